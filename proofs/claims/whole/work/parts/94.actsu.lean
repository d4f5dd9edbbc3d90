/-! ACTS: aside, undo -/
theorem putLast_c {F j m : Nat} {σ : Mem} {P A : Dat} {p : Int} (hP : RepP 17 σ P) (hS : RepS 26 σ A) (bP : Bd 1000000000 P) (bA : Bd 900000000 A) (hp : -1000 ≤ p ∧ p ≤ 1000) (hm : P 0 5 = (m : Int)) (hm8 : m ≤ 8) (hj : jobN P A p = (j : Int)) (hjm : j < m) (hF : 100 ≤ F) : m7_putLast F 26 17 (w32 p) σ = some (sI σ 34 j (w32 (mxN m A + 1))) := by
  have e5 : gI σ 17 5 = w32 (m : Int) := by rw [← hm]; exact hP.at 0 5
  have loop : ∀ (d n i : Nat) (s : Int), i + d = m → d < n → -900000000 ≤ s ∧ s ≤ 900000000 → m7_putLast_13 F 26 17 (w32 p) n (w32 (j : Int)) (w32 s) (w32 (i : Int)) σ = some (sI σ 34 j (w32 (mxL A d i s + 1))) := by
    intro d
    induction d with
    | zero =>
      intro n i s h1 h2 hs
      obtain ⟨n, rfl⟩ : ∃ k, n = k + 1 := ⟨n - 1, by omega⟩
      unfold m7_putLast_13
      rw [e5, if_pos (by rw [w_le (by omega) (by omega) (by omega) (by omega)]; omega), if_neg (by rw [wl_m1, w_eq (by omega) (by omega) (by omega) (by omega)]; omega), gd_pos (w_inB (by omega) (by omega) (by omega)), w_natk (by omega), wl_1, w_add]; rfl
    | succ d ih =>
      intro n i s h1 h2 hs
      obtain ⟨n, rfl⟩ : ∃ k, n = k + 1 := ⟨n - 1, by omega⟩
      have e8 : gI σ (26 + 8) i = w32 (A 8 i) := hS.at 8 i
      have b8 := bA 8 i
      unfold m7_putLast_13
      rw [e5, if_neg (by rw [w_le (by omega) (by omega) (by omega) (by omega)]; omega), gd_pos (w_inB (by omega) (by omega) (by omega)), w_natk (by omega), e8, mxI_w (by omega) (by omega) (by omega) (by omega), w_succ, ih n (i + 1) _ (by omega) (by omega) (by omega)]
      show _ = some (sI σ 34 j (w32 (mxL A d (i + 1) (if A 8 i ≤ s then s else A 8 i) + 1)))
      rw [show max s (A 8 i) = (if A 8 i ≤ s then s else A 8 i) by split <;> omega]
  unfold m7_putLast
  rw [jobOf_ok hP hS bP (bA.mono (by decide)) hp hm hm8 hF, Option.bind_some, hj]
  exact loop m F 0 0 (by omega) (by omega) (by omega)
theorem aside_q {F t : Nat} {S : Ab} {σ : Mem} (hC : CInv S σ) (hR : RInv S σ) (wfx : Wfx t S) (ht : t ≤ 600) (hF : 10000 ≤ F) (x : Int32) : Acts (t + 1) (m11_aside F x σ) (m12_aside F x) := by
  obtain ⟨c, rfl, c1, c2⟩ := arg x
  have wf := wfx.1
  have wPl := wf.1.1
  have wI := wf.1.2.1.1
  have rc6 := wf.2.1.1
  obtain ⟨m5, hm, hm8⟩ := wPl.1.2.1
  obtain ⟨n4, hn, hn3⟩ := wPl.1.2.2.1
  have hE := hR.E wf
  have hs := hasSmith_c (F := F) (z := c) hC.1.1 wPl.1 c1 c2
  have hr : ∀ σ1, RInv S σ1 → m12_isSmith F (w32 c) σ1 = _ := fun σ1 h => isSmith_r (F := F) (z := c) (h.E wf).1 wPl.1 c1 c2
  have bP := wPl.1.1
  have bA := wI.bd (show t ≤ 9000 by omega)
  have wfx1 := wfx.mono (show t ≤ t + 1 by omega)
  by_cases hc : 0 ≤ c ∧ c < wP (sW S) 0 4
  · obtain ⟨p, rfl⟩ : ∃ p : Nat, c = p := ⟨c.toNat, by omega⟩
    rw [if_pos hc] at hs
    have htd := toDo_ok (F := F) (p := (p : Int)) hC.1.1 hC.1.2.1 (bP.mono (by decide)) (bA.mono (by decide)) (by omega) hm hm8 (by omega)
    have trg := toDoL_rg (P := wP (sW S)) (A := wA (sW S)) (p := (p : Int)) m5 0 0
    have trg : 0 ≤ toDoN (wP (sW S)) (wA (sW S)) p ∧ toDoN (wP (sW S)) (wA (sW S)) p ≤ 8 := by
      unfold toDoN
      rw [hm, Int.toNat_natCast]
      omega
    have hom : ∀ σ1, RInv S σ1 → m12_openMany F (w32 (p : Int)) σ1 = _ := fun σ1 h => openMany_r (F := F) (p := (p : Int)) (h.E wf).1 wI.1 bP (bA.mono (by decide)) hm hm8 (by omega) (by omega)
    by_cases h2 : 2 ≤ toDoN (wP (sW S)) (wA (sW S)) p
    · obtain ⟨g1, g2, g3⟩ := jobN_rg (P := wP (sW S)) (A := wA (sW S)) (p := (p : Int)) hm
      have g0 := toDo_nil.mp (show 0 < toDoN (wP (sW S)) (wA (sW S)) p by omega)
      obtain ⟨j, hj⟩ : ∃ j : Nat, jobN (wP (sW S)) (wA (sW S)) p = j := ⟨(jobN (wP (sW S)) (wA (sW S)) p).toNat, by omega⟩
      have hjm : j < m5 := by omega
      have mx1 := (mxL_ge (B := wA (sW S)) m5 0 0).1
      have mx2 := mxL_le (B := wA (sW S)) (M := 10000 + t) (fun k => (wf.1.2.1.2.2.2 k).2) m5 0 0 (by omega)
      have mx1 : 0 ≤ mxN m5 (wA (sW S)) := mx1
      have mx2 : mxN m5 (wA (sW S)) ≤ 10000 + t := mx2
      obtain ⟨A', hA'⟩ : ∃ A', A' = up (up (wA (sW S)) 8 j (mxN m5 (wA (sW S)) + 1)) 1 p 0 := ⟨_, rfl⟩
      have wSt := wf.1.2.1
      have w2 := wPl.2.2.2.2.2.1
      have b1 := wI.1.2.1 p hc.2
      have wSt' : WfSt (wP (sW S)) A' (t + 1) := by
        rw [hA']
        refine wSt.ch wPl.1 (show t ≤ t + 1 by omega) (fun j => by rw [up_ne (Or.inl (by decide)), up_ne (Or.inl (by decide))]) (fun j => by rw [up_ne (Or.inl (by decide)), up_ne (Or.inl (by decide))]) (by rw [up_ne (Or.inl (by decide)), up_ne (Or.inl (by decide))]) (fun j => by rw [up_ne (Or.inl (by decide)), up_ne (Or.inl (by decide))]) (fun j => by rw [up_ne (Or.inl (by decide)), up_ne (Or.inl (by decide))]) (fun q hq => ?_) (fun k hk => by rw [up_ne (Or.inl (by decide)), up_ne (Or.inl (by decide))]; exact wI.1.2.2 k hk) (by rw [up_ne (Or.inl (by decide)), up_ne (Or.inl (by decide))]; exact wSt.2.1) (fun k => ?_) (((wI.2.2.2.1.mono (by omega)).up (by omega) (by omega)).up (by omega) (by omega))
        · rw [up_at]
          split
          · omega
          · rw [up_ne (Or.inl (by decide))]; exact wI.1.2.1 q hq
        · rw [up_ne (Or.inl (by decide)), up_at]
          have := wSt.2.2.2 k
          split <;> omega
      have bA' := wSt'.1.bd (show t + 1 ≤ 9000 by omega)
      obtain ⟨σa, ma, hCa⟩ := remember_c (F := F) hC wf (by omega)
      have mp := putLast_c (F := F) (p := (p : Int)) hCa.1.1 hCa.1.2.1 (bP.mono (by decide)) (bA.mono (by decide)) (by omega) hm hm8 hj hjm (by omega)
      have fa : Fr (fun c => c = 27 ∨ c = 34) σa (sI (sI σa 34 j (w32 (mxN m5 (wA (sW S)) + 1))) 27 p (w32 0)) := ((Fr.rf (fun c => c = 27 ∨ c = 34) σa).sI (Or.inr rfl)).sI (Or.inl rfl)
      have hS1 : RepS 26 (sI (sI σa 34 j (w32 (mxN m5 (wA (sW S)) + 1))) 27 p (w32 0)) A' := by rw [hA']; exact (hCa.1.2.1.up 8 j _).up 1 p 0
      have hC1 : CInv (wS S A') (sI (sI σa 34 j (w32 (mxN m5 (wA (sW S)) + 1))) 27 p (w32 0)) := act_c hCa rc6 fa (fun c z => by omega) hS1
      have mj := jobOf_ok (F := F) (p := (p : Int)) hC1.1.1 hC1.1.2.1 (bP.mono (by decide)) (bA'.mono (by decide)) (by omega) hm hm8 (by omega)
      have m1 : m11_aside F (w32 (p : Int)) σ = some (w32 (jobN (wP (sW S)) A' p), sI (sI σa 34 j (w32 (mxN m5 (wA (sW S)) + 1))) 27 p (w32 0)) := by
        unfold m11_aside
        rw [hs, Option.bind_some, if_neg (by decide), htd, Option.bind_some, if_pos (by rw [wl_2, w_le (by omega) (by omega) (by omega) (by omega)]; omega), ma, Option.bind_some, mp, Option.bind_some, gd_pos (w_inB (by omega) (by omega) (by omega)), w_natk (by omega)]
        show Option.bind (m7_jobOf F 26 17 (w32 (p : Int)) (sI (sI σa 34 j (w32 (mxN m5 (wA (sW S)) + 1))) 27 p (w32 0))) _ = _
        rw [mj]; rfl
      have f1 := f11_aside m1
      have hR1 := hR.cls wf f1 (fun c z => by unfold Wm11_aside at z; omega)
      obtain ⟨σb, mb, hRb⟩ := keepsAct_r (F := F) hR1 wf hF
      have hr := hr _ hR1
      rw [if_pos hc] at hr
      have hEb := hRb.E (pushS_wf wf)
      have mjb := jobNow_r (F := F) (K := Kp) (p := p) hEb.1 hEb.2.1 wI.1 wPl.1 (bA.mono (by decide)) (by decide) (by omega) (by omega)
      rw [jbs_Kp, show jobN (wP (sW (pushS S))) (wA (sW (pushS S))) (p : Int) = (j : Int) from hj] at mjb
      have mpb := putsBehind_r (F := F) hEb.1 (bA.mono (by decide)) hm hm8 hjm (by omega)
      have mpb : m12_putsBehind F (w32 (j : Int)) σb = some (sI σb 493 (sidx 8 j) (w32 (mxN m5 (wA (sW S)) + 1))) := mpb
      have hA2 : RepA (sI (sI σb 493 (sidx 8 j) (w32 (mxN m5 (wA (sW S)) + 1))) 493 (10 + 7 * p) (w32 0)) (wP (sW S)) A' := by
        rw [hA']
        exact (hEb.1.upd (show wP (sW S) 0 4 ≤ 3 by omega) (show wP (sW S) 0 5 ≤ 8 by omega) 8 j _ (by decide) (show (j : Int) < wP (sW S) 0 5 by omega)).upd (show wP (sW S) 0 4 ≤ 3 by omega) (show wP (sW S) 0 5 ≤ 8 by omega) 1 p 0 (by decide) hc.2
      have hQ2 : RepQ (sI (sI σb 493 (sidx 8 j) (w32 (mxN m5 (wA (sW S)) + 1))) 493 (10 + 7 * p) (w32 0)) Kp := hEb.2.1.sl (((Sl.rf (fun _ => False) σb).ne (by decide)).ne (by decide)) (fun _ _ _ _ z => z)
      have mj2 := jobNow_r (F := F) (K := Kp) (p := p) hA2 hQ2 wSt'.1.1 wPl.1 (bA'.mono (by decide)) (by decide) (by omega) (by omega)
      rw [jbs_Kp] at mj2
      have ix : (10 : Int32) + (7 : Int32) * w32 (p : Int) = w32 ((10 + 7 * p : Nat) : Int) := by rw [wl_10, wl_7, w_mul, w_add]; congr 1 <;> omega
      have m2 : m12_aside F (w32 (p : Int)) (sI (sI σa 34 j (w32 (mxN m5 (wA (sW S)) + 1))) 27 p (w32 0)) = some (w32 (jobN (wP (sW S)) A' p), sI (sI σb 493 (sidx 8 j) (w32 (mxN m5 (wA (sW S)) + 1))) 493 (10 + 7 * p) (w32 0)) := by
        unfold m12_aside
        rw [hr, Option.bind_some, if_neg (by decide), hom _ hR1, Option.bind_some, if_pos (by rw [wl_2, w_le (by omega) (by omega) (by omega) (by omega)]; omega), mb, Option.bind_some, mjb, Option.bind_some, mpb, Option.bind_some, ix, gd_pos (w_inB (by omega) (by omega) (by omega)), w_natk (by omega)]
        show Option.bind (m12_jobNow F (w32 (p : Int)) (sI (sI σb 493 (sidx 8 j) (w32 (mxN m5 (wA (sW S)) + 1))) 493 (10 + 7 * p) (w32 0))) _ = _
        rw [mj2]; rfl
      have f2 := f12_aside m2
      have fb : Fr (fun c => c = 493) σb (sI (sI σb 493 (sidx 8 j) (w32 (mxN m5 (wA (sW S)) + 1))) 493 (10 + 7 * p) (w32 0)) := ((Fr.rf (fun c => c = 493) σb).sI rfl).sI rfl
      refine ⟨wS S A', act_wf wfx (by omega) wSt', _, _, _, m1, m2, ?_, ?_⟩
      · exact hC1.fr rc6 f2 (fun c z => by unfold Wm12_aside at z; unfold Scr; omega)
      · refine act_r hRb wf.1.2.2.1.2.1 hA2 fb (fun c z => by omega) (fun j hj => by rw [gI_nec (by decide), gI_nec (by decide)]) (fun k h1 h2 => ?_)
        have e8 : sidx 8 j = 37 + 8 * j := rfl
        rw [gI_nej (by omega), gI_nej (by omega)]
    · refine ⟨S, wfx1, -1, σ, σ, ?_, ?_, hC, hR⟩
      · unfold m11_aside
        rw [hs, Option.bind_some, if_neg (by decide), htd, Option.bind_some, if_neg (by rw [wl_2, w_le (by omega) (by omega) (by omega) (by omega)]; omega)]
      · have hr := hr σ hR
        rw [if_pos hc] at hr
        unfold m12_aside
        rw [hr, Option.bind_some, if_neg (by decide), hom _ hR, Option.bind_some, if_neg (by rw [wl_2, w_le (by omega) (by omega) (by omega) (by omega)]; omega)]
  · refine ⟨S, wfx1, -1, σ, σ, ?_, ?_, hC, hR⟩
    · rw [if_neg hc] at hs
      unfold m11_aside
      rw [hs, Option.bind_some, if_pos rfl]
    · have hr := hr σ hR
      rw [if_neg hc] at hr
      unfold m12_aside
      rw [hr, Option.bind_some, if_pos rfl]
theorem undo21 {F p : Nat} {σ0 : Mem} (hp : p < 20) : ∀ (d n x : Nat) (σ : Mem), x + d = 98 → d < n → gI σ 483 34 = w32 (p : Int) → (∀ c, c ≠ 493 → gI σ c = gI σ0 c) → (∀ k, gI σ 493 k = if k < x then gI σ0 497 (98 * p + k) else gI σ0 493 k) → ∃ σ', m12_undo_21 F n (w32 (x : Int)) σ = some (w32 (p : Int), σ') ∧ (∀ c, c ≠ 493 → gI σ' c = gI σ0 c) ∧ ∀ k, gI σ' 493 k = if k < 98 then gI σ0 497 (98 * p + k) else gI σ0 493 k := by
  intro d
  induction d with
  | zero =>
    intro n x σ h1 h2 e2 e1 e3
    obtain ⟨n, rfl⟩ : ∃ k, n = k + 1 := ⟨n - 1, by omega⟩
    have hx : x = 98 := by omega
    subst hx
    unfold m12_undo_21
    rw [if_pos (by rw [wl_98, w_le (by omega) (by omega) (by omega) (by omega)]; omega), e2]
    exact ⟨_, rfl, e1, e3⟩
  | succ d ih =>
    intro n x σ h1 h2 e2 e1 e3
    obtain ⟨n, rfl⟩ : ∃ k, n = k + 1 := ⟨n - 1, by omega⟩
    have ex : (98 : Int32) * w32 (p : Int) + w32 (x : Int) = w32 ((98 * p + x : Nat) : Int) := by rw [wl_98, w_mul, w_add]; congr 1 <;> omega
    unfold m12_undo_21
    rw [if_neg (by rw [wl_98, w_le (by omega) (by omega) (by omega) (by omega)]; omega), e2, ex, gd_pos (w_inB (by omega) (by omega) (by omega)), gd_pos (w_inB (by omega) (by omega) (by omega)), w_natk (by omega), w_natk (by omega), w_succ]
    refine ih n (x + 1) _ (by omega) (by omega) (by rw [gI_nec (by decide)]; exact e2) (fun c hc => by funext j; rw [gI_nec hc, e1 c hc]) (fun k => ?_)
    by_cases hk : k = x
    · rw [hk, gI_eq, if_pos (by omega), e1 497 (by decide)]
    · rw [gI_nej (by omega), e3 k]
      by_cases a : k < x
      · rw [if_pos a, if_pos (by omega)]
      · rw [if_neg a, if_neg (by omega)]
theorem undo_q {F t : Nat} {S : Ab} {σ : Mem} (hC : CInv S σ) (hR : RInv S σ) (wfx : Wfx t S) (hF : 10000 ≤ F) : Acts t (m11_undo F σ) (m12_undo F) := by
  have wf := wfx.1
  have wPl := wf.1.1
  have rc6 := wf.2.1.1
  obtain ⟨m5, hm, hm8⟩ := wPl.1.2.1
  obtain ⟨n4, hn, hn3⟩ := wPl.1.2.2.1
  obtain ⟨pn, q1, q2, q3, q4⟩ := id hC.2.2.2.1
  have p20 := wf.2.2.2.1.1
  have r34 : ∀ σ1, RInv S σ1 → gI σ1 483 34 = w32 (sPc S : Int) := fun σ1 h => h.2.2.2.2.1.1
  by_cases h0 : sPc S = 0
  · refine ⟨S, wfx, -1, σ, σ, ?_, ?_, hC, hR⟩
    · unfold m11_undo
      rw [q3, h0, if_pos (show w32 ((0 : Nat) : Int) = (0 : Int32) from rfl)]
    · unfold m12_undo
      rw [r34 σ hR, h0, if_pos (show w32 ((0 : Nat) : Int) = (0 : Int32) from rfl)]
  · obtain ⟨pc, hpc⟩ : ∃ pc, sPc S = pc + 1 := ⟨sPc S - 1, by omega⟩
    have er : remI ((w32 (pn : Int) + (20 : Int32)) - (1 : Int32)) (20 : Int32) = w32 (((pn + 19) % 20 : Nat) : Int) := by
      rw [wl_20, wl_1, w_add, w_sub, show (pn : Int) + 20 - 1 = ((pn + 19 : Nat) : Int) by omega]
      exact w_remN (a := pn + 19) (b := 20) (by omega) (by omega)
    have e6 : w32 (sPc S : Int) - (1 : Int32) = w32 (pc : Int) := by rw [wl_1, w_sub, hpc]; congr 1; omega
    obtain ⟨σa, hσa⟩ : ∃ σa, σa = sI (sI σ 0 7 (w32 (((pn + 19) % 20 : Nat) : Int))) 0 6 (w32 (pc : Int)) := ⟨_, rfl⟩
    have fa : Fr (fun c => c = 0) σ σa := by rw [hσa]; exact ((Fr.rf (fun c => c = 0) σ).sI rfl).sI rfl
    have a7 : gI σa 0 7 = w32 (((pn + 19) % 20 : Nat) : Int) := by rw [hσa, gI_nej (by decide), gI_eq]
    have a6 : gI σa 0 6 = w32 (pc : Int) := by rw [hσa, gI_eq]
    have ep : pastAt pn (sPc S) pc = 187 + 10 * ((pn + 19) % 20) := by unfold pastAt; omega
    have hs := q4 pc (by omega)
    rw [ep] at hs
    obtain ⟨σ1, ms, s1⟩ := cpS_ok (F := F) (c0 := 26) (by omega) (by omega) (hs.fr fa (fun a ha => by omega))
    have fs := f7_copyFrom ms
    have m1 : m11_undo F σ = some (w32 (pc : Int), σ1) := by
      unfold m11_undo
      rw [q3, if_neg (by rw [wl_0, w_eq (by omega) (by omega) (by omega) (by omega)]; omega), q2, er]
      show gd (inB (gI (sI (sI σ 0 7 (w32 (((pn + 19) % 20 : Nat) : Int))) 0 6 (gI (sI σ 0 7 (w32 (((pn + 19) % 20 : Nat) : Int))) 0 6 - (1 : Int32))) 0 7) 20 = true) (Option.bind (m7_copyFrom F 26 (187 + 10 * (gI (sI (sI σ 0 7 (w32 (((pn + 19) % 20 : Nat) : Int))) 0 6 (gI (sI σ 0 7 (w32 (((pn + 19) % 20 : Nat) : Int))) 0 6 - (1 : Int32))) 0 7).toNatClampNeg) (sI (sI σ 0 7 (w32 (((pn + 19) % 20 : Nat) : Int))) 0 6 (gI (sI σ 0 7 (w32 (((pn + 19) % 20 : Nat) : Int))) 0 6 - (1 : Int32)))) _) = _
      rw [gI_nej (σ := σ) (show (6 : Nat) ≠ 7 by decide), q3, e6, ← hσa, a7, gd_pos (w_inB (by omega) (by omega) (by omega)), w_natk (by omega), ms, Option.bind_some, fs.gI (by unfold Wm7_copyFrom; omega), a6]
    have f1 := f11_undo m1
    have hR1 := hR.cls wf f1 (fun c z => by unfold Wm11_undo at z; omega)
    obtain ⟨a, b, d, e, g⟩ := hC.1
    have hC1 : CInv (stW S (wP (sW S), sH S pc, wN (sW S), wF (sW S), wX (sW S)) pc (sH S)) σ1 := by
      refine hC.W rc6 f1 (fun c z => by unfold Wm11_undo at z; omega) ⟨a.fr f1 (fun i hi => by unfold Wm11_undo; omega), s1, d.fr f1 (fun i hi => by unfold Wm11_undo; omega), by rw [f1.gI (by unfold Wm11_undo; omega)]; exact e, by rw [f1.gI (by unfold Wm11_undo; omega)]; exact g⟩ ?_ ⟨(pn + 19) % 20, by omega, ?_, ?_, fun i hi => ?_⟩
      · rw [fs.gI (by unfold Wm7_copyFrom; omega), hσa, gI_nej (by decide), gI_nej (by decide)]
      · rw [fs.gI (by unfold Wm7_copyFrom; omega), a7]
      · rw [fs.gI (by unfold Wm7_copyFrom; omega), a6]
      · rw [show pastAt ((pn + 19) % 20) pc i = pastAt pn (sPc S) i by unfold pastAt; omega]
        refine (q4 i (by omega)).fr f1 (fun a ha => ?_)
        have := past_rg (pn := pn) (pc := sPc S) (i := i)
        unfold Wm11_undo
        omega
    obtain ⟨σ2, mu, u1, u2⟩ := undo21 (F := F) (p := pc) (σ0 := sI σ1 483 34 (w32 (pc : Int))) (by omega) 98 F 0 (sI σ1 483 34 (w32 (pc : Int))) (by omega) (by omega) (by rw [gI_eq]) (fun _ _ => rfl) (fun k => by rw [if_neg (by omega)])
    have m2 : m12_undo F σ1 = some (w32 (pc : Int), σ2) := by
      unfold m12_undo
      rw [r34 σ1 hR1, if_neg (by rw [wl_0, w_eq (by omega) (by omega) (by omega) (by omega)]; omega), e6]
      exact mu
    have f2 := f12_undo m2
    have n93 : ∀ k, 98 ≤ k → gI σ2 493 k = gI σ1 493 k := fun k hk => by rw [u2, if_neg (by omega), gI_nec (by decide)]
    have wSt := wf.2.2.2.1.2 pc (by omega)
    refine ⟨stW S (wP (sW S), sH S pc, wN (sW S), wF (sW S), wX (sW S)) pc (sH S), ⟨⟨⟨wPl, wSt, wf.1.2.2⟩, wf.2.1, wf.2.2.1, ⟨by show pc ≤ 20; omega, fun i hi => ?_⟩, wf.2.2.2.2⟩, wfx.2⟩, _, _, _, m1, m2, ?_, ?_⟩
    · have hi : i < pc := hi
      exact wf.2.2.2.1.2 i (by omega)
    · exact hC1.fr rc6 f2 (fun c z => by unfold Wm12_undo at z; unfold Scr; omega)
    · refine hR1.W ⟨(hR1.2.2.2.2.1.2 pc (by omega)).same (by show wP (sW S) 0 4 ≤ 3; omega) (by show wP (sW S) 0 5 ≤ 8; omega) (fun k hk => ?_), fun k hk => ?_⟩ ⟨?_, fun i hi => ?_⟩ ?_ ?_ (fun j hj => ?_) ?_ (fun i hi => ?_) (fun c hc => f2.gI (by unfold Wm12_undo; omega))
      · rw [u2, if_pos (by omega), gI_nec (by decide)]
      · rw [n93 _ (by omega)]; exact hR1.1.1.2 k hk
      · rw [n93 _ (by omega)]; exact hR1.1.2.1
      · rw [n93 _ (by omega), n93 _ (by omega), n93 _ (by omega)]; exact hR1.1.2.2 i hi
      · rw [u1 483 (by decide), gI_nej (by decide)]; exact hR1.2.1.1
      · rw [u1 483 (by decide), gI_nej (by decide)]; exact hR1.2.1.2.1
      · rw [u1 483 (by decide), gI_nej (by omega)]
      · rw [u1 483 (by decide), gI_eq]
      · rw [f2.gI (by unfold Wm12_undo; omega)]; exact hR1.2.2.2.2.1.2 i (by omega)
