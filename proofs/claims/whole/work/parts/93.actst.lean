/-! ACTS that change the state: quench, mend, aside -/
def wS (S : Ab) (A : Dat) : Ab := stW S (wP (sW S), A, wN (sW S), wF (sW S), wX (sW S)) (npc S) (nh S)
theorem act_c {V : Nat → Prop} {S : Ab} {σa σ1 : Mem} {A : Dat} (hC : CInv (pushS S) σa) (rc : sRc S ≤ 6) (f : Fr V σa σ1) (hv : ∀ c, V c → (26 ≤ c ∧ c ≤ 35) ∨ (40 ≤ c ∧ c ≤ 150) ∨ (151 ≤ c ∧ c ≤ 186 ∧ c % 6 = 0) ∨ c = 1000) (h : RepS 26 σ1 A) : CInv (wS S A) σ1 := by
  obtain ⟨a, b, d, e, g⟩ := hC.1
  exact hC.W0 (S := pushS S) (w := (wP (sW S), A, wN (sW S), wF (sW S), wX (sW S))) rc f (fun c z => by have := hv c z; unfold Scr; omega) ⟨a.fr f (fun i hi z => by have := hv _ z; omega), h, d.fr f (fun i hi z => by have := hv _ z; omega), by rw [f.gI (fun z => by have := hv _ z; omega)]; exact e, by rw [f.gI (fun z => by have := hv _ z; omega)]; exact g⟩
theorem act_r {V : Nat → Prop} {S : Ab} {σa σ1 : Mem} {A : Dat} (hR : RInv (pushS S) σa) (hN10 : wN (sW S) 0 0 ≤ 10) (hA : RepA σ1 (wP (sW S)) A) (f : Fr V σa σ1) (hv : ∀ c, V c → c = 483 ∨ (491 ≤ c ∧ c ≤ 496)) (s : ∀ j, j = 1 ∨ j = 2 ∨ (21 ≤ j ∧ j ≤ 28) ∨ j = 34 → gI σ1 483 j = gI σa 483 j) (hN : ∀ k, 101 ≤ k → k < 132 → gI σ1 493 k = gI σa 493 k) : RInv (wS S A) σ1 := by
  have no : ∀ c, c ≠ 483 → ¬ (491 ≤ c ∧ c ≤ 496) → gI σ1 c = gI σa c := fun c h1 h2 => f.gI (fun z => by have := hv _ z; omega)
  refine RInv.W (S := pushS S) (w := (wP (sW S), A, wN (sW S), wF (sW S), wX (sW S))) (pc := npc S) (h := nh S) hR hA.S ⟨?_, fun i hi => ?_⟩ ?_ ?_ (fun j hj => s j (by omega)) ?_ (fun i hi => ?_) (fun c hc => no c (by omega) (by omega))
  · rw [hN 131 (by decide) (by decide)]; exact hR.1.2.1
  · have hi' : (i : Int) < wN (sW S) 0 0 := hi
    rw [hN _ (by omega) (by omega), hN _ (by omega) (by omega), hN _ (by omega) (by omega)]
    exact hR.1.2.2 i hi
  · rw [s 21 (by omega)]; exact hR.2.1.1
  · rw [s 22 (by omega)]; exact hR.2.1.2.1
  · rw [s 34 (by omega)]; exact hR.2.2.2.2.1.1
  · rw [no 497 (by omega) (by omega)]; exact hR.2.2.2.2.1.2 i hi
theorem earnL_congr {P A B : Dat} {p : Int} (h : ∀ j, (B 6 j = 0 ↔ A 6 j = 0)) : ∀ (d j : Nat) (s : Int), earnL P B p d j s = earnL P A p d j s
  | 0, _, _ => rfl
  | d + 1, j, s => by
    unfold earnL
    rw [earnL_congr h d (j + 1)]
    have := h j
    by_cases e : P 2 j = p ∧ A 6 j = 0
    · rw [if_pos e, if_pos ⟨e.1, this.mpr e.2⟩]
    · rw [if_neg e, if_neg (fun z => e ⟨z.1, this.mp z.2⟩)]
theorem WfSt.ch {P A B : Dat} {t t' : Nat} (h : WfSt P A t) (wP : WfP P) (ht : t ≤ t') (h6 : ∀ j, B 6 j = A 6 j) (h7 : ∀ j, B 7 j = A 7 j) (h0 : B 0 0 = A 0 0) (h2 : ∀ q, B 2 q = A 2 q) (h10 : ∀ q, B 10 q = A 10 q) (h1 : ∀ p : Nat, (p : Int) < P 0 4 → 0 ≤ B 1 p ∧ B 1 p ≤ P 0 2) (h9 : ∀ k, k < 4 → 0 ≤ B 9 k) (h93 : B 9 3 = 0) (h8 : ∀ j, 0 ≤ B 8 j ∧ B 8 j ≤ 10000 + t') (hb : Bd (100000 + 10000 * t') B) : WfSt P B t' := by
  obtain ⟨⟨a1, a2, a3, a4, a5, a6⟩, b, c, d⟩ := h
  obtain ⟨m, hm, hm8⟩ := wP.2.1
  refine ⟨⟨⟨fun j hj => by rw [h6, h7]; exact a1.1 j hj, h1, h9⟩, by omega, by omega, hb, fun p hp hj => ?_, by omega⟩, h93, fun p hp => ?_, h8⟩
  · rw [h2]
    refine a5 p hp (Classical.byContradiction fun hn => ?_)
    obtain ⟨r1, r2, r3⟩ := jobN_rg (P := P) (A := A) (p := (p : Int)) hm
    have ho := r3 (by omega)
    refine jobN_some (P := P) (A := B) hm (k := (jobN P A p).toNat) (by omega) ?_ hj
    unfold opn at ho ⊢
    rw [h6]; exact ho
  · rw [h10, c p hp]
    unfold earnN
    exact (earnL_congr (fun j => by rw [h6]) _ _ _).symm
theorem act_wf {t t' : Nat} {S : Ab} {A : Dat} (wfx : Wfx t S) (ht : t ≤ t') (h : WfSt (wP (sW S)) A t') : Wfx t' (wS S A) := by
  have w2 := pushS_wf (wfx.1.mono ht)
  exact ⟨⟨⟨w2.1.1, h, w2.1.2.2⟩, w2.2⟩, wfx.2⟩
theorem quench_q {F t : Nat} {S : Ab} {σ : Mem} (hC : CInv S σ) (hR : RInv S σ) (wfx : Wfx t S) (ht : t ≤ 600) (hF : 10000 ≤ F) (x : Int32) : Acts t (m11_quench F x σ) (m12_quench F x) := by
  obtain ⟨c, rfl, c1, c2⟩ := arg x
  have wf := wfx.1
  have wPl := wf.1.1
  have wI := wf.1.2.1.1
  have rc6 := wf.2.1.1
  obtain ⟨m5, hm, hm8⟩ := wPl.1.2.1
  obtain ⟨n4, hn, hn3⟩ := wPl.1.2.2.1
  have hE := hR.E wf
  have hs := hasSmith_c (F := F) (z := c) hC.1.1 wPl.1 c1 c2
  have hr : ∀ σ1, RInv S σ1 → m12_isSmith F (w32 c) σ1 = _ := fun σ1 h => isSmith_r (F := F) (z := c) (h.E wf).1 wPl.1 c1 c2
  by_cases hc : 0 ≤ c ∧ c < wP (sW S) 0 4
  · obtain ⟨p, rfl⟩ : ∃ p : Nat, c = p := ⟨c.toNat, by omega⟩
    rw [if_pos hc] at hs
    have e1 : gI σ 27 p = w32 (wA (sW S) 1 p) := hC.1.2.1.at 1 p
    have b1 := wI.1.2.1 p hc.2
    have w2 := wPl.2.2.2.2.2.1
    by_cases h0 : wA (sW S) 1 p = 0
    · refine ⟨S, wfx, -1, σ, σ, ?_, ?_, hC, hR⟩
      · unfold m11_quench
        rw [hs, Option.bind_some, if_neg (by decide), gd_pos (w_inB (by omega) (by omega) (by omega)), w_natk (by omega), e1, h0, if_pos (show w32 0 = (0 : Int32) from rfl)]
      · have hr := hr σ hR
        rw [if_pos hc] at hr
        have e2 : gI σ 493 (10 + 7 * p) = w32 (wA (sW S) 1 p) := hE.1.1 1 p (by decide) hc.2
        unfold m12_quench
        rw [hr, Option.bind_some, if_neg (by decide), so_0 (by omega), Option.bind_some, e2, h0, if_pos (show w32 0 = (0 : Int32) from rfl)]
    · obtain ⟨σa, ma, hCa⟩ := remember_c (F := F) hC wf (by omega)
      have ea : gI σa 27 p = w32 (wA (sW S) 1 p) := hCa.1.2.1.at 1 p
      have m1 : m11_quench F (w32 (p : Int)) σ = some (w32 (wA (sW S) 1 p), sI σa 27 p (0 : Int32)) := by
        unfold m11_quench
        rw [hs, Option.bind_some, if_neg (by decide), gd_pos (w_inB (by omega) (by omega) (by omega)), w_natk (by omega), e1, if_neg (by rw [wl_0, w_eq (by omega) (by omega) (by omega) (by omega)]; exact h0), ma, Option.bind_some, gd_pos (w_inB (by omega) (by omega) (by omega)), gd_pos (w_inB (by omega) (by omega) (by omega)), ea]
      have f1 := f11_quench m1
      have fa : Fr (fun c => c = 27) σa (sI σa 27 p (0 : Int32)) := (Fr.rf (fun c => c = 27) σa).sI rfl
      have hC1 : CInv (wS S (up (wA (sW S)) 1 p 0)) (sI σa 27 p (0 : Int32)) := act_c hCa rc6 fa (fun c z => by omega) (hCa.1.2.1.up 1 p 0)
      have hR1 := hR.cls wf f1 (fun c z => by unfold Wm11_quench at z; omega)
      obtain ⟨σb, mb, hRb⟩ := keepsAct_r (F := F) hR1 wf hF
      have hr := hr _ hR1
      rw [if_pos hc] at hr
      have hEb := hRb.E (pushS_wf wf)
      have eb1 : gI (sI σa 27 p (0 : Int32)) 493 (10 + 7 * p) = w32 (wA (sW S) 1 p) := (hR1.E wf).1.1 1 p (by decide) hc.2
      have eb : gI σb 493 (10 + 7 * p) = w32 (wA (sW S) 1 p) := hEb.1.1 1 p (by decide) hc.2
      have ix : (10 : Int32) + (7 : Int32) * w32 (p : Int) = w32 ((10 + 7 * p : Nat) : Int) := by rw [wl_10, wl_7, w_mul, w_add]; congr 1 <;> omega
      have m2 : m12_quench F (w32 (p : Int)) (sI σa 27 p (0 : Int32)) = some (w32 (wA (sW S) 1 p), sI σb 493 (10 + 7 * p) (w32 0)) := by
        unfold m12_quench
        rw [hr, Option.bind_some, if_neg (by decide), so_0 (by omega), Option.bind_some, eb1, if_neg (by rw [wl_0, w_eq (by omega) (by omega) (by omega) (by omega)]; exact h0), mb, Option.bind_some, so_0 (by omega), Option.bind_some, eb, ix, gd_pos (w_inB (by omega) (by omega) (by omega)), w_natk (by omega)]; rfl
      have f2 := f12_quench m2
      have fb : Fr (fun c => c = 493) σb (sI σb 493 (10 + 7 * p) (w32 0)) := (Fr.rf (fun c => c = 493) σb).sI rfl
      refine ⟨wS S (up (wA (sW S)) 1 p 0), act_wf wfx (Nat.le_refl t) ?_, _, _, _, m1, m2, ?_, ?_⟩
      · have wSt := wf.1.2.1
        refine wSt.ch wPl.1 (Nat.le_refl t) (fun j => up_ne (Or.inl (by decide))) (fun j => up_ne (Or.inl (by decide))) (up_ne (Or.inl (by decide))) (fun j => up_ne (Or.inl (by decide))) (fun j => up_ne (Or.inl (by decide))) (fun q hq => ?_) (fun k hk => by rw [up_ne (Or.inl (by decide))]; exact wI.1.2.2 k hk) (by rw [up_ne (Or.inl (by decide))]; exact wSt.2.1) (fun j => by rw [up_ne (Or.inl (by decide))]; exact wSt.2.2.2 j) (wI.2.2.2.1.up (by omega) (by omega))
        rw [up_at]
        split
        · omega
        · exact wI.1.2.1 q hq
      · exact hC1.fr rc6 f2 (fun c z => by unfold Wm12_quench at z; unfold Scr; omega)
      · exact act_r hRb wf.1.2.2.1.2.1 (hEb.1.upd (show wP (sW S) 0 4 ≤ 3 by omega) (show wP (sW S) 0 5 ≤ 8 by omega) 1 p 0 (by decide) hc.2) fb (fun c z => by omega) (fun j hj => by rw [gI_nec (by decide)]) (fun k h1 h2 => by rw [gI_nej (by omega)])
  · refine ⟨S, wfx, -1, σ, σ, ?_, ?_, hC, hR⟩
    · rw [if_neg hc] at hs
      unfold m11_quench
      rw [hs, Option.bind_some, if_pos rfl]
    · have hr := hr σ hR
      rw [if_neg hc] at hr
      unfold m12_quench
      rw [hr, Option.bind_some, if_pos rfl]
theorem mend_q {F t : Nat} {S : Ab} {σ : Mem} (hC : CInv S σ) (hR : RInv S σ) (wfx : Wfx t S) (ht : t ≤ 600) (hF : 10000 ≤ F) (x : Int32) : Acts t (m11_mend F x σ) (m12_mend F x) := by
  obtain ⟨c, rfl, c1, c2⟩ := arg x
  have wf := wfx.1
  have wPl := wf.1.1
  have wI := wf.1.2.1.1
  have rc6 := wf.2.1.1
  obtain ⟨m5, hm, hm8⟩ := wPl.1.2.1
  obtain ⟨n4, hn, hn3⟩ := wPl.1.2.2.1
  have hE := hR.E wf
  have hs := hasPart_c (F := F) (z := c) hC.1.1 wPl c1 c2
  have inW : ∀ τ, m12_in F (w32 c).toInt64 (0 : Int64) (2 : Int64) τ = some (if 0 ≤ c ∧ c ≤ 2 then (1 : Int32) else 0) := fun τ => in_r rfl rfl c1 c2 (by decide) (by decide)
  have hr : ∀ σ1, RInv S σ1 → m12_isSmithy F σ1 = _ := fun σ1 h => isSmithy_r (F := F) (h.E wf).1 wPl
  by_cases h1 : wP (sW S) 0 0 = 1
  · by_cases hc : 0 ≤ c ∧ c ≤ 2
    · obtain ⟨p, rfl⟩ : ∃ p : Nat, c = p := ⟨c.toNat, by omega⟩
      have hin := inW
      rw [if_pos ⟨h1, hc⟩] at hs
      rw [if_pos hc] at hin
      have e1 : gI σ 35 p = w32 (wA (sW S) 9 p) := hC.1.2.1.at 9 p
      have b1 := wI.1.2.2 p (by omega)
      have b2 := wI.2.2.2.1 9 p
      have ix : (95 : Int32) + w32 (p : Int) = w32 ((95 + p : Nat) : Int) := by rw [wl_95, w_add]; congr 1
      by_cases h0 : wA (sW S) 9 p = 0
      · refine ⟨S, wfx, -1, σ, σ, ?_, ?_, hC, hR⟩
        · unfold m11_mend
          rw [hs, Option.bind_some, if_neg (by decide), gd_pos (w_inB (by omega) (by omega) (by omega)), w_natk (by omega), e1, h0, if_pos (show w32 0 = (0 : Int32) from rfl)]
        · have hr := hr σ hR
          rw [if_pos h1] at hr
          have e2 : gI σ 493 (95 + p) = w32 (wA (sW S) 9 p) := hE.1.1 9 p (by decide) (by show p < 3; omega)
          unfold m12_mend
          rw [hr, Option.bind_some, if_neg (by decide), hin, Option.bind_some, if_neg (by decide), ix, gd_pos (w_inB (by omega) (by omega) (by omega)), w_natk (by omega), e2, h0, if_pos (show w32 0 = (0 : Int32) from rfl)]
      · obtain ⟨a, ha⟩ : ∃ a : Nat, wA (sW S) 9 p = a := ⟨(wA (sW S) 9 p).toNat, by omega⟩
        have ed : w32 (a : Int) / (2 : Int32) = w32 ((a / 2 : Nat) : Int) := w_divN (a := a) (b := 2) (by omega) (by omega)
        obtain ⟨σa, ma, hCa⟩ := remember_c (F := F) hC wf (by omega)
        have ea : gI σa 35 p = w32 (a : Int) := by rw [← ha]; exact hCa.1.2.1.at 9 p
        have m1 : m11_mend F (w32 (p : Int)) σ = some (w32 ((a / 2 : Nat) : Int), sI σa 35 p (w32 ((a / 2 : Nat) : Int))) := by
          unfold m11_mend
          rw [hs, Option.bind_some, if_neg (by decide), gd_pos (w_inB (by omega) (by omega) (by omega)), w_natk (by omega), e1, if_neg (by rw [wl_0, w_eq (by omega) (by omega) (by omega) (by omega)]; exact h0), ma, Option.bind_some, gd_pos (w_inB (by omega) (by omega) (by omega)), gd_pos (w_inB (by omega) (by omega) (by omega)), ea, ed]
          show gd (inB (w32 (p : Int)) 4 = true) (some (gI (sI σa 35 p (w32 ((a / 2 : Nat) : Int))) 35 p, _)) = _
          rw [gd_pos (w_inB (by omega) (by omega) (by omega)), gI_eq]
        have f1 := f11_mend m1
        have fa : Fr (fun c => c = 35) σa (sI σa 35 p (w32 ((a / 2 : Nat) : Int))) := (Fr.rf (fun c => c = 35) σa).sI rfl
        have hC1 : CInv (wS S (up (wA (sW S)) 9 p ((a / 2 : Nat) : Int))) (sI σa 35 p (w32 ((a / 2 : Nat) : Int))) := act_c hCa rc6 fa (fun c z => by omega) (hCa.1.2.1.up 9 p _)
        have hR1 := hR.cls wf f1 (fun c z => by unfold Wm11_mend at z; omega)
        obtain ⟨σb, mb, hRb⟩ := keepsAct_r (F := F) hR1 wf hF
        have hr := hr _ hR1
        rw [if_pos h1] at hr
        have hEb := hRb.E (pushS_wf wf)
        have eb1 : gI (sI σa 35 p (w32 ((a / 2 : Nat) : Int))) 493 (95 + p) = w32 (wA (sW S) 9 p) := (hR1.E wf).1.1 9 p (by decide) (by show p < 3; omega)
        have eb : gI σb 493 (95 + p) = w32 (a : Int) := by rw [← ha]; exact hEb.1.1 9 p (by decide) (by show p < 3; omega)
        have m2 : m12_mend F (w32 (p : Int)) (sI σa 35 p (w32 ((a / 2 : Nat) : Int))) = some (w32 ((a / 2 : Nat) : Int), sI σb 493 (95 + p) (w32 ((a / 2 : Nat) : Int))) := by
          unfold m12_mend
          rw [hr, Option.bind_some, if_neg (by decide), hin, Option.bind_some, if_neg (by decide), ix, gd_pos (w_inB (by omega) (by omega) (by omega)), w_natk (by omega), eb1, if_neg (by rw [wl_0, w_eq (by omega) (by omega) (by omega) (by omega)]; exact h0), mb, Option.bind_some, gd_pos (w_inB (by omega) (by omega) (by omega)), gd_pos (w_inB (by omega) (by omega) (by omega)), eb, ed]
          show gd (inB (w32 ((95 + p : Nat) : Int)) 132 = true) (some (gI (sI σb 493 (95 + p) (w32 ((a / 2 : Nat) : Int))) 493 (95 + p), _)) = _
          rw [gd_pos (w_inB (by omega) (by omega) (by omega)), gI_eq]
        have f2 := f12_mend m2
        have fb : Fr (fun c => c = 493) σb (sI σb 493 (95 + p) (w32 ((a / 2 : Nat) : Int))) := (Fr.rf (fun c => c = 493) σb).sI rfl
        refine ⟨wS S (up (wA (sW S)) 9 p ((a / 2 : Nat) : Int)), act_wf wfx (Nat.le_refl t) ?_, _, _, _, m1, m2, ?_, ?_⟩
        · have wSt := wf.1.2.1
          refine wSt.ch wPl.1 (Nat.le_refl t) (fun j => up_ne (Or.inl (by decide))) (fun j => up_ne (Or.inl (by decide))) (up_ne (Or.inl (by decide))) (fun j => up_ne (Or.inl (by decide))) (fun j => up_ne (Or.inl (by decide))) (fun q hq => by rw [up_ne (Or.inl (by decide))]; exact wI.1.2.1 q hq) (fun k hk => ?_) (by rw [up_ne (Or.inr (by omega))]; exact wSt.2.1) (fun j => by rw [up_ne (Or.inl (by decide))]; exact wSt.2.2.2 j) (wI.2.2.2.1.up (by omega) (by omega))
          rw [up_at]
          split
          · omega
          · exact wI.1.2.2 k hk
        · exact hC1.fr rc6 f2 (fun c z => by unfold Wm12_mend at z; unfold Scr; omega)
        · exact act_r hRb wf.1.2.2.1.2.1 (hEb.1.upd (show wP (sW S) 0 4 ≤ 3 by omega) (show wP (sW S) 0 5 ≤ 8 by omega) 9 p _ (by decide) (by show p < 3; omega)) fb (fun c z => by omega) (fun j hj => by rw [gI_nec (by decide)]) (fun k h1 h2 => by rw [gI_nej (by omega)])
    · refine ⟨S, wfx, -1, σ, σ, ?_, ?_, hC, hR⟩
      · rw [if_neg (fun z => hc z.2)] at hs
        unfold m11_mend
        rw [hs, Option.bind_some, if_pos rfl]
      · have hr := hr σ hR
        rw [if_pos h1] at hr
        have hin := inW σ
        rw [if_neg hc] at hin
        unfold m12_mend
        rw [hr, Option.bind_some, if_neg (by decide), hin, Option.bind_some, if_pos rfl]
  · refine ⟨S, wfx, -1, σ, σ, ?_, ?_, hC, hR⟩
    · rw [if_neg (fun z => h1 z.1)] at hs
      unfold m11_mend
      rw [hs, Option.bind_some, if_pos rfl]
    · have hr := hr σ hR
      rw [if_neg h1] at hr
      unfold m12_mend
      rw [hr, Option.bind_some, if_pos rfl]
