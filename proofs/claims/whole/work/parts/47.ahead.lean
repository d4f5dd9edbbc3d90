/-! QUERIES: ahead, ready, all -/
def Ans (S : Ab) (a : Option (Int32 × Mem)) (b : Mem → Option (Int32 × Mem)) : Prop := ∃ r σ1 σ2, a = some (r, σ1) ∧ b σ1 = some (r, σ2) ∧ CInv S σ2 ∧ RInv S σ2
theorem cls_q {S : Ab} {σ σ1 : Mem} {t : Nat} {W : Nat → Prop} (hC : CInv S σ) (hR : RInv S σ) (wf : Wf t S) (f : Fr W σ σ1) (hw : ∀ c, W c → (40 ≤ c ∧ c ≤ 150) ∨ (151 ≤ c ∧ c ≤ 186 ∧ c % 6 = 0) ∨ c = 1000) : CInv S σ1 ∧ RInv S σ1 := by
  obtain ⟨m5, hm, hm8⟩ := wf.1.1.1.2.1
  obtain ⟨n4, hn, hn3⟩ := wf.1.1.1.2.2.1
  refine ⟨hC.fr wf.2.1.1 f (fun c h => by have := hw c h; unfold Scr; omega), hR.same (by omega) (by omega) wf.1.2.2.1.2.1 (fun k _ => by rw [f.gI (fun z => by have := hw _ z; omega)]) (fun j _ => by rw [f.gI (fun z => by have := hw _ z; omega)]) (fun c hc => f.gI (fun z => by have := hw _ z; omega))⟩
theorem ref_q {S : Ab} {σ σ1 : Mem} {t : Nat} {W : Nat → Prop} (hC : CInv S σ) (wf : Wf t S) (f : Fr W σ σ1) (hw : ∀ c, W c → 483 ≤ c ∧ c ≤ 509) : CInv S σ1 :=
  hC.fr wf.2.1.1 f (fun c h => by have := hw c h; unfold Scr; omega)
def Wq (c : Nat) : Prop := c = 483 ∨ (489 ≤ c ∧ c ≤ 496) ∨ (498 ≤ c ∧ c ≤ 505)
def Vq (j : Nat) : Prop := j ≠ 1 ∧ j ≠ 2 ∧ (j < 21 ∨ j = 27 ∨ 28 < j) ∧ j ≠ 34
/-- the reference looks ahead, since σ0: what was said lies in its copy -/
def Tr (σ0 σ : Mem) : Prop := (∀ j, j < 98 → gI σ 498 j = gI σ0 493 j) ∧ Tl σ0 σ ∧ Fr Wq σ0 σ ∧ Sl Vq σ0 σ
theorem Tr.step {σ0 σ σ' : Mem} {W V : Nat → Prop} (h : Tr σ0 σ) (t : Tl σ σ') (f : Fr W σ σ') (s : Sl V σ σ') (hW : ∀ c, W c → Wq c ∧ c ≠ 498) (hV : ∀ j, V j → Vq j) : Tr σ0 σ' :=
  ⟨fun j hj => by rw [f.gI (fun z => (hW _ z).2 rfl)]; exact h.1 j hj, h.2.1.trans t, h.2.2.1.trans (f.mono (fun c z => (hW c z).1)), h.2.2.2.trans (s.mono hV)⟩
theorem Tr.pass {σ0 σ σ' : Mem} (h : Tr σ0 σ) (t : Tl σ σ') (f : Fr (fun c => c = 483 ∨ (491 ≤ c ∧ c ≤ 496)) σ σ') (s : Sl (fun j => j = 18 ∨ j = 27 ∨ j = 32) σ σ') : Tr σ0 σ' :=
  h.step t f s (fun c z => ⟨by unfold Wq; omega, by omega⟩) (fun j z => by unfold Vq; omega)
theorem keep_t {F t : Nat} {S : Ab} {σ : Mem} (hR : RInv S σ) (wf : Wf t S) (hF : 100 ≤ F) : ∃ σ', m12_keeps F σ = some σ' ∧ RE Kp (roOf S) (wP (sW S)) (wA (sW S)) σ' ∧ Tr σ σ' := by
  obtain ⟨σ', m, e, k, t, f, s⟩ := keep_r hR wf hF
  exact ⟨σ', m, e, k, t, f.mono (fun c z => by unfold Wq; omega), s.mono (fun j z => by unfold Vq; omega)⟩
theorem back_t {F t : Nat} {S : Ab} {σ0 σ : Mem} (hC : CInv S σ0) (hR : RInv S σ0) (wf : Wf t S) (h : Tr σ0 σ) (hF : 100 ≤ F) : ∃ σ', m12_laysBack F σ = some σ' ∧ RInv S σ' ∧ CInv S σ' ∧ gI σ' 493 = gI σ0 493 ∧ (∀ c, c ≠ 483 → c ≠ 493 → gI σ' c = gI σ c) ∧ (∀ j, j ≠ 27 → gI σ' 483 j = gI σ 483 j) := by
  obtain ⟨σ', m, a, b, f, c, d⟩ := back_r hR wf h.1 h.2.1 h.2.2.1 h.2.2.2 (fun c z => by unfold Wq at z; omega) (fun j z => by unfold Vq at z; omega) hF
  exact ⟨σ', m, a, ref_q hC wf f (fun c z => by omega), b, c, d⟩
theorem copy46 {F : Nat} {S : Ab} {σ : Mem} {K : Nat → Int} {ro : Option Dat} (hC : CInv S σ) (hK : RepC σ K) (hro : RepRo σ ro) (hF : 100 ≤ F) : ∃ σ', m7_copyFrom F 46 26 σ = some σ' ∧ CE 46 K ro (wP (sW S)) (wA (sW S)) σ' := by
  have h26 : RepS 26 σ (wA (sW S)) := hC.1.2.1
  have h17 : RepP 17 σ (wP (sW S)) := hC.1.1
  obtain ⟨σ', m, s⟩ := cpS_ok (F := F) (c0 := 46) (by decide) hF h26
  have f := f7_copyFrom m
  exact ⟨σ', m, h17.fr f (fun i hi => by unfold Wm7_copyFrom; omega), s, hK.fr f (by unfold Wm7_copyFrom; omega), hro.fr f (fun c z => by unfold Wm7_copyFrom at z; omega)⟩
theorem StC46 : StC 46 := by unfold StC; omega
theorem Kp2 : ∀ p : Nat, (p : Int) ≠ Kp 2 := fun p => by show (p : Int) ≠ -1; omega
/-- AHEAD -/
def aheadN (P A : Dat) (p : Nat) (w : Int) : Int := if w = 0 then A 1 p else if w = 2 then A 3 p else if jobN P A p = -1 then 0 else A 6 (jobN P A p).toNat
theorem goOn_c {F c1 N : Nat} {K : Nat → Int} {ro : Option Dat} {P : Dat} (wPl : WfPl P) (bK : BdK K) (hK2 : ∀ p : Nat, (p : Int) ≠ K 2) (hN : N ≤ 1000) (hF : 1000 ≤ F) : ∀ (d n' k t : Nat) (σ : Mem) (A : Dat), k + d = N → d < n' → CE 46 K ro P A σ → WfI P A t → t + d ≤ 9000 → ∃ σ', m6_goOn_10 F c1 (w32 (N : Int)) n' (w32 (k : Int)) σ = some σ' ∧ CE 46 K ro P (itA P K ro d A) σ' := by
  intro d
  induction d with
  | zero =>
    intro n' k t σ A h1 h2 hE wI ht
    obtain ⟨n', rfl⟩ : ∃ k, n' = k + 1 := ⟨n' - 1, by omega⟩
    unfold m6_goOn_10
    rw [if_pos (by rw [w_le (by omega) (by omega) (by omega) (by omega)]; omega)]
    exact ⟨σ, rfl, hE⟩
  | succ d ih =>
    intro n' k t σ A h1 h2 hE wI ht
    obtain ⟨n', rfl⟩ : ∃ k, n' = k + 1 := ⟨n' - 1, by omega⟩
    obtain ⟨σ1, m, e, -, -⟩ := ce_go (F := F) hE wPl.1 (wI.bd (by omega)) bK StC46 hF
    unfold m6_goOn_10
    rw [if_neg (by rw [w_le (by omega) (by omega) (by omega) (by omega)]; omega), m, Option.bind_some, w_succ]
    exact ih n' (k + 1) (t + 1) σ1 _ (by omega) (by omega) e (passA_wf wI wPl.1 wPl.2.1 wPl.2.2.1 hK2) (by omega)
theorem ahead_l {F N p : Nat} {w : Int} {K : Nat → Int} {ro : Option Dat} {P : Dat} {σ0 : Mem} (wPl : WfPl P) (bK : BdK K) (hK2 : ∀ p : Nat, (p : Int) ≠ K 2) (bK3 : -1 ≤ K 3) (hK6 : K 6 = 0) (hN : N ≤ 1000) (hp : (p : Int) < P 0 4) (hw : 0 ≤ w ∧ w ≤ 2) (hF : 1000 ≤ F) : ∀ (d n' k t : Nat) (σ : Mem) (A : Dat), k + d = N → d < n' → RE K ro P A σ → WfI P A t → t + d ≤ 9000 → Tr σ0 σ → ∃ σ', m12_ahead_41 F (w32 (p : Int)) (w32 (N : Int)) (w32 w) n' (w32 (k : Int)) σ = m12_ahead_108 F (w32 (p : Int)) (w32 (N : Int)) (w32 w) (w32 (aheadN P (itA P K ro d A) p w)) σ' ∧ Tr σ0 σ' := by
  intro d
  have w1 := wPl.1
  obtain ⟨bP, ⟨m, hm, hm8⟩, ⟨n, hn, hn3⟩, -⟩ := w1
  induction d with
  | zero =>
    intro n' k t σ A h1 h2 hE wI ht tr
    obtain ⟨n', rfl⟩ : ∃ k, n' = k + 1 := ⟨n' - 1, by omega⟩
    obtain ⟨hA, hQ, -⟩ := hE
    have a1 : gI σ 493 (10 + 7 * p) = w32 (A 1 p) := hA.1 1 p (by decide) hp
    have a3 : gI σ 493 (12 + 7 * p) = w32 (A 3 p) := hA.1 3 p (by decide) hp
    have hjn : jbs P A K p = jobN P A p := by unfold jbs; rw [if_neg (hK2 p)]
    refine ⟨σ, ?_, tr⟩
    unfold m12_ahead_41
    rw [if_pos (by rw [w_le (by omega) (by omega) (by omega) (by omega)]; omega), jobNow_r hA hQ wI.1 wPl.1 ((wI.bd (by omega)).mono (by decide)) (bK 2 (by decide) (by decide)) (by omega) (by omega), Option.bind_some, hjn, so_0 (by omega), so_2 (by omega), Option.bind_some, Option.bind_some, a1, a3]
    show _ = m12_ahead_108 F _ _ _ (w32 (aheadN P A p w)) σ
    unfold aheadN
    by_cases w0 : w = 0
    · rw [if_pos (by rw [w0]; rfl), if_pos w0]
    · rw [if_neg (by rw [wl_0, w_eq (by omega) (by omega) (by omega) (by omega)]; exact w0), if_neg w0]
      by_cases w2 : w = 2
      · rw [if_pos (by rw [w2]; rfl), if_pos w2]
      · rw [if_neg (by rw [wl_2, w_eq (by omega) (by omega) (by omega) (by omega)]; exact w2), if_neg w2]
        have jr := jbs_lt (A := A) (K := K) wPl.1 p
        rw [hjn] at jr
        by_cases hj : jobN P A p = -1
        · rw [hj, if_neg (by decide), if_pos rfl]; rfl
        · have jr := jr.resolve_left hj
          obtain ⟨j, hjj⟩ : ∃ j : Nat, jobN P A p = j := ⟨(jobN P A p).toNat, by omega⟩
          have a6 : gI σ 493 (33 + 8 * j) = w32 (A 6 j) := hA.1 6 j (by decide) (show (j : Int) < P 0 5 by omega)
          rw [hjj, if_pos (by rw [wl_0, w_le (by omega) (by omega) (by omega) (by omega)]; omega), if_neg (by omega), jo_2 (by omega), Option.bind_some, a6, Int.toNat_natCast]
  | succ d ih =>
    intro n' k t σ A h1 h2 hE wI ht tr
    obtain ⟨n', rfl⟩ : ∃ k, n' = k + 1 := ⟨n' - 1, by omega⟩
    obtain ⟨σ1, m, e, -, -, tl, f, s⟩ := re_step (F := F) hE wPl wI (by omega) bK hK2 bK3 hK6 hF
    unfold m12_ahead_41
    rw [if_neg (by rw [w_le (by omega) (by omega) (by omega) (by omega)]; omega), m, Option.bind_some, w_succ]
    exact ih n' (k + 1) (t + 1) σ1 _ (by omega) (by omega) e (passA_wf wI wPl.1 wPl.2.1 wPl.2.2.1 hK2) (by omega) (tr.pass tl f s)
theorem ahead_q {F t : Nat} {S : Ab} {σ : Mem} (hC : CInv S σ) (hR : RInv S σ) (wf : Wf t S) (ht : t ≤ 600) (hF : 10000 ≤ F) (x y z : Int32) : Ans S (m11_ahead F x y z σ) (m12_ahead F x y z) := by
  obtain ⟨a, rfl, a1, a2⟩ := arg x
  obtain ⟨b, rfl, b1, b2⟩ := arg y
  obtain ⟨c, rfl, c1, c2⟩ := arg z
  have wPl := wf.1.1
  have wI := wf.1.2.1.1
  have w1 := wPl.1
  obtain ⟨bP, ⟨m5, hm, hm8⟩, ⟨n4, hn, hn3⟩, -⟩ := w1
  have h17 : RepP 17 σ (wP (sW S)) := hC.1.1
  have hE := hR.E wf
  have inN : ∀ τ, m12_in F (w32 b).toInt64 (0 : Int64) (200 : Int64) τ = some (if 0 ≤ b ∧ b ≤ 200 then (1 : Int32) else 0) := fun τ => in_r rfl rfl b1 b2 (by decide) (by decide)
  have inW : ∀ τ, m12_in F (w32 c).toInt64 (0 : Int64) (2 : Int64) τ = some (if 0 ≤ c ∧ c ≤ 2 then (1 : Int32) else 0) := fun τ => in_r rfl rfl c1 c2 (by decide) (by decide)
  by_cases v1 : 0 ≤ a ∧ a < wP (sW S) 0 4
  · by_cases v2 : 0 ≤ b ∧ b ≤ 200
    · by_cases v3 : 0 ≤ c ∧ c ≤ 2
      · -- within
        obtain ⟨p, rfl⟩ : ∃ p : Nat, a = p := ⟨a.toNat, by omega⟩
        obtain ⟨N, rfl⟩ : ∃ N : Nat, b = N := ⟨b.toNat, by omega⟩
        obtain ⟨q, τ1, e1, e2, hC1, k1, r1, f1⟩ := begin_c (F := F) hC wf
        obtain ⟨τ2, e3, ce2⟩ := copy46 (F := F) hC1 k1 r1 (by omega)
        obtain ⟨τ3, e4, ce3⟩ := goOn_c (F := F) (c1 := 26) (N := N) wPl Kp_bd Kp2 (by omega) (by omega) N F 0 t τ2 _ (by omega) (by omega) ce2 wI (by omega)
        have wI3 := itA_wf (ro := roOf S) wPl Kp2 N _ t wI
        have b3 := (wI3.bd (by omega)).mono (show (800000000 : Int) ≤ 1000000000 by decide)
        have m1 : m11_ahead F (w32 (p : Int)) (w32 (N : Int)) (w32 c) σ = some (w32 (aheadN (wP (sW S)) (itA (wP (sW S)) Kp (roOf S) N (wA (sW S))) p c), τ3) := by
          unfold m11_ahead m6_goOn
          have g1 : gI τ3 47 p = _ := ce3.2.1.at 1 p (by decide) (by show p < 3; omega)
          have g3 : gI τ3 49 p = _ := ce3.2.1.at 3 p (by decide) (by show p < 3; omega)
          rw [hasSmith_c h17 wPl.1 (by omega) (by omega), Option.bind_some, if_pos v1, if_neg (by decide), if_neg (by rw [wl_0, w_lt (by omega) (by omega) (by omega) (by omega)]; omega), if_neg (by rw [wl_200, w_lt (by omega) (by omega) (by omega) (by omega)]; omega), if_neg (by rw [wl_0, w_lt (by omega) (by omega) (by omega) (by omega)]; omega), if_pos (by rw [wl_2, w_le (by omega) (by omega) (by omega) (by omega)]; omega), e1, Option.bind_some, e2, Option.bind_some, e3, Option.bind_some, show (0 : Int32) = w32 ((0 : Nat) : Int) from rfl, e4, Option.bind_some]
          rw [gd_pos (w_inB (by omega) (by omega) (by omega)), gd_pos (w_inB (by omega) (by omega) (by omega)), w_natk (by omega), g1, g3, jobOf_ok ce3.1 ce3.2.1 (bP.mono (by decide)) b3 (by omega) hm hm8 (by omega), Option.bind_some]
          unfold aheadN
          by_cases w0 : c = 0
          · rw [if_pos (by rw [w0]; rfl), if_pos w0]
          · rw [if_neg (by rw [show w32 ((0 : Nat) : Int) = w32 0 from rfl, w_eq (by omega) (by omega) (by omega) (by omega)]; exact w0), if_neg w0]
            by_cases w2 : c = 2
            · rw [if_pos (by rw [w2]; rfl), if_pos w2]
            · rw [if_neg (by rw [wl_2, w_eq (by omega) (by omega) (by omega) (by omega)]; exact w2), if_neg w2]
              have jr := jobN_rg (P := wP (sW S)) (A := itA (wP (sW S)) Kp (roOf S) N (wA (sW S))) (p := (p : Int)) hm
              by_cases hj : jobN (wP (sW S)) (itA (wP (sW S)) Kp (roOf S) N (wA (sW S))) p = -1
              · rw [hj, if_pos (by decide), if_pos rfl]; rfl
              · obtain ⟨j, hjj⟩ : ∃ j : Nat, jobN (wP (sW S)) (itA (wP (sW S)) Kp (roOf S) N (wA (sW S))) p = j := ⟨(jobN (wP (sW S)) (itA (wP (sW S)) Kp (roOf S) N (wA (sW S))) p).toNat, by omega⟩
                have g6 : gI τ3 52 j = _ := ce3.2.1.at 6 j (by decide) (by show j < 8; omega)
                rw [hjj, if_neg (by rw [wl_m1, w_eq (by omega) (by omega) (by omega) (by omega)]; omega), if_neg (by omega), gd_pos (w_inB (by omega) (by omega) (by omega)), w_natk (by omega), g6, Int.toNat_natCast]
        obtain ⟨hC3, hR3⟩ := cls_q hC hR wf (f11_ahead m1) (fun c z => by unfold Wm11_ahead at z; omega)
        obtain ⟨τ4, e5, re4, tr4⟩ := keep_t (F := F) hR3 wf (by omega)
        obtain ⟨τ5, e6, tr5⟩ := ahead_l (F := F) (N := N) (p := p) (w := c) wPl Kp_bd Kp2 (by decide) rfl (by omega) v1.2 v3 (by omega) N F 0 t τ4 _ (by omega) (by omega) re4 wI (by omega) tr4
        obtain ⟨τ6, e7, hR6, hC6, -⟩ := back_t (F := F) hC3 hR3 wf tr5 (by omega)
        refine ⟨_, τ3, τ6, m1, ?_, hC6, hR6⟩
        have hE3 := hR3.E wf
        unfold m12_ahead
        rw [isSmith_r hE3.1 wPl.1 (by omega) (by omega), Option.bind_some, if_pos v1, if_neg (by decide), inN, Option.bind_some, if_pos v2, if_neg (by decide), inW, Option.bind_some, if_pos v3, if_neg (by decide), e5, Option.bind_some]
        rw [show (0 : Int32) = w32 ((0 : Nat) : Int) from rfl, e6]
        unfold m12_ahead_108
        rw [e7, Option.bind_some]
      · refine ⟨-1, σ, σ, ?_, ?_, hC, hR⟩
        · unfold m11_ahead
          rw [hasSmith_c h17 wPl.1 (by omega) (by omega), Option.bind_some, if_pos v1, if_neg (by decide), if_neg (by rw [wl_0, w_lt (by omega) (by omega) (by omega) (by omega)]; omega), if_neg (by rw [wl_200, w_lt (by omega) (by omega) (by omega) (by omega)]; omega)]
          by_cases c0 : c < 0
          · rw [if_pos (by rw [wl_0, w_lt (by omega) (by omega) (by omega) (by omega)]; exact c0)]
          · rw [if_neg (by rw [wl_0, w_lt (by omega) (by omega) (by omega) (by omega)]; exact c0), if_neg (by rw [wl_2, w_le (by omega) (by omega) (by omega) (by omega)]; omega)]
        · unfold m12_ahead
          rw [isSmith_r hE.1 wPl.1 (by omega) (by omega), Option.bind_some, if_pos v1, if_neg (by decide), inN, Option.bind_some, if_pos v2, if_neg (by decide), inW, Option.bind_some, if_neg v3, if_pos rfl]
    · refine ⟨-1, σ, σ, ?_, ?_, hC, hR⟩
      · unfold m11_ahead
        rw [hasSmith_c h17 wPl.1 (by omega) (by omega), Option.bind_some, if_pos v1, if_neg (by decide)]
        by_cases c0 : b < 0
        · rw [if_pos (by rw [wl_0, w_lt (by omega) (by omega) (by omega) (by omega)]; exact c0)]
        · rw [if_neg (by rw [wl_0, w_lt (by omega) (by omega) (by omega) (by omega)]; exact c0), if_pos (by rw [wl_200, w_lt (by omega) (by omega) (by omega) (by omega)]; omega)]
      · unfold m12_ahead
        rw [isSmith_r hE.1 wPl.1 (by omega) (by omega), Option.bind_some, if_pos v1, if_neg (by decide), inN, Option.bind_some, if_neg v2, if_pos rfl]
  · refine ⟨-1, σ, σ, ?_, ?_, hC, hR⟩
    · unfold m11_ahead
      rw [hasSmith_c h17 wPl.1 (by omega) (by omega), Option.bind_some, if_neg v1, if_pos rfl]
    · unfold m12_ahead
      rw [isSmith_r hE.1 wPl.1 (by omega) (by omega), Option.bind_some, if_neg v1, if_pos rfl]
