/-! QUERY: splits -/
def splN (P : Dat) (K : Nat → Int) (ro : Option Dat) (q : Nat) : Nat → Dat → Int × Int
  | 0, _ => (-2, -2)
  | d + 1, A => if P 0 3 ≤ passA P K ro A 9 q then (A 0 0, (passW P K ro A).2.2 q) else splN P K ro q d (passA P K ro A)
theorem passW_T {P : Dat} {K : Nat → Int} {ro : Option Dat} {A : Dat} : BdT (passW P K ro A).2.2 := workS_T 3 0 (A, K0 K, fun _ => -1) (by decide) (fun k => by show -1 ≤ (-1 : Int) ∧ (-1 : Int) ≤ 3; omega)
theorem splits_c {F c1 q : Nat} {w : Int} {K : Nat → Int} {ro : Option Dat} {P : Dat} (wPl : WfPl P) (bK : BdK K) (hK2 : ∀ p : Nat, (p : Int) ≠ K 2) (hq : q < 3) (hw : 0 ≤ w ∧ w ≤ 1) (hF : 1000 ≤ F) : ∀ (d n' k t : Nat) (σ : Mem) (A : Dat), k + d = 500 → d < n' → CE 46 K ro P A σ → WfI P A t → t + d ≤ 9000 → ∃ σ', m6_splitting_11 F c1 (w32 (q : Int)) (w32 w) n' (w32 (k : Int)) σ = some (w32 (if w = 0 then (splN P K ro q d A).1 else (splN P K ro q d A).2), σ') := by
  intro d
  induction d with
  | zero =>
    intro n' k t σ A h1 h2 hE wI ht
    obtain ⟨n', rfl⟩ : ∃ k, n' = k + 1 := ⟨n' - 1, by omega⟩
    unfold m6_splitting_11 splN
    rw [if_pos (by rw [wl_500, w_le (by omega) (by omega) (by omega) (by omega)]; omega)]
    refine ⟨σ, ?_⟩
    split <;> rfl
  | succ d ih =>
    intro n' k t σ A h1 h2 hE wI ht
    obtain ⟨n', rfl⟩ : ∃ k, n' = k + 1 := ⟨n' - 1, by omega⟩
    obtain ⟨σ1, m, e, -, T⟩ := ce_go (F := F) hE wPl.1 (wI.bd (by omega)) bK StC46 hF
    have wI' := passA_wf (ro := ro) (K := K) wI wPl.1 wPl.2.1 wPl.2.2.1 hK2
    have b9 := (wI'.bd (by omega)) 9 q
    have b3 := wPl.1.1 0 3
    have g9 : gI σ1 55 q = w32 (passA P K ro A 9 q) := e.2.1.at 9 q (by decide) (by show q < 4; omega)
    have g3 : gI σ1 17 3 = w32 (P 0 3) := e.1.at 0 3
    have gT : gI σ1 43 q = w32 ((passW P K ro A).2.2 q) := T q (by omega)
    have g0 : gI σ 46 0 = w32 (A 0 0) := hE.2.1.at 0 0
    unfold m6_splitting_11 splN
    rw [if_neg (by rw [wl_500, w_le (by omega) (by omega) (by omega) (by omega)]; omega), m, Option.bind_some, gd_pos (w_inB (by omega) (by omega) (by omega)), gd_pos (w_inB (by omega) (by omega) (by omega)), w_natk (by omega), g9, g3, gT, g0]
    by_cases h : P 0 3 ≤ passA P K ro A 9 q
    · rw [if_neg (by rw [w_lt (by omega) (by omega) (by omega) (by omega)]; omega), if_pos h]
      by_cases h0 : w = 0
      · rw [if_pos (by rw [h0]; rfl), if_pos h0]; exact ⟨_, rfl⟩
      · rw [if_neg (by rw [wl_0, w_eq (by omega) (by omega) (by omega) (by omega)]; exact h0), if_neg h0]; exact ⟨_, rfl⟩
    · rw [if_pos (by rw [w_lt (by omega) (by omega) (by omega) (by omega)]; omega), if_neg h, w_succ]
      exact ih n' (k + 1) (t + 1) σ1 _ (by omega) (by omega) e wI' (by omega)
theorem splits_l {F q : Nat} {w : Int32} {K : Nat → Int} {ro : Option Dat} {P : Dat} {σ0 : Mem} (wPl : WfPl P) (bK : BdK K) (hK2 : ∀ p : Nat, (p : Int) ≠ K 2) (bK3 : -1 ≤ K 3) (hK6 : K 6 = 0) (hq : q < 3) (hF : 1000 ≤ F) : ∀ (d n' k t : Nat) (σ : Mem) (A : Dat), k + d = 500 → d < n' → RE K ro P A σ → WfI P A t → t + d ≤ 9000 → Tr σ0 σ → ∃ σ', m12_splits_66 F (w32 (q : Int)) w n' (w32 (-2)) (w32 (-2)) (w32 (k : Int)) σ = m12_splits_127 F (w32 (q : Int)) w (w32 (splN P K ro q d A).1) (w32 (splN P K ro q d A).2) σ' ∧ Tr σ0 σ' := by
  intro d
  induction d with
  | zero =>
    intro n' k t σ A h1 h2 hE wI ht tr
    obtain ⟨n', rfl⟩ : ∃ k, n' = k + 1 := ⟨n' - 1, by omega⟩
    unfold m12_splits_66 splN
    rw [if_pos (by rw [wl_500, w_le (by omega) (by omega) (by omega) (by omega)]; omega)]
    exact ⟨σ, rfl, tr⟩
  | succ d ih =>
    intro n' k t σ A h1 h2 hE wI ht tr
    obtain ⟨n', rfl⟩ : ∃ k, n' = k + 1 := ⟨n' - 1, by omega⟩
    obtain ⟨σ1, m, e, -, T, tl, f, s⟩ := re_step (F := F) hE wPl wI (by omega) bK hK2 bK3 hK6 hF
    have wI' := passA_wf (ro := ro) (K := K) wI wPl.1 wPl.2.1 wPl.2.2.1 hK2
    have b9 := (wI'.bd (by omega)) 9 q
    have b3 := wPl.1.1 0 3
    have g9 : gI σ1 493 (95 + q) = w32 (passA P K ro A 9 q) := e.1.1 9 q (by decide) (show q < 3 from hq)
    have g2 : gI σ1 493 2 = w32 (P 0 3) := e.1.2.1 2 (by decide)
    have g5 : gI σ1 493 5 = w32 (passA P K ro A 0 0) := e.1.1 0 0 (by decide) rfl
    have gT : gI σ1 495 q = w32 ((passW P K ro A).2.2 q) := T q (by omega)
    have e95 : (95 : Int32) + w32 (q : Int) = w32 ((95 + q : Nat) : Int) := by rw [wl_95, w_add]; congr 1 <;> omega
    have a0 := wI.2.1
    have a1 := wI.2.2.1
    have tr1 := tr.pass tl f s
    unfold m12_splits_66 splN
    rw [if_neg (by rw [wl_500, w_le (by omega) (by omega) (by omega) (by omega)]; omega), if_neg (by decide), m, Option.bind_some]
    dsimp only
    rw [e95, gd_pos (w_inB (by omega) (by omega) (by omega)), gd_pos (by decide), w_natk (by omega), show (2 : Int32).toNatClampNeg = 2 from rfl, g9, g2]
    by_cases h : P 0 3 ≤ passA P K ro A 9 q
    · rw [if_pos (by rw [w_le (by omega) (by omega) (by omega) (by omega)]; omega), if_pos h, gd_pos (by decide), gd_pos (w_inB (by omega) (by omega) (by omega)), w_natk (by omega), show (5 : Int32).toNatClampNeg = 5 from rfl, g5, gT, w_succ]
      have e5 : w32 (passA P K ro A 0 0) - (1 : Int32) = w32 (A 0 0) := by
        rw [passA_0, wl_1, w_sub]; congr 1; omega
      rw [e5]
      obtain ⟨n', rfl⟩ : ∃ k, n' = k + 1 := ⟨n' - 1, by omega⟩
      refine ⟨σ1, ?_, tr1⟩
      unfold m12_splits_66
      by_cases h5 : (500 : Int32) ≤ w32 ((k + 1 : Nat) : Int)
      · rw [if_pos h5]
      · rw [if_neg h5, if_pos (by rw [wl_0, w_le (by omega) (by omega) (by omega) (by omega)]; omega)]
    · rw [if_neg (by rw [w_le (by omega) (by omega) (by omega) (by omega)]; omega), if_neg h, w_succ]
      exact ih n' (k + 1) (t + 1) σ1 _ (by omega) (by omega) e wI' (by omega) tr1
theorem splits_q {F t : Nat} {S : Ab} {σ : Mem} (hC : CInv S σ) (hR : RInv S σ) (wf : Wf t S) (ht : t ≤ 600) (hF : 10000 ≤ F) (x y : Int32) : Ans S (m11_splits F x y σ) (m12_splits F x y) := by
  obtain ⟨a, rfl, a1, a2⟩ := arg x
  obtain ⟨b, rfl, b1, b2⟩ := arg y
  have wPl := wf.1.1
  have wI := wf.1.2.1.1
  have h17 : RepP 17 σ (wP (sW S)) := hC.1.1
  have h26 : RepS 26 σ (wA (sW S)) := hC.1.2.1
  have hE := hR.E wf
  have inN : ∀ τ, m12_in F (w32 a).toInt64 (0 : Int64) (2 : Int64) τ = some (if 0 ≤ a ∧ a ≤ 2 then (1 : Int32) else 0) := fun τ => in_r rfl rfl a1 a2 (by decide) (by decide)
  have inW : ∀ τ, m12_in F (w32 b).toInt64 (0 : Int64) (1 : Int64) τ = some (if 0 ≤ b ∧ b ≤ 1 then (1 : Int32) else 0) := fun τ => in_r rfl rfl b1 b2 (by decide) (by decide)
  have h01 := wPl.2.2.2.1
  by_cases v0 : wP (sW S) 0 0 = 1
  · by_cases v1 : 0 ≤ a ∧ a ≤ 2
    · by_cases v2 : 0 ≤ b ∧ b ≤ 1
      · obtain ⟨q, rfl⟩ : ∃ p : Nat, a = p := ⟨a.toNat, by omega⟩
        have b3 := wPl.1.1 0 3
        have b9 := (wI.bd (by omega)) 9 q
        have g9 : gI σ 35 q = w32 (wA (sW S) 9 q) := h26.at 9 q (by decide) (by show q < 4; omega)
        have g3 : gI σ 17 3 = w32 (wP (sW S) 0 3) := h17.at 0 3
        have e95 : (95 : Int32) + w32 (q : Int) = w32 ((95 + q : Nat) : Int) := by rw [wl_95, w_add]; congr 1 <;> omega
        have r9 : gI σ 493 (95 + q) = w32 (wA (sW S) 9 q) := hE.1.1 9 q (by decide) (show q < 3 by omega)
        have r2 : gI σ 493 2 = w32 (wP (sW S) 0 3) := hE.1.2.1 2 (by decide)
        by_cases v3 : wA (sW S) 9 q < wP (sW S) 0 3
        · obtain ⟨p, τ1, e1, e2, hC1, k1, r1, f1⟩ := begin_c (F := F) hC wf
          obtain ⟨τ2, e3, ce2⟩ := copy46 (F := F) hC1 k1 r1 (by omega)
          obtain ⟨τ3, e4⟩ := splits_c (F := F) (c1 := 26) wPl Kp_bd Kp2 (show q < 3 by omega) v2 (by omega) 500 F 0 t τ2 _ (by omega) (by omega) ce2 wI (by omega)
          have m1 : m11_splits F (w32 (q : Int)) (w32 b) σ = some (w32 (if b = 0 then (splN (wP (sW S)) Kp (roOf S) q 500 (wA (sW S))).1 else (splN (wP (sW S)) Kp (roOf S) q 500 (wA (sW S))).2), τ3) := by
            unfold m11_splits m6_splitting
            rw [hasPart_c h17 wPl a1 a2, Option.bind_some, if_pos (show wP (sW S) 0 0 = 1 ∧ 0 ≤ (q : Int) ∧ (q : Int) ≤ 2 from ⟨v0, v1⟩), if_neg (by decide), if_neg (by rw [wl_0, w_lt (by omega) (by omega) (by omega) (by omega)]; omega), if_pos (by rw [wl_1, w_le (by omega) (by omega) (by omega) (by omega)]; omega), gd_pos (w_inB (by omega) (by omega) (by omega)), w_natk (by omega), g9, g3, if_pos (by rw [w_lt (by omega) (by omega) (by omega) (by omega)]; exact v3), e1, Option.bind_some, e2, Option.bind_some, e3, Option.bind_some, show (0 : Int32) = w32 ((0 : Nat) : Int) from rfl, e4, Option.bind_some]
          obtain ⟨hC3, hR3⟩ := cls_q hC hR wf (f11_splits m1) (fun c z => by unfold Wm11_splits at z; omega)
          obtain ⟨τ4, e5, re4, tr4⟩ := keep_t (F := F) hR3 wf (by omega)
          obtain ⟨τ5, e6, tr5⟩ := splits_l (F := F) (q := q) (w := w32 b) wPl Kp_bd Kp2 (by decide) rfl (by omega) (by omega) 500 F 0 t τ4 _ (by omega) (by omega) re4 wI (by omega) tr4
          obtain ⟨τ6, e7, hR6, hC6, -⟩ := back_t (F := F) hC3 hR3 wf tr5 (by omega)
          refine ⟨_, τ3, τ6, m1, ?_, hC6, hR6⟩
          have hE3 := hR3.E wf
          have r9 : gI τ3 493 (95 + q) = w32 (wA (sW S) 9 q) := hE3.1.1 9 q (by decide) (show q < 3 by omega)
          have r2 : gI τ3 493 2 = w32 (wP (sW S) 0 3) := hE3.1.2.1 2 (by decide)
          unfold m12_splits
          rw [isSmithy_r hE3.1 wPl, Option.bind_some, if_pos v0, if_neg (by decide), inN, Option.bind_some, if_pos v1, if_neg (by decide), inW, Option.bind_some, if_pos v2, if_neg (by decide), e95, gd_pos (w_inB (by omega) (by omega) (by omega)), gd_pos (by decide), w_natk (by omega), show (2 : Int32).toNatClampNeg = 2 from rfl, r9, r2, if_pos (by rw [w_lt (by omega) (by omega) (by omega) (by omega)]; exact v3), e5, Option.bind_some, show (0 : Int32) = w32 ((0 : Nat) : Int) from rfl, show (-2 : Int32) = w32 (-2) from rfl, e6]
          unfold m12_splits_127
          rw [e7, Option.bind_some]
          by_cases h0 : b = 0
          · rw [if_pos (by rw [h0]; rfl), if_pos h0]
          · rw [if_neg (by rw [wl_0, w_eq (by omega) (by omega) (by omega) (by omega)]; exact h0), if_neg h0]
        · refine ⟨-1, σ, σ, ?_, ?_, hC, hR⟩
          · unfold m11_splits
            rw [hasPart_c h17 wPl a1 a2, Option.bind_some, if_pos (show wP (sW S) 0 0 = 1 ∧ 0 ≤ (q : Int) ∧ (q : Int) ≤ 2 from ⟨v0, v1⟩), if_neg (by decide), if_neg (by rw [wl_0, w_lt (by omega) (by omega) (by omega) (by omega)]; omega), if_pos (by rw [wl_1, w_le (by omega) (by omega) (by omega) (by omega)]; omega), gd_pos (w_inB (by omega) (by omega) (by omega)), w_natk (by omega), g9, g3, if_neg (by rw [w_lt (by omega) (by omega) (by omega) (by omega)]; exact v3)]
          · unfold m12_splits
            rw [isSmithy_r hE.1 wPl, Option.bind_some, if_pos v0, if_neg (by decide), inN, Option.bind_some, if_pos v1, if_neg (by decide), inW, Option.bind_some, if_pos v2, if_neg (by decide), e95, gd_pos (w_inB (by omega) (by omega) (by omega)), gd_pos (by decide), w_natk (by omega), show (2 : Int32).toNatClampNeg = 2 from rfl, r9, r2, if_neg (by rw [w_lt (by omega) (by omega) (by omega) (by omega)]; exact v3)]
      · refine ⟨-3, σ, σ, ?_, ?_, hC, hR⟩
        · unfold m11_splits
          rw [hasPart_c h17 wPl a1 a2, Option.bind_some, if_pos (show wP (sW S) 0 0 = 1 ∧ 0 ≤ a ∧ a ≤ 2 from ⟨v0, v1⟩), if_neg (by decide)]
          by_cases c0 : b < 0
          · rw [if_pos (by rw [wl_0, w_lt (by omega) (by omega) (by omega) (by omega)]; exact c0)]
          · rw [if_neg (by rw [wl_0, w_lt (by omega) (by omega) (by omega) (by omega)]; exact c0), if_neg (by rw [wl_1, w_le (by omega) (by omega) (by omega) (by omega)]; omega)]
        · unfold m12_splits
          rw [isSmithy_r hE.1 wPl, Option.bind_some, if_pos v0, if_neg (by decide), inN, Option.bind_some, if_pos v1, if_neg (by decide), inW, Option.bind_some, if_neg v2, if_pos rfl]
    · refine ⟨-3, σ, σ, ?_, ?_, hC, hR⟩
      · unfold m11_splits
        rw [hasPart_c h17 wPl a1 a2, Option.bind_some, if_neg (show ¬ (wP (sW S) 0 0 = 1 ∧ 0 ≤ a ∧ a ≤ 2) by omega), if_pos rfl]
      · unfold m12_splits
        rw [isSmithy_r hE.1 wPl, Option.bind_some, if_pos v0, if_neg (by decide), inN, Option.bind_some, if_neg v1, if_pos rfl]
  · refine ⟨-3, σ, σ, ?_, ?_, hC, hR⟩
    · unfold m11_splits
      rw [hasPart_c h17 wPl a1 a2, Option.bind_some, if_neg (show ¬ (wP (sW S) 0 0 = 1 ∧ 0 ≤ a ∧ a ≤ 2) by omega), if_pos rfl]
    · unfold m12_splits
      rw [isSmithy_r hE.1 wPl, Option.bind_some, if_neg v0, if_pos rfl]
