/-! READER: count -/
theorem done2 {F m : Nat} {σ : Mem} {P A : Dat} {i1 : Int32} (hP : RepP 17 σ P) (hS : RepS 26 σ A) (hA : RepA σ P A) (wA : WfA P A) (bA : Bd 800000000 A) (hm : P 0 5 = (m : Int)) (hm8 : m ≤ 8) : ∀ (d n n' j : Nat) (x : Int32), j + d = m → d < n → d < n' → ∃ r, m7_doneBits_4 F 26 17 σ n x (w32 (j : Int)) = some r ∧ m12_count_102 F i1 σ n' x (w32 (j : Int)) = some r := by
  have e5 : gI σ 17 5 = w32 (m : Int) := by rw [← hm]; exact hP.at 0 5
  have e4 : gI σ 493 4 = w32 (m : Int) := by rw [hA.2.1 4 (by decide), ← hm]
  intro d
  induction d with
  | zero =>
    intro n n' j x h1 h2 h3
    obtain ⟨n, rfl⟩ : ∃ k, n = k + 1 := ⟨n - 1, by omega⟩
    obtain ⟨n', rfl⟩ : ∃ k, n' = k + 1 := ⟨n' - 1, by omega⟩
    refine ⟨x, ?_, ?_⟩
    · unfold m7_doneBits_4
      rw [e5, if_pos (by rw [w_le (by omega) (by omega) (by omega) (by omega)]; omega)]
    · unfold m12_count_102
      rw [gd_pos (by decide), show (4 : Int32).toNatClampNeg = 4 from rfl, e4, if_pos (by rw [w_le (by omega) (by omega) (by omega) (by omega)]; omega)]
  | succ d ih =>
    intro n n' j x h1 h2 h3
    obtain ⟨n, rfl⟩ : ∃ k, n = k + 1 := ⟨n - 1, by omega⟩
    obtain ⟨n', rfl⟩ : ∃ k, n' = k + 1 := ⟨n' - 1, by omega⟩
    have e6 : gI σ (26 + 6) j = w32 (A 6 j) := hS.at 6 j
    have e7 : gI σ 493 (36 + 8 * j) = w32 (A 7 j) := hA.1 7 j (by decide) (by show (j : Int) < P 0 5; omega)
    have w := wA.1 j (by omega)
    have b6 := bA 6 j
    have b7 := bA 7 j
    unfold m7_doneBits_4 m12_count_102
    rw [e5, if_neg (by rw [w_le (by omega) (by omega) (by omega) (by omega)]; omega), gd_pos (w_inB (by omega) (by omega) (by omega)), w_natk (by omega), e6, gd_pos (by decide), show (4 : Int32).toNatClampNeg = 4 from rfl, e4, if_neg (show ¬ w32 (m : Int) ≤ w32 (j : Int) by rw [w_le (by omega) (by omega) (by omega) (by omega)]; omega), jo_5 (by omega), Option.bind_some, e7, w_succ]
    by_cases h : A 6 j = 0
    · rw [if_pos (show w32 (A 6 j) = (0 : Int32) by rw [h]; rfl), if_neg (show ¬ w32 (A 7 j) < (0 : Int32) by rw [wl_0, w_lt (by omega) (by omega) (by omega) (by omega)]; omega)]
      exact ih n n' (j + 1) _ (by omega) (by omega) (by omega)
    · rw [if_neg (show ¬ w32 (A 6 j) = (0 : Int32) by rw [wl_0, w_eq (by omega) (by omega) (by omega) (by omega)]; exact h), if_pos (show w32 (A 7 j) < (0 : Int32) by rw [wl_0, w_lt (by omega) (by omega) (by omega) (by omega)]; omega)]
      exact ih n n' (j + 1) _ (by omega) (by omega) (by omega)
theorem earn2 {F s m : Nat} {σ : Mem} {P A : Dat} (hP : RepP 17 σ P) (hS : RepS 26 σ A) (hA : RepA σ P A) (bP : Bd 1000 P) (bA : Bd 800000000 A) (hm : P 0 5 = (m : Int)) (hm8 : m ≤ 8) (hs : P 0 4 = (s : Int)) (hs3 : s ≤ 3) (he : ∀ p : Nat, (p : Int) < P 0 4 → A 10 p = earnN P A p) (hF : 100 ≤ F) : ∀ (d n n' p : Nat) (x : Int32), p + d = s → d < n → d < n' → ∃ r, m11_earnedByAll_4 F σ n x (w32 (p : Int)) = some r ∧ m12_countOf_4 F (3 : Int32) σ n' x (w32 (p : Int)) = some r := by
  have e4 : gI σ 17 4 = w32 (s : Int) := by rw [← hs]; exact hP.at 0 4
  have e3 : gI σ 493 3 = w32 (s : Int) := by rw [hA.2.1 3 (by decide), ← hs]
  intro d
  induction d with
  | zero =>
    intro n n' p x h1 h2 h3
    obtain ⟨n, rfl⟩ : ∃ k, n = k + 1 := ⟨n - 1, by omega⟩
    obtain ⟨n', rfl⟩ : ∃ k, n' = k + 1 := ⟨n' - 1, by omega⟩
    refine ⟨x, ?_, ?_⟩
    · unfold m11_earnedByAll_4
      rw [e4, if_pos (by rw [w_le (by omega) (by omega) (by omega) (by omega)]; omega)]
    · unfold m12_countOf_4
      rw [gd_pos (by decide), show (3 : Int32).toNatClampNeg = 3 from rfl, e3, if_pos (by rw [w_le (by omega) (by omega) (by omega) (by omega)]; omega)]
  | succ d ih =>
    intro n n' p x h1 h2 h3
    obtain ⟨n, rfl⟩ : ∃ k, n = k + 1 := ⟨n - 1, by omega⟩
    obtain ⟨n', rfl⟩ : ∃ k, n' = k + 1 := ⟨n' - 1, by omega⟩
    have v : gI σ 493 (13 + 7 * p) = w32 (A 10 p) := hA.1 10 p (by decide) (by show (p : Int) < P 0 4; omega)
    unfold m11_earnedByAll_4 m12_countOf_4
    rw [e4, if_neg (by rw [w_le (by omega) (by omega) (by omega) (by omega)]; omega), earned_c hP hS bP bA (by omega) hm hm8 hF, Option.bind_some, gd_pos (by decide), show (3 : Int32).toNatClampNeg = 3 from rfl, e3, if_neg (by rw [w_le (by omega) (by omega) (by omega) (by omega)]; omega), so_3 (by omega), Option.bind_some, v, he p (by omega), w_succ]
    exact ih n n' (p + 1) _ (by omega) (by omega) (by omega)
theorem split2 {F : Nat} {σ : Mem} {P A : Dat} (hP : RepP 17 σ P) (hS : RepS 26 σ A) (hA : RepA σ P A) (bP : Bd 1000 P) (bA : Bd 800000000 A) (h0 : P 0 0 = 1) : ∀ (d n n' k : Nat) (x : Int32), k + d = 3 → d < n → d < n' → ∃ r, m11_splitBits_4 F σ n x (w32 (k : Int)) = some r ∧ m12_splitParts_4 F σ n' x (w32 (k : Int)) = some r := by
  have e0 : gI σ 17 0 = w32 (P 0 0) := hP.at 0 0
  have e3 : gI σ 17 3 = w32 (P 0 3) := hP.at 0 3
  have e2 : gI σ 493 2 = w32 (P 0 3) := hA.2.1 2 (by decide)
  have b3 := bP 0 3
  intro d
  induction d with
  | zero =>
    intro n n' k x h1 h2 h3
    obtain ⟨n, rfl⟩ : ∃ k, n = k + 1 := ⟨n - 1, by omega⟩
    obtain ⟨n', rfl⟩ : ∃ k, n' = k + 1 := ⟨n' - 1, by omega⟩
    refine ⟨x, ?_, ?_⟩
    · unfold m11_splitBits_4
      rw [if_pos (by rw [wl_3, w_le (by omega) (by omega) (by omega) (by omega)]; omega)]
    · unfold m12_splitParts_4
      rw [if_pos (by rw [wl_3, w_le (by omega) (by omega) (by omega) (by omega)]; omega)]
  | succ d ih =>
    intro n n' k x h1 h2 h3
    obtain ⟨n, rfl⟩ : ∃ k, n = k + 1 := ⟨n - 1, by omega⟩
    obtain ⟨n', rfl⟩ : ∃ k, n' = k + 1 := ⟨n' - 1, by omega⟩
    have ix : (95 : Int32) + w32 (k : Int) = w32 ((95 + k : Nat) : Int) := by rw [wl_95, w_add]; congr 1
    have u : gI σ 35 k = w32 (A 9 k) := hS.at 9 k
    have v : gI σ 493 (95 + k) = w32 (A 9 k) := hA.1 9 k (by decide) (by show k < 3; omega)
    have b9 := bA 9 k
    unfold m11_splitBits_4 m12_splitParts_4
    rw [if_neg (show ¬ (3 : Int32) ≤ w32 (k : Int) by rw [wl_3, w_le (by omega) (by omega) (by omega) (by omega)]; omega), if_neg (show ¬ (3 : Int32) ≤ w32 (k : Int) by rw [wl_3, w_le (by omega) (by omega) (by omega) (by omega)]; omega), e0, h0, if_neg (show ¬ w32 1 = (0 : Int32) by decide), gd_pos (w_inB (by omega) (by omega) (by omega)), w_natk (by omega), u, e3, ix, gd_pos (w_inB (by omega) (by omega) (by omega)), gd_pos (by decide), w_natk (by omega), v, show (2 : Int32).toNatClampNeg = 2 from rfl, e2, w_succ]
    by_cases h : A 9 k < P 0 3
    · rw [if_pos (by rw [w_lt (by omega) (by omega) (by omega) (by omega)]; exact h), if_pos (by rw [w_lt (by omega) (by omega) (by omega) (by omega)]; exact h), Int32.or_zero]
      exact ih n n' (k + 1) _ (by omega) (by omega) (by omega)
    · rw [if_neg (by rw [w_lt (by omega) (by omega) (by omega) (by omega)]; exact h), if_neg (by rw [w_lt (by omega) (by omega) (by omega) (by omega)]; exact h)]
      exact ih n n' (k + 1) _ (by omega) (by omega) (by omega)
theorem count_q {F t : Nat} {S : Ab} {σ : Mem} (hC : CInv S σ) (hR : RInv S σ) (wf : Wf t S) (ht : t ≤ 600) (hF : 10000 ≤ F) (x : Int32) : Rds (m11_count F x σ) (m12_count F x σ) := by
  have wPl := wf.1.1
  have wI := wf.1.2.1.1
  obtain ⟨m5, hm, hm8⟩ := wPl.1.2.1
  obtain ⟨n4, hn, hn3⟩ := wPl.1.2.2.1
  have bP := wPl.1.1
  have bA := wI.bd (show t ≤ 9000 by omega)
  have hE := hR.E wf
  have pq : ∀ k, k < 5 → gI σ 17 (k + 1) = w32 (wP (sW S) 0 (k + 1)) ∧ gI σ 493 k = w32 (wP (sW S) 0 (k + 1)) := fun k hk => ⟨hC.1.1 0 (by decide) (k + 1) (by show k + 1 < 6; omega), hE.1.2.1 k hk⟩
  unfold m11_count m12_count
  by_cases y0 : x = 0
  · subst y0
    rw [if_pos (show (0 : Int32) = 0 from rfl), if_pos (show (0 : Int32) = 0 from rfl), gd_pos (by decide)]
    exact ⟨_, rfl, congrArg some ((pq 0 (by decide)).2.trans (pq 0 (by decide)).1.symm)⟩
  rw [if_neg y0, if_neg y0]
  by_cases y1 : x = 1
  · subst y1
    rw [if_pos (show (1 : Int32) = 1 from rfl), if_pos (show (1 : Int32) = 1 from rfl), gd_pos (by decide)]
    exact ⟨_, rfl, congrArg some ((pq 1 (by decide)).2.trans (pq 1 (by decide)).1.symm)⟩
  rw [if_neg y1, if_neg y1]
  by_cases y2 : x = 2
  · subst y2
    rw [if_pos (show (2 : Int32) = 2 from rfl), if_pos (show (2 : Int32) = 2 from rfl), gd_pos (by decide)]
    exact ⟨_, rfl, congrArg some ((pq 2 (by decide)).2.trans (pq 2 (by decide)).1.symm)⟩
  rw [if_neg y2, if_neg y2]
  by_cases y3 : x = 3
  · subst y3
    rw [if_pos (show (3 : Int32) = 3 from rfl), if_pos (show (3 : Int32) = 3 from rfl), gd_pos (by decide)]
    exact ⟨_, rfl, congrArg some ((pq 3 (by decide)).2.trans (pq 3 (by decide)).1.symm)⟩
  rw [if_neg y3, if_neg y3]
  by_cases y4 : x = 4
  · subst y4
    rw [if_pos (show (4 : Int32) = 4 from rfl), if_pos (show (4 : Int32) = 4 from rfl), gd_pos (by decide)]
    exact ⟨_, rfl, congrArg some ((pq 4 (by decide)).2.trans (pq 4 (by decide)).1.symm)⟩
  rw [if_neg y4, if_neg y4]
  by_cases y5 : x = 5
  · subst y5
    rw [if_pos (show (5 : Int32) = 5 from rfl), if_pos (show (5 : Int32) = 5 from rfl)]
    exact ⟨_, rfl, congrArg some (hR.2.2.1.1.trans hC.2.1.1.symm)⟩
  rw [if_neg y5, if_neg y5]
  by_cases y6 : x = 6
  · subst y6
    rw [if_pos (show (6 : Int32) = 6 from rfl), if_pos (show (6 : Int32) = 6 from rfl)]
    exact ⟨_, rfl, congrArg some (hR.2.1.1.trans hC.1.2.2.2.1.symm)⟩
  rw [if_neg y6, if_neg y6]
  by_cases y7 : x = 7
  · subst y7
    have u : gI σ 26 0 = w32 (wA (sW S) 0 0) := hC.1.2.1.at 0 0
    have v : gI σ 493 5 = w32 (wA (sW S) 0 0) := hE.1.1 0 0 (by decide) rfl
    rw [if_pos (show (7 : Int32) = 7 from rfl), if_pos (show (7 : Int32) = 7 from rfl), gd_pos (by decide)]
    exact ⟨_, rfl, congrArg some (v.trans u.symm)⟩
  rw [if_neg y7, if_neg y7]
  by_cases y8 : x = 8
  · subst y8
    rw [if_pos (show (8 : Int32) = 8 from rfl), if_pos (show (8 : Int32) = 8 from rfl)]
    obtain ⟨r, a, b⟩ := done2 (F := F) (i1 := 8) hC.1.1 hC.1.2.1 hE.1 wI.1 bA hm hm8 m5 F F 0 0 (by omega) (by omega) (by omega)
    refine ⟨r, ?_, b⟩
    unfold m7_doneBits
    have a : m7_doneBits_4 F 26 17 σ F (0 : Int32) (0 : Int32) = some r := a
    rw [a]; rfl
  rw [if_neg y8, if_neg y8]
  by_cases y9 : x = 9
  · subst y9
    rw [if_pos (show (9 : Int32) = 9 from rfl), if_pos (show (9 : Int32) = 9 from rfl)]
    obtain ⟨r, a, b⟩ := earn2 (F := F) hC.1.1 hC.1.2.1 hE.1 bP bA hm hm8 hn hn3 wf.1.2.1.2.2.1 (by omega) n4 F F 0 0 (by omega) (by omega) (by omega)
    have a : m11_earnedByAll_4 F σ F (0 : Int32) (0 : Int32) = some r := a
    have b : m12_countOf_4 F (3 : Int32) σ F (0 : Int32) (0 : Int32) = some r := b
    refine ⟨r, ?_, ?_⟩
    · unfold m11_earnedByAll
      rw [a]; rfl
    · unfold m12_countOf
      rw [b]; rfl
  rw [if_neg y9, if_neg y9]
  by_cases y10 : x = 10
  · subst y10
    rw [if_pos (show (10 : Int32) = 10 from rfl), if_pos (show (10 : Int32) = 10 from rfl)]
    have hr := isSmithy_r (F := F) hE.1 wPl
    by_cases h1 : wP (sW S) 0 0 = 1
    · rw [if_pos h1] at hr
      obtain ⟨r, a, b⟩ := split2 (F := F) hC.1.1 hC.1.2.1 hE.1 bP bA h1 3 F F 0 0 (by omega) (by omega) (by omega)
      have a : m11_splitBits_4 F σ F (0 : Int32) (0 : Int32) = some r := a
      have b : m12_splitParts_4 F σ F (0 : Int32) (0 : Int32) = some r := b
      refine ⟨r, ?_, ?_⟩
      · unfold m11_splitBits
        rw [a]; rfl
      · rw [hr, Option.bind_some, if_neg (by decide)]
        unfold m12_splitParts
        rw [b]; rfl
    · rw [if_neg h1] at hr
      have h0 : wP (sW S) 0 0 = 0 := by have := wPl.2.2.2.1; omega
      have e0 : gI σ 17 0 = (0 : Int32) := by
        have := hC.1.1.at 0 0
        rw [h0] at this
        exact this
      refine ⟨0, ?_, ?_⟩
      · obtain ⟨F4, rfl⟩ : ∃ k, F = k + 4 := ⟨F - 4, by omega⟩
        unfold m11_splitBits
        rw [m11_splitBits_4, if_neg (by decide), e0, if_pos (show (0 : Int32) = 0 from rfl), m11_splitBits_4, if_neg (by decide), e0, if_pos (show (0 : Int32) = 0 from rfl), m11_splitBits_4, if_neg (by decide), e0, if_pos (show (0 : Int32) = 0 from rfl), m11_splitBits_4, if_pos (by decide)]; rfl
      · rw [hr, Option.bind_some, if_pos rfl]
  rw [if_neg y10, if_neg y10]
  by_cases y11 : x = 11
  · subst y11
    rw [if_pos (show (11 : Int32) = 11 from rfl), if_pos (show (11 : Int32) = 11 from rfl), gd_pos (by decide)]
    exact ⟨_, rfl, congrArg some (hR.1.2.1.trans hC.1.2.2.1.1.symm)⟩
  rw [if_neg y11, if_neg y11]
  by_cases y12 : x = 12
  · subst y12
    rw [if_pos (show (12 : Int32) = 12 from rfl), if_pos (show (12 : Int32) = 12 from rfl)]
    obtain ⟨pn, q1, q2, q3, q4⟩ := hC.2.2.2.1
    exact ⟨_, rfl, congrArg some (hR.2.2.2.2.1.1.trans q3.symm)⟩
  rw [if_neg y12, if_neg y12]
  by_cases y13 : x = 13
  · subst y13
    rw [if_pos (show (13 : Int32) = 13 from rfl), if_pos (show (13 : Int32) = 13 from rfl)]
    exact ⟨_, rfl, congrArg some (hR.2.1.2.1.trans hC.1.2.2.2.2.symm)⟩
  rw [if_neg y13, if_neg y13]
  by_cases y14 : x = 14
  · subst y14
    rw [if_pos (show (14 : Int32) = 14 from rfl), if_pos (show (14 : Int32) = 14 from rfl)]
    exact ⟨_, rfl, congrArg some (hR.2.2.2.1.1.trans hC.2.2.1.1.symm)⟩
  rw [if_neg y14, if_neg y14]
  exact ⟨_, rfl, rfl⟩
