/-! RULES: what a row of signs comes to -/
theorem lg_cases (a b : Int64) : (b < a ∧ ¬ a < b ∧ ¬ a = b ∧ b ≤ a ∧ ¬ a ≤ b ∧ lg_cmp a b = 1) ∨ (¬ b < a ∧ ¬ a < b ∧ a = b ∧ b ≤ a ∧ a ≤ b ∧ lg_cmp a b = 0) ∨ (¬ b < a ∧ a < b ∧ ¬ a = b ∧ ¬ b ≤ a ∧ a ≤ b ∧ lg_cmp a b = -1) := by
  have e : (a = b) ↔ a.toInt = b.toInt := Int64.toInt_inj.symm
  unfold lg_cmp
  simp only [Int64.lt_iff_toInt_lt, Int64.le_iff_toInt_le, gt_iff_lt, e]
  rcases Int.lt_trichotomy a.toInt b.toInt with h | h | h
  · refine Or.inr (Or.inr ⟨by omega, h, by omega, by omega, by omega, ?_⟩)
    rw [if_neg (by omega), if_neg (by omega)]
  · refine Or.inr (Or.inl ⟨by omega, by omega, h, by omega, by omega, ?_⟩)
    rw [if_neg (by omega), if_pos h]
  · refine Or.inl ⟨h, by omega, by omega, by omega, by omega, ?_⟩
    rw [if_pos h]
theorem lg_le0 (a b : Int64) : (lg_cmp a b ≤ 0) = ¬ (b < a) := by
  rcases lg_cases a b with ⟨h1, h2, h3, h4, h5, h6⟩ | ⟨h1, h2, h3, h4, h5, h6⟩ | ⟨h1, h2, h3, h4, h5, h6⟩ <;> rw [h6] <;> simp [h1]
theorem lg_lt0 (a b : Int64) : (lg_cmp a b < 0) = ¬ (b ≤ a) := by
  rcases lg_cases a b with ⟨h1, h2, h3, h4, h5, h6⟩ | ⟨h1, h2, h3, h4, h5, h6⟩ | ⟨h1, h2, h3, h4, h5, h6⟩ <;> rw [h6] <;> simp [h4]
theorem lg_eq0 (a b : Int64) : (lg_cmp a b = 0) = (a = b) := by
  rcases lg_cases a b with ⟨h1, h2, h3, h4, h5, h6⟩ | ⟨h1, h2, h3, h4, h5, h6⟩ | ⟨h1, h2, h3, h4, h5, h6⟩ <;> rw [h6] <;> simp [h3]
theorem lg_0lt (a b : Int64) : (0 < lg_cmp a b) = ¬ (a ≤ b) := by
  rcases lg_cases a b with ⟨h1, h2, h3, h4, h5, h6⟩ | ⟨h1, h2, h3, h4, h5, h6⟩ | ⟨h1, h2, h3, h4, h5, h6⟩ <;> rw [h6] <;> simp [h5]
theorem lg_0le (a b : Int64) : (0 ≤ lg_cmp a b) = ¬ (a < b) := by
  rcases lg_cases a b with ⟨h1, h2, h3, h4, h5, h6⟩ | ⟨h1, h2, h3, h4, h5, h6⟩ | ⟨h1, h2, h3, h4, h5, h6⟩ <;> rw [h6] <;> simp [h2]
def opr (t : Int) (a b : Int64) : Int64 :=
  if t = -20 then a + b else if t = -21 then a - b else if t = -22 then a * b
  else if t = -23 then (if b = 0 then 0 else a / b) else if t = -24 then (if b = 0 then 0 else remL a b)
  else if t = -25 then (if a < b then 1 else 0) else if t = -26 then (if a ≤ b then 1 else 0)
  else if t = -27 then (if a = b then 1 else 0) else if t = -28 then (if b ≤ a then 1 else 0)
  else if t = -29 then (if b < a then 1 else 0) else if t = -31 then a &&& b else a ||| b
/-- one sign of a row, on a stack; none: it can't be done -/
def tokst (w : Nat → Int64) (t : Int) (st : List Int64) : Option (List Int64) :=
  if -20 < t then (if -13 ≤ t ∧ st.length < 61 then some ((if 0 ≤ t then (w32 t).toInt64 else w (-1 - t).toNat) :: st) else none)
  else if t = -30 then (match st with | x :: s => some ((1 - x) :: s) | [] => none)
  else (match st with | b :: a :: s => some (opr t a b :: s) | _ => none)
def run (r : Nat → Int) (w : Nat → Int64) : Nat → Nat → List Int64 → Option (List Int64)
  | 0, _, st => some st
  | d + 1, i, st => Option.bind (tokst w (r i) st) (run r w d (i + 1))
def StR (arr : Nat → Int64) : List Int64 → Prop
  | [] => True
  | x :: s => arr s.length = x ∧ StR arr s
theorem StR_ne {arr arr' : Nat → Int64} : ∀ {st : List Int64}, (∀ k, k < st.length → arr' k = arr k) → StR arr st → StR arr' st
  | [], _, _ => trivial
  | x :: s, h, hs => ⟨(h _ (Nat.lt_succ_self _)).trans hs.1, StR_ne (fun k hk => h k (Nat.lt_succ_of_lt hk)) hs.2⟩
theorem StR_put {σ : Mem} {c : Nat} {s : List Int64} (v : Int64) (h : StR (gL σ c) s) : StR (gL (sL σ c s.length v) c) (v :: s) := by
  refine ⟨?_, StR_ne (fun k hk => ?_) h⟩
  · rw [gL_sL, if_pos ⟨rfl, rfl⟩]
  · rw [gL_sL, if_neg (fun q => by omega)]
theorem w_succ (k : Nat) : w32 (k : Int) + (1 : Int32) = w32 ((k + 1 : Nat) : Int) := by
  rw [wl_1, w_add]; rfl
theorem w_pred (k : Nat) : w32 ((k + 1 : Nat) : Int) - (1 : Int32) = w32 (k : Int) := by
  rw [wl_1, w_sub]; congr 1; omega
theorem w_predm (k : Nat) : w32 ((k + 1 : Nat) : Int) + (-1 : Int32) = w32 (k : Int) := by
  rw [wl_m1, w_add]; congr 1; omega
theorem w383 {F c : Nat} {i1 i2 : Int32} {k : Int32 → Int32 → Mem → Option (Int64 × Mem)} {m : Nat} {x5 : Int32} {v : Int64} {σ : Mem} (hm : m < 61) : m5_worked_383 F c i1 i2 k (w32 ((m + 1 : Nat) : Int)) x5 v σ = k (w32 ((m + 1 : Nat) : Int)) (x5 + 1) (sL σ (c + 5) m v) := by
  unfold m5_worked_383
  rw [w_pred, gd_pos (w_inB (by omega) (by omega) (by omega)), w_natk (by omega)]
theorem worked_ok {F c : Nat} {i1 : Int32} {r : Nat → Int} {w : Nat → Int64} {x : Int64} {N : Nat} (hN : N ≤ 400) (hc : c ≠ 39) :
    ∀ (d n i : Nat) (st : List Int64) (σ : Mem), i + d = N → d < n → (∀ k, k < 400 → gI σ (c + 1) k = w32 (r k)) → (∀ k, i ≤ k → k < N → -32 ≤ r k ∧ r k ≤ 99999) → (∀ k, k < 13 → gL σ 44 k = w k) → StR (gL σ (c + 5)) st → st.length ≤ 61 → run r w d i st = some [x] → ∃ σ', m5_worked_6 F c i1 (w32 (N : Int)) n (w32 (st.length : Int)) (w32 (i : Int)) σ = some (x, σ') := by
  intro d
  induction d with
  | zero =>
    intro n i st σ hi hn hrow hrg hw hs hlen hrun
    obtain ⟨n, rfl⟩ : ∃ m, n = m + 1 := ⟨n - 1, by omega⟩
    have e : st = [x] := Option.some.inj hrun
    subst e
    refine ⟨σ, ?_⟩
    unfold m5_worked_6
    rw [if_pos (by rw [w_le (by omega) (by omega) (by omega) (by omega)]; omega), if_neg (show ¬ (w32 (([x] : List Int64).length : Int) ≤ 0) from (show ¬ (w32 1 ≤ 0) by decide)), gd_pos (by decide)]
    have h1 : gL σ (c + 5) 0 = x := hs.1
    rw [show (0 : Int32).toNatClampNeg = 0 from rfl, h1]
  | succ d ih =>
    intro n i st σ hi hn hrow hrg hw hs hlen hrun
    obtain ⟨n, rfl⟩ : ∃ m, n = m + 1 := ⟨n - 1, by omega⟩
    have hiN : i < N := by omega
    have e := hrow i (by omega)
    obtain ⟨b1, b2⟩ := hrg i (Nat.le_refl _) hiN
    obtain ⟨st1, h1, h2⟩ := b_some hrun
    have key : ∀ (σ1 : Mem), gI σ1 = gI σ → (∀ k, k < 13 → gL σ1 44 k = w k) → StR (gL σ1 (c + 5)) st1 → st1.length ≤ 61 → ∃ σ', m5_worked_6 F c i1 (w32 (N : Int)) n (w32 (st1.length : Int)) (w32 ((i + 1 : Nat) : Int)) σ1 = some (x, σ') := fun σ1 g1 g2 g3 g4 =>
      ih n (i + 1) st1 σ1 (by omega) (by omega) (fun k hk => by rw [g1]; exact hrow k hk) (fun k h3 h4 => hrg k (by omega) h4) g2 g3 g4 h2
    have hput : ∀ (m : Nat) (v : Int64), (∀ k, k < 13 → gL (sL σ (c + 5) m v) 44 k = w k) := fun m v k hk => by
      rw [gL_ne _ _ _ (by omega)]; exact hw k hk
    unfold m5_worked_6
    rw [if_neg (by rw [w_le (by omega) (by omega) (by omega) (by omega)]; omega), gd_pos (w_inB (by omega) (by omega) (by omega)), w_natk (by omega), e]
    unfold tokst at h1
    by_cases ht : -20 < r i
    · -- a value
      rw [if_pos ht] at h1
      have ⟨⟨q1, q2⟩, h1⟩ := (g_if h1).resolve_right (fun z => by cases z.2)
      cases h1
      rw [if_neg (by rw [wl_m20, w_le (by omega) (by omega) (by omega) (by omega)]; omega), if_neg (by rw [nI_w, w_le (by omega) (by omega) (by omega) (by omega)]; omega),
        if_neg (by rw [nI_w, wl_m1, w_sub, w_le (by omega) (by omega) (by omega) (by omega)]; omega)]
      by_cases hz : 0 ≤ r i
      · rw [if_neg (by rw [wl_0, w_lt (by omega) (by omega) (by omega) (by omega)]; omega), gd_pos (w_inB (by omega) (by omega) (by omega)), w_natk (by omega), w_succ, w_succ]
        exact key _ rfl (hput _ _) (by rw [if_pos hz]; exact StR_put _ hs) (by simp only [List.length_cons]; omega)
      · rw [if_pos (by rw [wl_0, w_lt (by omega) (by omega) (by omega) (by omega)]; omega), wl_m1, w_sub, gd_pos (w_inB (by omega) (by omega) (by omega)), gd_pos (w_inB (by omega) (by omega) (by omega)), w_natk (by omega), w_nat (by omega) (by omega), w_succ, w_succ, hw _ (by omega)]
        exact key _ rfl (hput _ _) (by rw [if_neg hz]; exact StR_put _ hs) (by simp only [List.length_cons]; omega)
    · rw [if_neg ht] at h1
      rw [if_pos (by rw [wl_m20, w_le (by omega) (by omega) (by omega) (by omega)]; omega)]
      by_cases h30 : r i = -30
      · rw [if_pos h30] at h1
        rw [h30, if_pos (by decide)]
        match st, hs, hlen, h1 with
        | [], _, _, h1 => cases h1
        | y :: s, hs, hlen, h1 =>
          cases h1
          simp only [List.length_cons] at hlen
          rw [List.length_cons, if_neg (by rw [wl_0, w_le (by omega) (by omega) (by omega) (by omega)]; omega)]
          rw [w_pred, gd_pos (w_inB (by omega) (by omega) (by omega)), gd_pos (w_inB (by omega) (by omega) (by omega)), w_natk (by omega), w_succ, hs.1]
          exact key _ rfl (hput _ _) (StR_put _ hs.2) (by simp only [List.length_cons]; omega)
      · rw [if_neg h30] at h1
        rw [if_neg (by rw [wl_m30, w_eq (by omega) (by omega) (by omega) (by omega)]; exact h30)]
        match st, hs, hlen, h1 with
        | [], _, _, h1 => cases h1
        | [_], _, _, h1 => cases h1
        | b :: a :: s, hs, hlen, h1 =>
          cases h1
          simp only [List.length_cons] at hlen
          have ha : gL σ (c + 5) s.length = a := hs.2.1
          have hb : gL σ (c + 5) (s.length + 1) = b := hs.1
          rw [List.length_cons, List.length_cons, if_neg (by rw [wl_1, w_le (by omega) (by omega) (by omega) (by omega)]; omega)]
          rw [w_predm, w_pred, gd_pos (w_inB (by omega) (by omega) (by omega)), gd_pos (w_inB (by omega) (by omega) (by omega)), w_natk (k := s.length) (by omega), w_natk (k := s.length + 1) (by omega), ha, hb]
          have fin : ∀ v : Int64, v = opr (r i) a b → ∃ σ', m5_worked_6 F c i1 (w32 (N : Int)) n (w32 ((s.length + 1 : Nat) : Int)) (w32 (i : Int) + 1) (sL σ (c + 5) s.length v) = some (x, σ') := fun v hv => by
            rw [w_succ, hv]
            exact key _ rfl (hput _ _) (StR_put _ hs.2.2) (by simp only [List.length_cons]; omega)
          simp only [m5_worked_361, m5_worked_343, m5_worked_325, m5_worked_307, m5_worked_289, m5_worked_271, m5_worked_250, w383 (show s.length < 61 by omega), lg_le0, lg_lt0, lg_eq0, lg_0lt, lg_0le]
          rcases (show r i = -20 ∨ r i = -21 ∨ r i = -22 ∨ r i = -23 ∨ r i = -24 ∨ r i = -25 ∨ r i = -26 ∨ r i = -27 ∨ r i = -28 ∨ r i = -29 ∨ r i = -31 ∨ r i = -32 by omega) with h | h | h | h | h | h | h | h | h | h | h | h
          · rw [h]; simp (disch := omega) only [wl_0, wl_1, wl_2, wl_3, wl_4, wl_5, wl_6, wl_7, wl_8, wl_9, wl_10, wl_11, wl_12, wl_13, wl_14, wl_15, wl_16, wl_20, wl_24, wl_26, wl_30, wl_31, wl_32, wl_40, wl_41, wl_47, wl_48, wl_50, wl_58, wl_59, wl_60, wl_61, wl_64, wl_91, wl_93, wl_95, wl_97, wl_98, wl_99, wl_100, wl_101, wl_122, wl_131, wl_132, wl_200, wl_255, wl_400, wl_500, wl_501, wl_999, wl_1960, wl_9999, wl_99999, wl_4000000, wl_m1, wl_m2, wl_m3, wl_m8, wl_m20, wl_m21, wl_m22, wl_m23, wl_m24, wl_m25, wl_m26, wl_m27, wl_m28, wl_m29, wl_m30, wl_m31, wl_m32, wl_m100000, w_neg, w_eq, ↓reduceIte, Int.reduceNeg, Int.reduceEq]
            exact fin _ (by rw [h]; rfl)
          · rw [h]; simp (disch := omega) only [wl_0, wl_1, wl_2, wl_3, wl_4, wl_5, wl_6, wl_7, wl_8, wl_9, wl_10, wl_11, wl_12, wl_13, wl_14, wl_15, wl_16, wl_20, wl_24, wl_26, wl_30, wl_31, wl_32, wl_40, wl_41, wl_47, wl_48, wl_50, wl_58, wl_59, wl_60, wl_61, wl_64, wl_91, wl_93, wl_95, wl_97, wl_98, wl_99, wl_100, wl_101, wl_122, wl_131, wl_132, wl_200, wl_255, wl_400, wl_500, wl_501, wl_999, wl_1960, wl_9999, wl_99999, wl_4000000, wl_m1, wl_m2, wl_m3, wl_m8, wl_m20, wl_m21, wl_m22, wl_m23, wl_m24, wl_m25, wl_m26, wl_m27, wl_m28, wl_m29, wl_m30, wl_m31, wl_m32, wl_m100000, w_neg, w_eq, ↓reduceIte, Int.reduceNeg, Int.reduceEq]
            exact fin _ (by rw [h]; rfl)
          · rw [h]; simp (disch := omega) only [wl_0, wl_1, wl_2, wl_3, wl_4, wl_5, wl_6, wl_7, wl_8, wl_9, wl_10, wl_11, wl_12, wl_13, wl_14, wl_15, wl_16, wl_20, wl_24, wl_26, wl_30, wl_31, wl_32, wl_40, wl_41, wl_47, wl_48, wl_50, wl_58, wl_59, wl_60, wl_61, wl_64, wl_91, wl_93, wl_95, wl_97, wl_98, wl_99, wl_100, wl_101, wl_122, wl_131, wl_132, wl_200, wl_255, wl_400, wl_500, wl_501, wl_999, wl_1960, wl_9999, wl_99999, wl_4000000, wl_m1, wl_m2, wl_m3, wl_m8, wl_m20, wl_m21, wl_m22, wl_m23, wl_m24, wl_m25, wl_m26, wl_m27, wl_m28, wl_m29, wl_m30, wl_m31, wl_m32, wl_m100000, w_neg, w_eq, ↓reduceIte, Int.reduceNeg, Int.reduceEq]
            exact fin _ (by rw [h]; rfl)
          · rw [h]; simp (disch := omega) only [wl_0, wl_1, wl_2, wl_3, wl_4, wl_5, wl_6, wl_7, wl_8, wl_9, wl_10, wl_11, wl_12, wl_13, wl_14, wl_15, wl_16, wl_20, wl_24, wl_26, wl_30, wl_31, wl_32, wl_40, wl_41, wl_47, wl_48, wl_50, wl_58, wl_59, wl_60, wl_61, wl_64, wl_91, wl_93, wl_95, wl_97, wl_98, wl_99, wl_100, wl_101, wl_122, wl_131, wl_132, wl_200, wl_255, wl_400, wl_500, wl_501, wl_999, wl_1960, wl_9999, wl_99999, wl_4000000, wl_m1, wl_m2, wl_m3, wl_m8, wl_m20, wl_m21, wl_m22, wl_m23, wl_m24, wl_m25, wl_m26, wl_m27, wl_m28, wl_m29, wl_m30, wl_m31, wl_m32, wl_m100000, w_neg, w_eq, ↓reduceIte, Int.reduceNeg, Int.reduceEq]
            by_cases hb0 : b = 0
            · rw [if_pos hb0]
              exact fin _ (by rw [h, hb0]; rfl)
            · rw [if_neg hb0, gd_pos hb0]
              exact fin _ (by rw [h]; exact (if_neg hb0).symm)
          · rw [h]; simp (disch := omega) only [wl_0, wl_1, wl_2, wl_3, wl_4, wl_5, wl_6, wl_7, wl_8, wl_9, wl_10, wl_11, wl_12, wl_13, wl_14, wl_15, wl_16, wl_20, wl_24, wl_26, wl_30, wl_31, wl_32, wl_40, wl_41, wl_47, wl_48, wl_50, wl_58, wl_59, wl_60, wl_61, wl_64, wl_91, wl_93, wl_95, wl_97, wl_98, wl_99, wl_100, wl_101, wl_122, wl_131, wl_132, wl_200, wl_255, wl_400, wl_500, wl_501, wl_999, wl_1960, wl_9999, wl_99999, wl_4000000, wl_m1, wl_m2, wl_m3, wl_m8, wl_m20, wl_m21, wl_m22, wl_m23, wl_m24, wl_m25, wl_m26, wl_m27, wl_m28, wl_m29, wl_m30, wl_m31, wl_m32, wl_m100000, w_neg, w_eq, ↓reduceIte, Int.reduceNeg, Int.reduceEq]
            by_cases hb0 : b = 0
            · rw [if_pos hb0]
              exact fin _ (by rw [h, hb0]; rfl)
            · rw [if_neg hb0, gd_pos hb0]
              exact fin _ (by rw [h]; exact (if_neg hb0).symm)
          · rw [h]; simp (disch := omega) only [wl_0, wl_1, wl_2, wl_3, wl_4, wl_5, wl_6, wl_7, wl_8, wl_9, wl_10, wl_11, wl_12, wl_13, wl_14, wl_15, wl_16, wl_20, wl_24, wl_26, wl_30, wl_31, wl_32, wl_40, wl_41, wl_47, wl_48, wl_50, wl_58, wl_59, wl_60, wl_61, wl_64, wl_91, wl_93, wl_95, wl_97, wl_98, wl_99, wl_100, wl_101, wl_122, wl_131, wl_132, wl_200, wl_255, wl_400, wl_500, wl_501, wl_999, wl_1960, wl_9999, wl_99999, wl_4000000, wl_m1, wl_m2, wl_m3, wl_m8, wl_m20, wl_m21, wl_m22, wl_m23, wl_m24, wl_m25, wl_m26, wl_m27, wl_m28, wl_m29, wl_m30, wl_m31, wl_m32, wl_m100000, w_neg, w_eq, ↓reduceIte, Int.reduceNeg, Int.reduceEq]
            by_cases hc : a < b
            · rw [if_neg (not_not_intro hc)]
              exact fin _ (by rw [h]; exact (if_pos hc).symm)
            · rw [if_pos hc]
              exact fin _ (by rw [h]; exact (if_neg hc).symm)
          · rw [h]; simp (disch := omega) only [wl_0, wl_1, wl_2, wl_3, wl_4, wl_5, wl_6, wl_7, wl_8, wl_9, wl_10, wl_11, wl_12, wl_13, wl_14, wl_15, wl_16, wl_20, wl_24, wl_26, wl_30, wl_31, wl_32, wl_40, wl_41, wl_47, wl_48, wl_50, wl_58, wl_59, wl_60, wl_61, wl_64, wl_91, wl_93, wl_95, wl_97, wl_98, wl_99, wl_100, wl_101, wl_122, wl_131, wl_132, wl_200, wl_255, wl_400, wl_500, wl_501, wl_999, wl_1960, wl_9999, wl_99999, wl_4000000, wl_m1, wl_m2, wl_m3, wl_m8, wl_m20, wl_m21, wl_m22, wl_m23, wl_m24, wl_m25, wl_m26, wl_m27, wl_m28, wl_m29, wl_m30, wl_m31, wl_m32, wl_m100000, w_neg, w_eq, ↓reduceIte, Int.reduceNeg, Int.reduceEq]
            by_cases hc : a ≤ b
            · rw [if_neg (not_not_intro hc)]
              exact fin _ (by rw [h]; exact (if_pos hc).symm)
            · rw [if_pos hc]
              exact fin _ (by rw [h]; exact (if_neg hc).symm)
          · rw [h]; simp (disch := omega) only [wl_0, wl_1, wl_2, wl_3, wl_4, wl_5, wl_6, wl_7, wl_8, wl_9, wl_10, wl_11, wl_12, wl_13, wl_14, wl_15, wl_16, wl_20, wl_24, wl_26, wl_30, wl_31, wl_32, wl_40, wl_41, wl_47, wl_48, wl_50, wl_58, wl_59, wl_60, wl_61, wl_64, wl_91, wl_93, wl_95, wl_97, wl_98, wl_99, wl_100, wl_101, wl_122, wl_131, wl_132, wl_200, wl_255, wl_400, wl_500, wl_501, wl_999, wl_1960, wl_9999, wl_99999, wl_4000000, wl_m1, wl_m2, wl_m3, wl_m8, wl_m20, wl_m21, wl_m22, wl_m23, wl_m24, wl_m25, wl_m26, wl_m27, wl_m28, wl_m29, wl_m30, wl_m31, wl_m32, wl_m100000, w_neg, w_eq, ↓reduceIte, Int.reduceNeg, Int.reduceEq]
            by_cases hc : a = b
            · rw [if_pos hc]
              exact fin _ (by rw [h]; exact (if_pos hc).symm)
            · rw [if_neg hc]
              exact fin _ (by rw [h]; exact (if_neg hc).symm)
          · rw [h]; simp (disch := omega) only [wl_0, wl_1, wl_2, wl_3, wl_4, wl_5, wl_6, wl_7, wl_8, wl_9, wl_10, wl_11, wl_12, wl_13, wl_14, wl_15, wl_16, wl_20, wl_24, wl_26, wl_30, wl_31, wl_32, wl_40, wl_41, wl_47, wl_48, wl_50, wl_58, wl_59, wl_60, wl_61, wl_64, wl_91, wl_93, wl_95, wl_97, wl_98, wl_99, wl_100, wl_101, wl_122, wl_131, wl_132, wl_200, wl_255, wl_400, wl_500, wl_501, wl_999, wl_1960, wl_9999, wl_99999, wl_4000000, wl_m1, wl_m2, wl_m3, wl_m8, wl_m20, wl_m21, wl_m22, wl_m23, wl_m24, wl_m25, wl_m26, wl_m27, wl_m28, wl_m29, wl_m30, wl_m31, wl_m32, wl_m100000, w_neg, w_eq, ↓reduceIte, Int.reduceNeg, Int.reduceEq]
            by_cases hc : b ≤ a
            · rw [if_neg (not_not_intro hc)]
              exact fin _ (by rw [h]; exact (if_pos hc).symm)
            · rw [if_pos hc]
              exact fin _ (by rw [h]; exact (if_neg hc).symm)
          · rw [h]; simp (disch := omega) only [wl_0, wl_1, wl_2, wl_3, wl_4, wl_5, wl_6, wl_7, wl_8, wl_9, wl_10, wl_11, wl_12, wl_13, wl_14, wl_15, wl_16, wl_20, wl_24, wl_26, wl_30, wl_31, wl_32, wl_40, wl_41, wl_47, wl_48, wl_50, wl_58, wl_59, wl_60, wl_61, wl_64, wl_91, wl_93, wl_95, wl_97, wl_98, wl_99, wl_100, wl_101, wl_122, wl_131, wl_132, wl_200, wl_255, wl_400, wl_500, wl_501, wl_999, wl_1960, wl_9999, wl_99999, wl_4000000, wl_m1, wl_m2, wl_m3, wl_m8, wl_m20, wl_m21, wl_m22, wl_m23, wl_m24, wl_m25, wl_m26, wl_m27, wl_m28, wl_m29, wl_m30, wl_m31, wl_m32, wl_m100000, w_neg, w_eq, ↓reduceIte, Int.reduceNeg, Int.reduceEq]
            by_cases hc : b < a
            · rw [if_neg (not_not_intro hc)]
              exact fin _ (by rw [h]; exact (if_pos hc).symm)
            · rw [if_pos hc]
              exact fin _ (by rw [h]; exact (if_neg hc).symm)
          · rw [h]; simp (disch := omega) only [wl_0, wl_1, wl_2, wl_3, wl_4, wl_5, wl_6, wl_7, wl_8, wl_9, wl_10, wl_11, wl_12, wl_13, wl_14, wl_15, wl_16, wl_20, wl_24, wl_26, wl_30, wl_31, wl_32, wl_40, wl_41, wl_47, wl_48, wl_50, wl_58, wl_59, wl_60, wl_61, wl_64, wl_91, wl_93, wl_95, wl_97, wl_98, wl_99, wl_100, wl_101, wl_122, wl_131, wl_132, wl_200, wl_255, wl_400, wl_500, wl_501, wl_999, wl_1960, wl_9999, wl_99999, wl_4000000, wl_m1, wl_m2, wl_m3, wl_m8, wl_m20, wl_m21, wl_m22, wl_m23, wl_m24, wl_m25, wl_m26, wl_m27, wl_m28, wl_m29, wl_m30, wl_m31, wl_m32, wl_m100000, w_neg, w_eq, ↓reduceIte, Int.reduceNeg, Int.reduceEq]
            exact fin _ (by rw [h]; rfl)
          · rw [h]; simp (disch := omega) only [wl_0, wl_1, wl_2, wl_3, wl_4, wl_5, wl_6, wl_7, wl_8, wl_9, wl_10, wl_11, wl_12, wl_13, wl_14, wl_15, wl_16, wl_20, wl_24, wl_26, wl_30, wl_31, wl_32, wl_40, wl_41, wl_47, wl_48, wl_50, wl_58, wl_59, wl_60, wl_61, wl_64, wl_91, wl_93, wl_95, wl_97, wl_98, wl_99, wl_100, wl_101, wl_122, wl_131, wl_132, wl_200, wl_255, wl_400, wl_500, wl_501, wl_999, wl_1960, wl_9999, wl_99999, wl_4000000, wl_m1, wl_m2, wl_m3, wl_m8, wl_m20, wl_m21, wl_m22, wl_m23, wl_m24, wl_m25, wl_m26, wl_m27, wl_m28, wl_m29, wl_m30, wl_m31, wl_m32, wl_m100000, w_neg, w_eq, ↓reduceIte, Int.reduceNeg, Int.reduceEq]
            exact fin _ (by rw [h]; rfl)
/-! a RULE: clauses (0, 3), the row (1), where sums (2) and tests (3) begin and tests end (4) -/
def val (R : Dat) (w : Nat → Int64) (a b : Int) : Int64 := match run (R 1) w (b - a).toNat a.toNat [] with
  | some (x :: _) => x
  | _ => 0
def stkL (R : Dat) (w : Nat → Int64) : Nat → Nat → Bool
  | 0, _ => false
  | d + 1, i => if R 3 i = R 4 i ∨ val R w (R 3 i) (R 4 i) ≠ 0 then decide (0 < val R w (R 2 i) (R 3 i)) else stkL R w d (i + 1)
def stk (R : Dat) (w : Nat → Int64) : Bool := stkL R w (R 0 3).toNat 0
def GoodS (r : Nat → Int) (a b : Int) : Prop := 0 ≤ a ∧ a ≤ b ∧ b ≤ 400 ∧ (∀ k : Nat, a ≤ k → k < b → -32 ≤ r k ∧ r k ≤ 99999) ∧ ∀ w, ∃ x, run r w (b - a).toNat a.toNat [] = some [x]
def WfR (R : Dat) : Prop := 0 ≤ R 0 3 ∧ R 0 3 ≤ 12 ∧ ∀ i : Nat, (i : Int) < R 0 3 → GoodS (R 1) (R 2 i) (R 3 i) ∧ (R 3 i = R 4 i ∨ (GoodS (R 1) (R 3 i) (R 4 i) ∧ ∀ w, val R w (R 3 i) (R 4 i) = 0 ∨ val R w (R 3 i) (R 4 i) = 1))
def RepG (c : Nat) (σ : Mem) (R : Dat) : Prop := gI σ c 3 = w32 (R 0 3) ∧ (∀ j, j < 400 → gI σ (c + 1) j = w32 (R 1 j)) ∧ ∀ i, i < 12 → gI σ (c + 2) i = w32 (R 2 i) ∧ gI σ (c + 3) i = w32 (R 3 i) ∧ gI σ (c + 4) i = w32 (R 4 i)
theorem RepG.fr {W : Nat → Prop} {c : Nat} {σ σ' : Mem} {R : Dat} (h : RepG c σ R) (f : Fr W σ σ') (hw : ∀ i, i ≤ 4 → ¬ W (c + i)) : RepG c σ' R := by
  obtain ⟨h1, h2, h3⟩ := h
  refine ⟨?_, fun j hj => ?_, fun i hi => ?_⟩
  · rw [f.gI (show ¬ W c from hw 0 (by decide))]; exact h1
  · rw [f.gI (hw 1 (by decide))]; exact h2 j hj
  · rw [f.gI (hw 2 (by decide)), f.gI (hw 3 (by decide)), f.gI (hw 4 (by decide))]; exact h3 i hi
theorem worked_val {F c : Nat} {σ : Mem} {R : Dat} {a b : Int} (hF : 1000 ≤ F) (hc : c ≠ 39) (hrow : ∀ j, j < 400 → gI σ (c + 1) j = w32 (R 1 j)) (hg : GoodS (R 1) a b) : ∃ σ', m5_worked F c (w32 a) (w32 b) σ = some (val R (gL σ 44) a b, σ') := by
  obtain ⟨h1, h2, h3, h4, h5⟩ := hg
  obtain ⟨x, hx⟩ := h5 (gL σ 44)
  have h := worked_ok (F := F) (c := c) (i1 := w32 a) (r := R 1) (w := gL σ 44) (x := x) (N := b.toNat) (by omega) hc (b - a).toNat F a.toNat [] σ (by omega) (by omega) hrow (fun k q1 q2 => h4 k (by omega) (by omega)) (fun k _ => rfl) trivial (by simp) hx
  have hv : val R (gL σ 44) a b = x := by unfold val; rw [hx]
  rw [show ((b.toNat : Nat) : Int) = b by omega, show ((a.toNat : Nat) : Int) = a by omega] at h
  unfold m5_worked
  rw [hv]
  exact h
theorem strikes_ok {F c : Nat} {R : Dat} {w : Nat → Int64} (hF : 1000 ≤ F) (hc : 151 ≤ c) (hw : WfR R) : ∀ (d n i : Nat) (σ : Mem), (i : Int) + d = R 0 3 → d < n → RepG c σ R → gL σ 44 = w → ∃ σ', m5_strikes_2 F c n (w32 (i : Int)) σ = some (if stkL R w d i then (1 : Int32) else 0, σ') := by
  intro d
  have w2 := hw
  obtain ⟨g1, g2, g3⟩ := hw
  induction d with
  | zero =>
    intro n i σ h1 h2 hG hL
    obtain ⟨n, rfl⟩ : ∃ k, n = k + 1 := ⟨n - 1, by omega⟩
    unfold m5_strikes_2 stkL
    rw [hG.1, if_pos (by rw [w_le (by omega) (by omega) (by omega) (by omega)]; omega), if_neg (by decide)]
    exact ⟨σ, rfl⟩
  | succ d ih =>
    intro n i σ h1 h2 hG hL
    obtain ⟨n, rfl⟩ : ∃ k, n = k + 1 := ⟨n - 1, by omega⟩
    obtain ⟨gs, gt⟩ := g3 i (by omega)
    obtain ⟨r1, r2, r3⟩ := hG.2.2 i (by omega)
    have s53 : ∀ σ1 : Mem, RepG c σ1 R → gL σ1 44 = w → ∃ σ', m5_strikes_53 F c (w32 (i : Int)) σ1 = some (if decide (0 < val R w (R 2 i) (R 3 i)) = true then (1 : Int32) else 0, σ') := by
      intro σ1 hG1 hL1
      obtain ⟨q1, q2, q3⟩ := hG1.2.2 i (by omega)
      unfold m5_strikes_53
      rw [gd_pos (w_inB (by omega) (by omega) (by omega)), gd_pos (w_inB (by omega) (by omega) (by omega)), w_natk (by omega), q1, q2]
      obtain ⟨σ', m⟩ := worked_val (F := F) (c := c) (σ := σ1) hF (by omega) hG1.2.1 gs
      rw [m, Option.bind_some, hL1]
      refine ⟨σ', ?_⟩
      simp only [lg_le0, decide_eq_true_eq]
      by_cases hv : 0 < val R w (R 2 i) (R 3 i)
      · rw [if_neg (not_not_intro hv), if_pos hv]
      · rw [if_pos hv, if_neg hv]
    unfold m5_strikes_2 stkL
    have bs := gs
    obtain ⟨a1, a2, a3, -, -⟩ := bs
    rw [hG.1, if_neg (by rw [w_le (by omega) (by omega) (by omega) (by omega)]; omega), if_neg (by rw [wl_12, w_le (by omega) (by omega) (by omega) (by omega)]; omega), gd_pos (w_inB (by omega) (by omega) (by omega)), gd_pos (w_inB (by omega) (by omega) (by omega)), w_natk (by omega), r2, r3, gd_pos (w_inB (by omega) (by omega) (by omega)), gd_pos (w_inB (by omega) (by omega) (by omega)), w_succ]
    by_cases he : R 3 i = R 4 i
    · rw [if_pos (by rw [he]), if_pos (Or.inl he)]
      exact s53 σ hG hL
    · obtain ⟨gt1, gt2⟩ := gt.resolve_left he
      have b4 := gt1
      obtain ⟨b1, b2, b3, -, -⟩ := b4
      rw [if_neg (by rw [w_eq (by omega) (by omega) (by omega) (by omega)]; exact he)]
      obtain ⟨σ1, m⟩ := worked_val (F := F) (c := c) (σ := σ) hF (by omega) hG.2.1 gt1
      have f1 := f5_worked m
      rw [m, Option.bind_some, hL]
      have hG1 : RepG c σ1 R := hG.fr f1 (fun i hi => by unfold Wm5_worked; omega)
      have hL1 : gL σ1 44 = w := by rw [f1.gL (by unfold Wm5_worked; omega)]; exact hL
      simp only [lg_eq0]
      by_cases hv : val R w (R 3 i) (R 4 i) = 0
      · rw [if_pos hv, if_neg (show ¬ (R 3 i = R 4 i ∨ val R w (R 3 i) (R 4 i) ≠ 0) from fun z => z.elim he (fun q => q hv))]
        exact ih n (i + 1) σ1 (by omega) (by omega) hG1 hL1
      · rw [if_neg hv, if_pos (Or.inr hv)]
        exact s53 σ1 hG1 hL1
theorem tokst_w {w w' : Nat → Int64} (h : ∀ i, i < 13 → w i = w' i) (t : Int) (st : List Int64) : tokst w t st = tokst w' t st := by
  unfold tokst
  by_cases h1 : -20 < t
  · rw [if_pos h1, if_pos h1]
    by_cases h2 : -13 ≤ t ∧ st.length < 61
    · rw [if_pos h2, if_pos h2]
      by_cases hz : 0 ≤ t
      · rw [if_pos hz, if_pos hz]
      · rw [if_neg hz, if_neg hz, h _ (by omega)]
    · rw [if_neg h2, if_neg h2]
  · rw [if_neg h1, if_neg h1]
theorem run_w {r : Nat → Int} {w w' : Nat → Int64} (h : ∀ i, i < 13 → w i = w' i) : ∀ d i, run r w d i = run r w' d i
  | 0, _ => rfl
  | d + 1, i => by
    funext st
    unfold run
    rw [tokst_w h, run_w h d (i + 1)]
theorem val_w {R : Dat} {w w' : Nat → Int64} (h : ∀ i, i < 13 → w i = w' i) (a b : Int) : val R w a b = val R w' a b := by
  unfold val
  rw [run_w h]
theorem stkL_w {R : Dat} {w w' : Nat → Int64} (h : ∀ i, i < 13 → w i = w' i) : ∀ d i, stkL R w d i = stkL R w' d i
  | 0, _ => rfl
  | d + 1, i => by
    unfold stkL
    rw [val_w h, val_w h, stkL_w h d (i + 1)]
theorem stk_w {R : Dat} {w w' : Nat → Int64} (h : ∀ i, i < 13 → w i = w' i) : stk R w = stk R w' := stkL_w h _ _
