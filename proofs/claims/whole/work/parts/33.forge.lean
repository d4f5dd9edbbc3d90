/-! THE FORGE OF THE CLASS: a MOMENT -/
def RepK (σ : Mem) (K : Nat → Int) : Prop := ∀ j, ((2 ≤ j ∧ j ≤ 6) ∨ (11 ≤ j ∧ j ≤ 13)) → gI σ 40 j = w32 (K j)
def RepC (σ : Mem) (K : Nat → Int) : Prop := ∀ j, (2 ≤ j ∧ j ≤ 6) → gI σ 40 j = w32 (K j)
def upK (K : Nat → Int) (j : Nat) (v : Int) : Nat → Int := fun j' => if j' = j then v else K j'
theorem RepK.ne {σ : Mem} {K : Nat → Int} (h : RepK σ K) {c' j : Nat} {v : Int32} (hc : c' ≠ 40) : RepK (sI σ c' j v) K := fun j' h1 => by
  rw [gI_nec (by omega)]
  exact h j' h1
theorem RepC.ne {σ : Mem} {K : Nat → Int} (h : RepC σ K) {c' j : Nat} {v : Int32} (hc : c' ≠ 40) : RepC (sI σ c' j v) K := fun j' h1 => by
  rw [gI_nec (by omega)]
  exact h j' h1
theorem RepC.fr {W : Nat → Prop} {σ σ' : Mem} {K : Nat → Int} (h : RepC σ K) (f : Fr W σ σ') (hw : ¬ W 40) : RepC σ' K := fun j h1 => by
  rw [f.gI hw]
  exact h j h1
theorem RepK.up {σ : Mem} {K : Nat → Int} (h : RepK σ K) (j : Nat) (v : Int) : RepK (sI σ 40 j (w32 v)) (upK K j v) := fun j' h1 => by
  unfold upK
  by_cases q : j' = j
  · rw [if_pos q, q, gI_eq]
  · rw [if_neg q, gI_nej q]
    exact h j' h1
theorem RepK.fr {W : Nat → Prop} {σ σ' : Mem} {K : Nat → Int} (h : RepK σ K) (f : Fr W σ σ') (hw : ¬ W 40) : RepK σ' K := fun j h1 => by
  rw [f.gI hw]
  exact h j h1
/-- where a state may lie -/
def StC (c : Nat) : Prop := 26 ≤ c ∧ (c + 9 < 40 ∨ 44 < c) ∧ c + 9 < 151
def bitI (s : Int) (p : Nat) : Bool := decide (((w32 s >>> (w32 (p : Int) &&& w32 31)) &&& w32 1) = w32 1)
theorem bit_w (s : Int) (p : Nat) : (((w32 s >>> (w32 (p : Int) &&& w32 31)) &&& w32 1) = w32 1) = (bitI s p = true) := by
  unfold bitI
  rw [decide_eq_true_eq]
/-! heating -/
def heatA (P A : Dat) (K : Nat → Int) (p j : Nat) : Dat :=
  if K 5 = 0 then (if A 1 p + P 1 p ≤ P 0 2 then up (up A 2 p 0) 1 p (A 1 p + P 1 p) else up (up (up (up (up A 2 p 0) 1 p (A 1 p + P 1 p)) 1 p 0) 6 j (P 5 j)) 4 p (A 4 p + 1))
  else (if A 1 p ≤ P 0 2 then up A 2 p 0 else up (up (up (up A 2 p 0) 1 p 0) 6 j (P 5 j)) 4 p (A 4 p + 1))
def heatK (P A : Dat) (K : Nat → Int) (p : Nat) : Nat → Int :=
  if (if K 5 = 0 then A 1 p + P 1 p else A 1 p) ≤ P 0 2 then K else upK K 13 (K 13 + 1)
theorem heatUp_ok {F c1 : Nat} {σ : Mem} {P A : Dat} {K : Nat → Int} {p j : Nat} (hP : RepP 17 σ P) (hS : RepS c1 σ A) (hK : RepK σ K) (bP : Bd 1000000000 P) (bA : Bd 1000000000 A) (bK : -1000000000 ≤ K 5 ∧ K 5 ≤ 1000000000) (hc : StC c1) (hp : p < 3) (hj : j < 8) (hJ : gI σ 41 p = w32 (j : Int)) :
    ∃ σ', m2_heatUp F c1 (w32 (p : Int)) σ = some σ' ∧ RepS c1 σ' (heatA P A K p j) ∧ RepK σ' (heatK P A K p) := by
  obtain ⟨c_1, c_2, c_3⟩ := hc
  have e5 := hK 5 (by decide)
  have e13 := hK 13 (by decide)
  have h1 := hS.at 1 p
  have h4 := hS.at 4 p
  have q : gI σ 18 p = w32 (P 1 p) := hP.at 1 p
  have qb : gI σ 17 2 = w32 (P 0 2) := hP.at 0 2
  have ql : gI σ 22 j = w32 (P 5 j) := hP.at 5 j
  have b1 := bA 1 p
  have b2 := bP 1 p
  have b3 := bP 0 2
  unfold m2_heatUp m2_heatUp_32 heatA heatK
  by_cases hk : K 5 = 0
  · simp only [hk, if_true]
    by_cases hb : A 1 p + P 1 p ≤ P 0 2
    · simp only [hb, if_true]
      apply Exists.intro; refine ⟨?_, ?_, ?_⟩
      · simp (disch := omega) only [wl_0, wl_1, wl_2, wl_3, wl_4, wl_5, wl_6, wl_7, wl_8, wl_9, wl_10, wl_11, wl_12, wl_13, wl_14, wl_15, wl_16, wl_20, wl_24, wl_26, wl_30, wl_31, wl_32, wl_40, wl_41, wl_47, wl_48, wl_50, wl_58, wl_59, wl_60, wl_61, wl_64, wl_91, wl_93, wl_95, wl_97, wl_98, wl_99, wl_100, wl_101, wl_122, wl_131, wl_132, wl_200, wl_255, wl_400, wl_500, wl_501, wl_999, wl_1960, wl_9999, wl_99999, wl_4000000, wl_m1, wl_m2, wl_m3, wl_m8, wl_m20, wl_m21, wl_m22, wl_m23, wl_m24, wl_m25, wl_m26, wl_m27, wl_m28, wl_m29, wl_m30, wl_m31, wl_m32, wl_m100000, w_add, w_sub, w_mul, w_neg, w_eq, w_lt, w_le, w_natk, w_nat, Int.toNat_natCast, tn_0, tn_1, tn_2, tn_3, tn_4, tn_5, tn_6, tn_7, tn_8, tn_9, tn_10, tn_11, tn_12, tn_13, tn_14, tn_15, tn_16, tn_20, tn_24, tn_26, tn_30, tn_31, tn_32, tn_40, tn_41, tn_47, tn_48, tn_50, tn_58, tn_59, tn_60, tn_61, tn_64, tn_91, tn_93, tn_95, tn_97, tn_98, tn_99, tn_100, tn_101, tn_122, tn_131, tn_132, w_inB, gd_T, Option.bind_some, ↓reduceIte, if_true, if_false, ite_true, ite_false, gI_eq, gI_nec, gI_nej, gI_sL, gL_sI, gI_sR, gL_sR, gR_sI, gR_sL, gR_sR, e5, hk, h1, q, qb, hb] <;> rfl
      · exact (hS.up 2 p 0).up 1 p _
      · exact (hK.ne (by omega)).ne (by omega)
    · simp only [hb, if_false]
      apply Exists.intro; refine ⟨?_, ?_, ?_⟩
      · simp (disch := omega) only [wl_0, wl_1, wl_2, wl_3, wl_4, wl_5, wl_6, wl_7, wl_8, wl_9, wl_10, wl_11, wl_12, wl_13, wl_14, wl_15, wl_16, wl_20, wl_24, wl_26, wl_30, wl_31, wl_32, wl_40, wl_41, wl_47, wl_48, wl_50, wl_58, wl_59, wl_60, wl_61, wl_64, wl_91, wl_93, wl_95, wl_97, wl_98, wl_99, wl_100, wl_101, wl_122, wl_131, wl_132, wl_200, wl_255, wl_400, wl_500, wl_501, wl_999, wl_1960, wl_9999, wl_99999, wl_4000000, wl_m1, wl_m2, wl_m3, wl_m8, wl_m20, wl_m21, wl_m22, wl_m23, wl_m24, wl_m25, wl_m26, wl_m27, wl_m28, wl_m29, wl_m30, wl_m31, wl_m32, wl_m100000, w_add, w_sub, w_mul, w_neg, w_eq, w_lt, w_le, w_natk, w_nat, Int.toNat_natCast, tn_0, tn_1, tn_2, tn_3, tn_4, tn_5, tn_6, tn_7, tn_8, tn_9, tn_10, tn_11, tn_12, tn_13, tn_14, tn_15, tn_16, tn_20, tn_24, tn_26, tn_30, tn_31, tn_32, tn_40, tn_41, tn_47, tn_48, tn_50, tn_58, tn_59, tn_60, tn_61, tn_64, tn_91, tn_93, tn_95, tn_97, tn_98, tn_99, tn_100, tn_101, tn_122, tn_131, tn_132, w_inB, gd_T, Option.bind_some, ↓reduceIte, if_true, if_false, ite_true, ite_false, gI_eq, gI_nec, gI_nej, gI_sL, gL_sI, gI_sR, gL_sR, gR_sI, gR_sL, gR_sR, e5, hk, h1, q, qb, hb, hJ, ql, h4, e13] <;> rfl
      · exact RepS.ne (((((hS.up 2 p 0).up 1 p _).up 1 p 0).up 6 j _).up 4 p _) (by omega)
      · exact (((((hK.ne (by omega)).ne (by omega)).ne (by omega)).ne (by omega)).ne (by omega)).up 13 _
  · simp only [hk, if_false]
    by_cases hb : A 1 p ≤ P 0 2
    · simp only [hb, if_true]
      apply Exists.intro; refine ⟨?_, ?_, ?_⟩
      · simp (disch := omega) only [wl_0, wl_1, wl_2, wl_3, wl_4, wl_5, wl_6, wl_7, wl_8, wl_9, wl_10, wl_11, wl_12, wl_13, wl_14, wl_15, wl_16, wl_20, wl_24, wl_26, wl_30, wl_31, wl_32, wl_40, wl_41, wl_47, wl_48, wl_50, wl_58, wl_59, wl_60, wl_61, wl_64, wl_91, wl_93, wl_95, wl_97, wl_98, wl_99, wl_100, wl_101, wl_122, wl_131, wl_132, wl_200, wl_255, wl_400, wl_500, wl_501, wl_999, wl_1960, wl_9999, wl_99999, wl_4000000, wl_m1, wl_m2, wl_m3, wl_m8, wl_m20, wl_m21, wl_m22, wl_m23, wl_m24, wl_m25, wl_m26, wl_m27, wl_m28, wl_m29, wl_m30, wl_m31, wl_m32, wl_m100000, w_add, w_sub, w_mul, w_neg, w_eq, w_lt, w_le, w_natk, w_nat, Int.toNat_natCast, tn_0, tn_1, tn_2, tn_3, tn_4, tn_5, tn_6, tn_7, tn_8, tn_9, tn_10, tn_11, tn_12, tn_13, tn_14, tn_15, tn_16, tn_20, tn_24, tn_26, tn_30, tn_31, tn_32, tn_40, tn_41, tn_47, tn_48, tn_50, tn_58, tn_59, tn_60, tn_61, tn_64, tn_91, tn_93, tn_95, tn_97, tn_98, tn_99, tn_100, tn_101, tn_122, tn_131, tn_132, w_inB, gd_T, Option.bind_some, ↓reduceIte, if_true, if_false, ite_true, ite_false, gI_eq, gI_nec, gI_nej, gI_sL, gL_sI, gI_sR, gL_sR, gR_sI, gR_sL, gR_sR, e5, hk, h1, q, qb, hb] <;> rfl
      · exact (hS.up 2 p 0)
      · exact (hK.ne (by omega))
    · simp only [hb, if_false]
      apply Exists.intro; refine ⟨?_, ?_, ?_⟩
      · simp (disch := omega) only [wl_0, wl_1, wl_2, wl_3, wl_4, wl_5, wl_6, wl_7, wl_8, wl_9, wl_10, wl_11, wl_12, wl_13, wl_14, wl_15, wl_16, wl_20, wl_24, wl_26, wl_30, wl_31, wl_32, wl_40, wl_41, wl_47, wl_48, wl_50, wl_58, wl_59, wl_60, wl_61, wl_64, wl_91, wl_93, wl_95, wl_97, wl_98, wl_99, wl_100, wl_101, wl_122, wl_131, wl_132, wl_200, wl_255, wl_400, wl_500, wl_501, wl_999, wl_1960, wl_9999, wl_99999, wl_4000000, wl_m1, wl_m2, wl_m3, wl_m8, wl_m20, wl_m21, wl_m22, wl_m23, wl_m24, wl_m25, wl_m26, wl_m27, wl_m28, wl_m29, wl_m30, wl_m31, wl_m32, wl_m100000, w_add, w_sub, w_mul, w_neg, w_eq, w_lt, w_le, w_natk, w_nat, Int.toNat_natCast, tn_0, tn_1, tn_2, tn_3, tn_4, tn_5, tn_6, tn_7, tn_8, tn_9, tn_10, tn_11, tn_12, tn_13, tn_14, tn_15, tn_16, tn_20, tn_24, tn_26, tn_30, tn_31, tn_32, tn_40, tn_41, tn_47, tn_48, tn_50, tn_58, tn_59, tn_60, tn_61, tn_64, tn_91, tn_93, tn_95, tn_97, tn_98, tn_99, tn_100, tn_101, tn_122, tn_131, tn_132, w_inB, gd_T, Option.bind_some, ↓reduceIte, if_true, if_false, ite_true, ite_false, gI_eq, gI_nec, gI_nej, gI_sL, gL_sI, gI_sR, gL_sR, gR_sI, gR_sL, gR_sR, e5, hk, h1, q, qb, hb, hJ, ql, h4, e13] <;> rfl
      · exact RepS.ne ((((hS.up 2 p 0).up 1 p 0).up 6 j _).up 4 p _) (by omega)
      · exact ((((hK.ne (by omega)).ne (by omega)).ne (by omega)).ne (by omega)).up 13 _
/-! striking -/
def strikeA (P A : Dat) (K : Nat → Int) (p j : Nat) : Dat :=
  let A1 := up (up A 2 p 0) 1 p (max 0 (A 1 p - P 0 1))
  if A 1 p < P 6 j then up A1 5 p (A 5 p + 1)
  else if K 6 = 0 then (let A2 := up A1 6 j (A 6 j - 1); if A 6 j - 1 = 0 then up (up (up (up A2 1 p 0) 3 p (A 3 p + 1)) 7 j (min 9999 (A 0 0 + 1))) 10 p (A 10 p + P 7 j) else A2) else A1
def orS (s : Int) (p : Nat) : Int := (w32 s ||| (w32 1 <<< (w32 (p : Int) &&& w32 31))).toInt
theorem orS_w (s : Int) (p : Nat) : (w32 s ||| (w32 1 <<< (w32 (p : Int) &&& w32 31))) = w32 (orS s p) := (w_of _).symm
def strikeK (P A : Dat) (K : Nat → Int) (p j : Nat) : Nat → Int :=
  if A 1 p < P 6 j then K else upK (upK K 11 (K 11 + 1)) 12 (orS (K 12) p)
theorem isHot_ok {F c1 : Nat} {σ : Mem} {P A : Dat} {p j : Nat} (hP : RepP 17 σ P) (hS : RepS c1 σ A) (bP : Bd 1000000000 P) (bA : Bd 1000000000 A) (hp : p < 3) (hj : j < 8) (hJ : gI σ 41 p = w32 (j : Int)) : m2_isHot F c1 (w32 (p : Int)) σ = some (if A 1 p < P 6 j then w32 0 else w32 1) := by
  have h1 := hS.at 1 p
  have q : gI σ 23 j = w32 (P 6 j) := hP.at 6 j
  have b1 := bA 1 p
  have b2 := bP 6 j
  unfold m2_isHot
  simp (disch := omega) only [wl_0, wl_1, wl_2, wl_3, wl_4, wl_5, wl_6, wl_7, wl_8, wl_9, wl_10, wl_11, wl_12, wl_13, wl_14, wl_15, wl_16, wl_20, wl_24, wl_26, wl_30, wl_31, wl_32, wl_40, wl_41, wl_47, wl_48, wl_50, wl_58, wl_59, wl_60, wl_61, wl_64, wl_91, wl_93, wl_95, wl_97, wl_98, wl_99, wl_100, wl_101, wl_122, wl_131, wl_132, wl_200, wl_255, wl_400, wl_500, wl_501, wl_999, wl_1960, wl_9999, wl_99999, wl_4000000, wl_m1, wl_m2, wl_m3, wl_m8, wl_m20, wl_m21, wl_m22, wl_m23, wl_m24, wl_m25, wl_m26, wl_m27, wl_m28, wl_m29, wl_m30, wl_m31, wl_m32, wl_m100000, w_add, w_sub, w_mul, w_neg, w_eq, w_lt, w_le, w_natk, w_nat, Int.toNat_natCast, tn_0, tn_1, tn_2, tn_3, tn_4, tn_5, tn_6, tn_7, tn_8, tn_9, tn_10, tn_11, tn_12, tn_13, tn_14, tn_15, tn_16, tn_20, tn_24, tn_26, tn_30, tn_31, tn_32, tn_40, tn_41, tn_47, tn_48, tn_50, tn_58, tn_59, tn_60, tn_61, tn_64, tn_91, tn_93, tn_95, tn_97, tn_98, tn_99, tn_100, tn_101, tn_122, tn_131, tn_132, w_inB, gd_T, Option.bind_some, ↓reduceIte, if_true, if_false, ite_true, ite_false, gI_eq, gI_nec, gI_nej, gI_sL, gL_sI, gI_sR, gL_sR, gR_sI, gR_sL, gR_sR, h1, q, hJ]
  split <;> rfl
theorem strikeOnce_ok {F c1 : Nat} {σ : Mem} {P A : Dat} {K : Nat → Int} {p j : Nat} (hP : RepP 17 σ P) (hS : RepS c1 σ A) (hK : RepK σ K) (bP : Bd 1000000000 P) (bA : Bd 1000000000 A) (bK : -1000000000 ≤ K 6 ∧ K 6 ≤ 1000000000) (hc : StC c1) (hp : p < 3) (hj : j < 8) (hJ : gI σ 41 p = w32 (j : Int)) :
    ∃ σ', m2_strikeOnce F c1 (w32 (p : Int)) σ = some σ' ∧ RepS c1 σ' (strikeA P A K p j) ∧ RepK σ' (strikeK P A K p j) := by
  have hot := isHot_ok (F := F) hP hS bP bA hp hj hJ
  obtain ⟨c_1, c_2, c_3⟩ := hc
  have e6 := hK 6 (by decide)
  have e11 := hK 11 (by decide)
  have e12 := hK 12 (by decide)
  have h1 := hS.at 1 p
  have h3 := hS.at 3 p
  have h5 := hS.at 5 p
  have h6 := hS.at 6 j
  have h0 : gI σ c1 0 = w32 (A 0 0) := hS.at 0 0
  have q : gI σ 17 1 = w32 (P 0 1) := hP.at 0 1
  have b1 := bA 1 p
  have b2 := bP 0 1
  have b3 := bA 0 0
  have b6 := bA 6 j
  unfold m2_strikeOnce strikeA strikeK
  rw [hot]
  by_cases hh : A 1 p < P 6 j
  · simp only [hh, if_true]
    apply Exists.intro; refine ⟨?_, ?_, ?_⟩
    · simp (disch := omega) only [wl_0, wl_1, wl_2, wl_3, wl_4, wl_5, wl_6, wl_7, wl_8, wl_9, wl_10, wl_11, wl_12, wl_13, wl_14, wl_15, wl_16, wl_20, wl_24, wl_26, wl_30, wl_31, wl_32, wl_40, wl_41, wl_47, wl_48, wl_50, wl_58, wl_59, wl_60, wl_61, wl_64, wl_91, wl_93, wl_95, wl_97, wl_98, wl_99, wl_100, wl_101, wl_122, wl_131, wl_132, wl_200, wl_255, wl_400, wl_500, wl_501, wl_999, wl_1960, wl_9999, wl_99999, wl_4000000, wl_m1, wl_m2, wl_m3, wl_m8, wl_m20, wl_m21, wl_m22, wl_m23, wl_m24, wl_m25, wl_m26, wl_m27, wl_m28, wl_m29, wl_m30, wl_m31, wl_m32, wl_m100000, w_add, w_sub, w_mul, w_neg, w_eq, w_lt, w_le, w_natk, w_nat, Int.toNat_natCast, tn_0, tn_1, tn_2, tn_3, tn_4, tn_5, tn_6, tn_7, tn_8, tn_9, tn_10, tn_11, tn_12, tn_13, tn_14, tn_15, tn_16, tn_20, tn_24, tn_26, tn_30, tn_31, tn_32, tn_40, tn_41, tn_47, tn_48, tn_50, tn_58, tn_59, tn_60, tn_61, tn_64, tn_91, tn_93, tn_95, tn_97, tn_98, tn_99, tn_100, tn_101, tn_122, tn_131, tn_132, w_inB, gd_T, Option.bind_some, ↓reduceIte, if_true, if_false, ite_true, ite_false, gI_eq, gI_nec, gI_nej, gI_sL, gL_sI, gI_sR, gL_sR, gR_sI, gR_sL, gR_sR, h1, q, h5, mxI_w, if_true] <;> rfl
    · exact ((hS.up 2 p 0).up 1 p _).up 5 p _
    · exact ((hK.ne (by omega)).ne (by omega)).ne (by omega)
  · simp only [hh, if_false]
    by_cases hk : K 6 = 0
    · simp only [hk, if_true]
      by_cases hl : A 6 j - 1 = 0
      · simp only [hl, if_true]
        apply Exists.intro; refine ⟨?_, ?_, ?_⟩
        · simp (disch := omega) only [wl_0, wl_1, wl_2, wl_3, wl_4, wl_5, wl_6, wl_7, wl_8, wl_9, wl_10, wl_11, wl_12, wl_13, wl_14, wl_15, wl_16, wl_20, wl_24, wl_26, wl_30, wl_31, wl_32, wl_40, wl_41, wl_47, wl_48, wl_50, wl_58, wl_59, wl_60, wl_61, wl_64, wl_91, wl_93, wl_95, wl_97, wl_98, wl_99, wl_100, wl_101, wl_122, wl_131, wl_132, wl_200, wl_255, wl_400, wl_500, wl_501, wl_999, wl_1960, wl_9999, wl_99999, wl_4000000, wl_m1, wl_m2, wl_m3, wl_m8, wl_m20, wl_m21, wl_m22, wl_m23, wl_m24, wl_m25, wl_m26, wl_m27, wl_m28, wl_m29, wl_m30, wl_m31, wl_m32, wl_m100000, w_add, w_sub, w_mul, w_neg, w_eq, w_lt, w_le, w_natk, w_nat, Int.toNat_natCast, tn_0, tn_1, tn_2, tn_3, tn_4, tn_5, tn_6, tn_7, tn_8, tn_9, tn_10, tn_11, tn_12, tn_13, tn_14, tn_15, tn_16, tn_20, tn_24, tn_26, tn_30, tn_31, tn_32, tn_40, tn_41, tn_47, tn_48, tn_50, tn_58, tn_59, tn_60, tn_61, tn_64, tn_91, tn_93, tn_95, tn_97, tn_98, tn_99, tn_100, tn_101, tn_122, tn_131, tn_132, w_inB, gd_T, Option.bind_some, ↓reduceIte, if_true, if_false, ite_true, ite_false, gI_eq, gI_nec, gI_nej, gI_sL, gL_sI, gI_sR, gL_sR, gR_sI, gR_sL, gR_sR, h1, q, e11, e12, e6, hk, orS_w, hJ, h6, hl, h3, h0, mxI_w, mnI_w] <;> rfl
        · exact RepS_hi ((((RepS.ne (RepS.ne ((hS.up 2 p 0).up 1 p _) (by omega)) (by omega)).up 6 j _).up 1 p 0 |>.up 3 p _).up 7 j _) (by decide)
        · exact ((((((hK.ne (by omega)).ne (by omega)).up 11 _).up 12 _).ne (by omega)).ne (by omega) |>.ne (by omega)).ne (by omega)
      · simp only [hl, if_false]
        apply Exists.intro; refine ⟨?_, ?_, ?_⟩
        · simp (disch := omega) only [wl_0, wl_1, wl_2, wl_3, wl_4, wl_5, wl_6, wl_7, wl_8, wl_9, wl_10, wl_11, wl_12, wl_13, wl_14, wl_15, wl_16, wl_20, wl_24, wl_26, wl_30, wl_31, wl_32, wl_40, wl_41, wl_47, wl_48, wl_50, wl_58, wl_59, wl_60, wl_61, wl_64, wl_91, wl_93, wl_95, wl_97, wl_98, wl_99, wl_100, wl_101, wl_122, wl_131, wl_132, wl_200, wl_255, wl_400, wl_500, wl_501, wl_999, wl_1960, wl_9999, wl_99999, wl_4000000, wl_m1, wl_m2, wl_m3, wl_m8, wl_m20, wl_m21, wl_m22, wl_m23, wl_m24, wl_m25, wl_m26, wl_m27, wl_m28, wl_m29, wl_m30, wl_m31, wl_m32, wl_m100000, w_add, w_sub, w_mul, w_neg, w_eq, w_lt, w_le, w_natk, w_nat, Int.toNat_natCast, tn_0, tn_1, tn_2, tn_3, tn_4, tn_5, tn_6, tn_7, tn_8, tn_9, tn_10, tn_11, tn_12, tn_13, tn_14, tn_15, tn_16, tn_20, tn_24, tn_26, tn_30, tn_31, tn_32, tn_40, tn_41, tn_47, tn_48, tn_50, tn_58, tn_59, tn_60, tn_61, tn_64, tn_91, tn_93, tn_95, tn_97, tn_98, tn_99, tn_100, tn_101, tn_122, tn_131, tn_132, w_inB, gd_T, Option.bind_some, ↓reduceIte, if_true, if_false, ite_true, ite_false, gI_eq, gI_nec, gI_nej, gI_sL, gL_sI, gI_sR, gL_sR, gR_sI, gR_sL, gR_sR, h1, q, e11, e12, e6, hk, orS_w, hJ, h6, hl, mxI_w, mnI_w] <;> rfl
        · exact (RepS.ne (RepS.ne ((hS.up 2 p 0).up 1 p _) (by omega)) (by omega)).up 6 j _
        · exact (((hK.ne (by omega)).ne (by omega)).up 11 _ |>.up 12 _).ne (by omega)
    · simp only [hk, if_false]
      apply Exists.intro; refine ⟨?_, ?_, ?_⟩
      · simp (disch := omega) only [wl_0, wl_1, wl_2, wl_3, wl_4, wl_5, wl_6, wl_7, wl_8, wl_9, wl_10, wl_11, wl_12, wl_13, wl_14, wl_15, wl_16, wl_20, wl_24, wl_26, wl_30, wl_31, wl_32, wl_40, wl_41, wl_47, wl_48, wl_50, wl_58, wl_59, wl_60, wl_61, wl_64, wl_91, wl_93, wl_95, wl_97, wl_98, wl_99, wl_100, wl_101, wl_122, wl_131, wl_132, wl_200, wl_255, wl_400, wl_500, wl_501, wl_999, wl_1960, wl_9999, wl_99999, wl_4000000, wl_m1, wl_m2, wl_m3, wl_m8, wl_m20, wl_m21, wl_m22, wl_m23, wl_m24, wl_m25, wl_m26, wl_m27, wl_m28, wl_m29, wl_m30, wl_m31, wl_m32, wl_m100000, w_add, w_sub, w_mul, w_neg, w_eq, w_lt, w_le, w_natk, w_nat, Int.toNat_natCast, tn_0, tn_1, tn_2, tn_3, tn_4, tn_5, tn_6, tn_7, tn_8, tn_9, tn_10, tn_11, tn_12, tn_13, tn_14, tn_15, tn_16, tn_20, tn_24, tn_26, tn_30, tn_31, tn_32, tn_40, tn_41, tn_47, tn_48, tn_50, tn_58, tn_59, tn_60, tn_61, tn_64, tn_91, tn_93, tn_95, tn_97, tn_98, tn_99, tn_100, tn_101, tn_122, tn_131, tn_132, w_inB, gd_T, Option.bind_some, ↓reduceIte, if_true, if_false, ite_true, ite_false, gI_eq, gI_nec, gI_nej, gI_sL, gL_sI, gI_sR, gL_sR, gR_sI, gR_sL, gR_sR, h1, q, e11, e12, e6, hk, orS_w, mxI_w] <;> rfl
      · exact RepS.ne (RepS.ne ((hS.up 2 p 0).up 1 p _) (by omega)) (by omega)
      · exact ((hK.ne (by omega)).ne (by omega)).up 11 _ |>.up 12 _
