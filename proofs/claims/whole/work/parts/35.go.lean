/-! THE FORGE OF THE CLASS: wills, a whole MOMENT -/
def jbs (P A : Dat) (K : Nat → Int) (p : Nat) : Int := if (p : Int) = K 2 then -1 else jobN P A p
theorem assign_ok {F c1 : Nat} {P A : Dat} {K : Nat → Int} {m : Nat} (bP : Bd 1000 P) (bA : Bd 1000000000 A) (bK : -1000 ≤ K 2 ∧ K 2 ≤ 1000) (hc : StC c1) (hm : P 0 5 = (m : Int)) (hm8 : m ≤ 8) (hF : 100 ≤ F) :
    ∀ (d n x : Nat) (σ : Mem), x + d = 3 → d < n → RepP 17 σ P → RepS c1 σ A → RepC σ K → ∃ σ', m2_assign_2 F c1 n (w32 (x : Int)) σ = some σ' ∧ (∀ q, q < 3 → gI σ' 41 q = if x ≤ q then w32 (jbs P A K q) else gI σ 41 q) := by
  intro d
  induction d with
  | zero =>
    intro n x σ h1 h2 hP hS hK
    obtain ⟨n, rfl⟩ : ∃ k, n = k + 1 := ⟨n - 1, by omega⟩
    refine ⟨σ, ?_, fun q hq => by rw [if_neg (by omega)]⟩
    unfold m2_assign_2
    rw [if_pos (by rw [wl_3, w_le (by omega) (by omega) (by omega) (by omega)]; omega)]
  | succ d ih =>
    intro n x σ h1 h2 hP hS hK
    obtain ⟨n, rfl⟩ : ∃ k, n = k + 1 := ⟨n - 1, by omega⟩
    obtain ⟨c_1, c_2, c_3⟩ := id hc
    have go : ∀ v : Int32, v = w32 (jbs P A K x) → ∃ σ', m2_assign_2 F c1 n (w32 ((x + 1 : Nat) : Int)) (sI σ 41 x v) = some σ' ∧ (∀ q, q < 3 → gI σ' 41 q = if x ≤ q then w32 (jbs P A K q) else gI σ 41 q) := by
      intro v hv
      obtain ⟨σ', m1, g1⟩ := ih n (x + 1) (sI σ 41 x v) (by omega) (by omega) (hP.ne (by omega)) (hS.ne (by omega)) (hK.ne (by omega))
      refine ⟨σ', m1, fun q hq => ?_⟩
      rw [g1 q hq]
      by_cases hqx : q = x
      · rw [hqx, if_neg (by omega), if_pos (Nat.le_refl _), gI_eq, hv]
      · by_cases hx : x ≤ q
        · rw [if_pos (by omega), if_pos hx]
        · rw [if_neg (by omega), if_neg hx, gI_nej hqx]
    unfold m2_assign_2
    have e2 := hK 2 (by decide)
    rw [if_neg (by rw [wl_3, w_le (by omega) (by omega) (by omega) (by omega)]; omega), e2, gd_pos (w_inB (by omega) (by omega) (by omega)), w_natk (by omega), w_succ, jobOf_ok hP hS (bP.mono (by decide)) bA (by omega) hm hm8 hF, Option.bind_some, gd_pos (w_inB (by omega) (by omega) (by omega))]
    simp (disch := omega) only [w_eq]
    by_cases hk : (x : Int) = K 2
    · rw [if_pos hk]
      exact go _ (by unfold jbs; rw [if_pos hk]; rfl)
    · rw [if_neg hk]
      exact go _ (by unfold jbs; rw [if_neg hk])
/-! the words -/
def ovl (P : Dat) (a b : Int) : Bool := decide ((w32 (P 4 a.toNat) &&& w32 (P 4 b.toNat)) = w32 0)
def rivL (P : Dat) (J : Nat → Int) (p : Nat) : Nat → Nat → Int → Int
  | 0, _, s => s
  | d + 1, o, s => rivL P J p d (o + 1) (if o = p ∨ J o = -1 ∨ ovl P (J o) (J p) = true then s else s + 1)
def rivN (P : Dat) (J : Nat → Int) (p : Nat) : Int := rivL P J p 3 0 0
def wornI (P A : Dat) (j : Nat) : Int := if P 3 j = 3 then max (A 9 0) (A 9 1) else A 9 (P 3 j).toNat
def wdI (P A : Dat) (J : Nat → Int) (p : Nat) (i : Nat) : Int :=
  if i = 0 then p else if i = 1 then A 1 p else if i = 2 then (if A 1 p < P 6 (J p).toNat then 0 else 1) else if i = 3 then P 6 (J p).toNat else if i = 4 then A 6 (J p).toNat
  else if i = 5 then P 7 (J p).toNat else if i = 6 then P 1 p else if i = 7 then A 0 0 else if i = 8 then wornI P A (J p).toNat else if i = 9 then rivN P J p else if i = 10 then A 2 p else if i = 11 then P 0 2 - A 1 p else A 3 p
def wds (P A : Dat) (J : Nat → Int) (p : Nat) : Nat → Int64 := fun i => (w32 (wdI P A J p i)).toInt64
theorem rivals_ok {F : Nat} {σ : Mem} {P : Dat} {J : Nat → Int} {p : Nat} (hP : RepP 17 σ P) (hJ : ∀ q, q < 3 → gI σ 41 q = w32 (J q)) (hJ1 : ∀ p, p < 3 → J p = -1 ∨ (0 ≤ J p ∧ J p < 8)) (hp : p < 3) (hjp : J p ≠ -1) : ∀ (d n o : Nat) (s : Int), o + d = 3 → d < n → m2_rivals_4 F (w32 (p : Int)) σ n (w32 s) (w32 (o : Int)) = some (w32 (rivL P J p d o s)) := by
  intro d
  induction d with
  | zero =>
    intro n o s h1 h2
    obtain ⟨n, rfl⟩ : ∃ k, n = k + 1 := ⟨n - 1, by omega⟩
    unfold m2_rivals_4 rivL
    rw [if_pos (by rw [wl_3, w_le (by omega) (by omega) (by omega) (by omega)]; omega)]
  | succ d ih =>
    intro n o s h1 h2
    obtain ⟨n, rfl⟩ : ∃ k, n = k + 1 := ⟨n - 1, by omega⟩
    have jp := (hJ1 p hp).resolve_left hjp
    have jo := hJ1 o (by omega)
    have i1 := ih n (o + 1) s (by omega) (by omega)
    have i2 := ih n (o + 1) (s + 1) (by omega) (by omega)
    unfold m2_rivals_4 rivL
    rw [if_neg (by rw [wl_3, w_le (by omega) (by omega) (by omega) (by omega)]; omega), w_succ, gd_pos (w_inB (by omega) (by omega) (by omega)), w_natk (by omega), w_natk (k := p) (by omega), hJ o (by omega), hJ p hp, wl_m1]
    simp (disch := omega) only [w_eq]
    by_cases h0 : o = p
    · rw [if_pos (by omega), if_pos (Or.inl h0)]; exact i1
    · rw [if_neg (by omega)]
      by_cases h3 : J o = -1
      · rw [if_pos h3, if_pos (Or.inr (Or.inl h3))]; exact i1
      · have jo := jo.resolve_left h3
        have e1 : gI σ 21 (J o).toNat = w32 (P 4 (J o).toNat) := hP.at 4 (J o).toNat
        have e2 : gI σ 21 (J p).toNat = w32 (P 4 (J p).toNat) := hP.at 4 (J p).toNat
        rw [if_neg h3, gd_pos (w_inB (by omega) (by omega) (by omega)), gd_pos (w_inB (by omega) (by omega) (by omega)), gd_pos (w_inB (by omega) (by omega) (by omega)), gd_pos (w_inB (by omega) (by omega) (by omega)), w_nat (a := J o) (by omega) (by omega), w_nat (a := J p) (by omega) (by omega), e1, e2, wl_0, w_add, wl_1, w_add, Int.add_zero]
        by_cases hv : (w32 (P 4 (J o).toNat) &&& w32 (P 4 (J p).toNat)) = w32 0
        · rw [if_pos hv, if_pos (Or.inr (Or.inr (by unfold ovl; exact decide_eq_true hv)))]; exact i1
        · rw [if_neg hv, if_neg (by intro z; rcases z with z | z | z; exact h0 z; exact h3 z; exact hv (by unfold ovl at z; exact of_decide_eq_true z))]; exact i2
theorem isHot_sL {F c1 : Nat} {i : Int32} {σ : Mem} {c j : Nat} {v : Int64} : m2_isHot F c1 i (sL σ c j v) = m2_isHot F c1 i σ := by obtain ⟨a, b, d⟩ := σ; rfl
theorem rivals_sL {F : Nat} {i : Int32} {σ : Mem} {c j : Nat} {v : Int64} : m2_rivals F i (sL σ c j v) = m2_rivals F i σ := by
  have h : ∀ n x y, m2_rivals_4 F i (sL σ c j v) n x y = m2_rivals_4 F i σ n x y := by
    intro n
    induction n with
    | zero => intro x y; rfl
    | succ n ih => intro x y; unfold m2_rivals_4; simp only [gI_sL, ih]
  exact h F 0 0
theorem l0_64 : (w32 0).toInt64 = (0 : Int64) := by decide
theorem l1_64 : (w32 1).toInt64 = (1 : Int64) := by decide
theorem fillWords_ok {F c1 : Nat} {σ : Mem} {P A : Dat} {J : Nat → Int} {p : Nat} (hP : RepP 17 σ P) (hS : RepS c1 σ A) (bP : Bd 1000 P) (bA : Bd 1000000000 A) (hc : StC c1) (hp : p < 3) (hJ : ∀ q, q < 3 → gI σ 41 q = w32 (J q)) (hJ1 : ∀ p, p < 3 → J p = -1 ∨ (0 ≤ J p ∧ J p < 8)) (hjp : J p ≠ -1) (hpt : ∀ j, j < 8 → 0 ≤ P 3 j ∧ P 3 j ≤ 3) (hF : 100 ≤ F) :
    ∃ σ', m2_fillWords F c1 (w32 (p : Int)) σ = some σ' ∧ ∀ i, i < 13 → gL σ' 44 i = wds P A J p i := by
  have jp := (hJ1 p hp).resolve_left hjp
  obtain ⟨j, hj⟩ : ∃ j : Nat, J p = j := ⟨(J p).toNat, by omega⟩
  have hjn : (J p).toNat = j := by omega
  have hj8 : j < 8 := by omega
  have hJp : gI σ 41 p = w32 (j : Int) := by rw [hJ p hp, hj]
  have hot := isHot_ok (F := F) hP hS (bP.mono (by decide)) bA hp hj8 hJp
  have riv : m2_rivals F (w32 (p : Int)) σ = some (w32 (rivN P J p)) := rivals_ok hP hJ hJ1 hp hjp 3 F 0 0 (by omega) (by omega)
  have h1 := hS.at 1 p
  have h2 := hS.at 2 p
  have h3 := hS.at 3 p
  have h6 := hS.at 6 j
  have h0 : gI σ c1 0 = w32 (A 0 0) := hS.at 0 0
  have h90 := hS.at 9 0
  have h91 := hS.at 9 1
  have q2 : gI σ 17 2 = w32 (P 0 2) := hP.at 0 2
  have q1 : gI σ 18 p = w32 (P 1 p) := hP.at 1 p
  have q3 : gI σ 20 j = w32 (P 3 j) := hP.at 3 j
  have q6 : gI σ 23 j = w32 (P 6 j) := hP.at 6 j
  have q7 : gI σ 24 j = w32 (P 7 j) := hP.at 7 j
  have b90 := bA 9 0
  have b91 := bA 9 1
  have bpt := hpt j hj8
  have h9p := hS.at 9 (P 3 j).toNat
  have post : ∀ (v2 : Int64) (v8 : Int32), v2 = wds P A J p 2 → v8 = w32 (wornI P A j) → ∀ i, i < 13 → gL (sL (sL (sL (sL (sL (sL (sL (sL (sL (sL (sL (sL (sL σ 44 0 (w32 (p : Int)).toInt64) 44 1 (w32 (A 1 p)).toInt64) 44 2 v2) 44 3 (w32 (P 6 j)).toInt64) 44 4 (w32 (A 6 j)).toInt64) 44 5 (w32 (P 7 j)).toInt64) 44 6 (w32 (P 1 p)).toInt64) 44 7 (w32 (A 0 0)).toInt64) 44 8 v8.toInt64) 44 9 (w32 (rivN P J p)).toInt64) 44 10 (w32 (A 2 p)).toInt64) 44 11 (w32 (P 0 2 - A 1 p)).toInt64) 44 12 (w32 (A 3 p)).toInt64) 44 i = wds P A J p i := by
    intro v2 v8 hv2 hv8 i hi
    have hi : i = 0 ∨ i = 1 ∨ i = 2 ∨ i = 3 ∨ i = 4 ∨ i = 5 ∨ i = 6 ∨ i = 7 ∨ i = 8 ∨ i = 9 ∨ i = 10 ∨ i = 11 ∨ i = 12 := by omega
    rcases hi with rfl | rfl | rfl | rfl | rfl | rfl | rfl | rfl | rfl | rfl | rfl | rfl | rfl <;> simp [gL_sL, wds, wdI, hjn, hv2, hv8]
  have hw2 : wds P A J p 2 = if A 1 p < P 6 j then 0 else 1 := by
    unfold wds wdI
    rw [hjn]
    by_cases hh : A 1 p < P 6 j
    · simp only [hh, if_true]; exact l0_64
    · simp only [hh, if_false]; exact l1_64
  unfold m2_fillWords m2_fillWords_47 m2_fillWords_175
  by_cases hh : A 1 p < P 6 j
  · rw [if_pos hh] at hot hw2
    by_cases hq : P 3 j = 3
    · apply Exists.intro; refine ⟨?_, post _ _ hw2.symm (by unfold wornI; rw [if_pos hq])⟩
      simp (disch := omega) only [wl_0, wl_1, wl_2, wl_3, wl_4, wl_5, wl_6, wl_7, wl_8, wl_9, wl_10, wl_11, wl_12, wl_13, wl_14, wl_15, wl_16, wl_20, wl_24, wl_26, wl_30, wl_31, wl_32, wl_40, wl_41, wl_47, wl_48, wl_50, wl_58, wl_59, wl_60, wl_61, wl_64, wl_91, wl_93, wl_95, wl_97, wl_98, wl_99, wl_100, wl_101, wl_122, wl_131, wl_132, wl_200, wl_255, wl_400, wl_500, wl_501, wl_999, wl_1960, wl_9999, wl_99999, wl_4000000, wl_m1, wl_m2, wl_m3, wl_m8, wl_m20, wl_m21, wl_m22, wl_m23, wl_m24, wl_m25, wl_m26, wl_m27, wl_m28, wl_m29, wl_m30, wl_m31, wl_m32, wl_m100000, w_add, w_sub, w_mul, w_neg, w_eq, w_lt, w_le, w_natk, w_nat, Int.toNat_natCast, tn_0, tn_1, tn_2, tn_3, tn_4, tn_5, tn_6, tn_7, tn_8, tn_9, tn_10, tn_11, tn_12, tn_13, tn_14, tn_15, tn_16, tn_20, tn_24, tn_26, tn_30, tn_31, tn_32, tn_40, tn_41, tn_47, tn_48, tn_50, tn_58, tn_59, tn_60, tn_61, tn_64, tn_91, tn_93, tn_95, tn_97, tn_98, tn_99, tn_100, tn_101, tn_122, tn_131, tn_132, w_inB, gd_T, Option.bind_some, ↓reduceIte, if_true, if_false, ite_true, ite_false, gI_eq, gI_nec, gI_nej, gI_sL, gL_sI, gI_sR, gL_sR, gR_sI, gR_sL, gR_sR, isHot_sL, hot, rivals_sL, riv, h1, h2, h3, h6, h0, h90, h91, q2, q1, q3, q6, q7, hJp, hq, mxI_w] <;> rfl
    · apply Exists.intro; refine ⟨?_, post _ _ hw2.symm (by unfold wornI; rw [if_neg hq])⟩
      simp (disch := omega) only [wl_0, wl_1, wl_2, wl_3, wl_4, wl_5, wl_6, wl_7, wl_8, wl_9, wl_10, wl_11, wl_12, wl_13, wl_14, wl_15, wl_16, wl_20, wl_24, wl_26, wl_30, wl_31, wl_32, wl_40, wl_41, wl_47, wl_48, wl_50, wl_58, wl_59, wl_60, wl_61, wl_64, wl_91, wl_93, wl_95, wl_97, wl_98, wl_99, wl_100, wl_101, wl_122, wl_131, wl_132, wl_200, wl_255, wl_400, wl_500, wl_501, wl_999, wl_1960, wl_9999, wl_99999, wl_4000000, wl_m1, wl_m2, wl_m3, wl_m8, wl_m20, wl_m21, wl_m22, wl_m23, wl_m24, wl_m25, wl_m26, wl_m27, wl_m28, wl_m29, wl_m30, wl_m31, wl_m32, wl_m100000, w_add, w_sub, w_mul, w_neg, w_eq, w_lt, w_le, w_natk, w_nat, Int.toNat_natCast, tn_0, tn_1, tn_2, tn_3, tn_4, tn_5, tn_6, tn_7, tn_8, tn_9, tn_10, tn_11, tn_12, tn_13, tn_14, tn_15, tn_16, tn_20, tn_24, tn_26, tn_30, tn_31, tn_32, tn_40, tn_41, tn_47, tn_48, tn_50, tn_58, tn_59, tn_60, tn_61, tn_64, tn_91, tn_93, tn_95, tn_97, tn_98, tn_99, tn_100, tn_101, tn_122, tn_131, tn_132, w_inB, gd_T, Option.bind_some, ↓reduceIte, if_true, if_false, ite_true, ite_false, gI_eq, gI_nec, gI_nej, gI_sL, gL_sI, gI_sR, gL_sR, gR_sI, gR_sL, gR_sR, isHot_sL, hot, rivals_sL, riv, h1, h2, h3, h6, h0, h9p, q2, q1, q3, q6, q7, hJp, hq] <;> rfl
  · rw [if_neg hh] at hot hw2
    by_cases hq : P 3 j = 3
    · apply Exists.intro; refine ⟨?_, post _ _ hw2.symm (by unfold wornI; rw [if_pos hq])⟩
      simp (disch := omega) only [wl_0, wl_1, wl_2, wl_3, wl_4, wl_5, wl_6, wl_7, wl_8, wl_9, wl_10, wl_11, wl_12, wl_13, wl_14, wl_15, wl_16, wl_20, wl_24, wl_26, wl_30, wl_31, wl_32, wl_40, wl_41, wl_47, wl_48, wl_50, wl_58, wl_59, wl_60, wl_61, wl_64, wl_91, wl_93, wl_95, wl_97, wl_98, wl_99, wl_100, wl_101, wl_122, wl_131, wl_132, wl_200, wl_255, wl_400, wl_500, wl_501, wl_999, wl_1960, wl_9999, wl_99999, wl_4000000, wl_m1, wl_m2, wl_m3, wl_m8, wl_m20, wl_m21, wl_m22, wl_m23, wl_m24, wl_m25, wl_m26, wl_m27, wl_m28, wl_m29, wl_m30, wl_m31, wl_m32, wl_m100000, w_add, w_sub, w_mul, w_neg, w_eq, w_lt, w_le, w_natk, w_nat, Int.toNat_natCast, tn_0, tn_1, tn_2, tn_3, tn_4, tn_5, tn_6, tn_7, tn_8, tn_9, tn_10, tn_11, tn_12, tn_13, tn_14, tn_15, tn_16, tn_20, tn_24, tn_26, tn_30, tn_31, tn_32, tn_40, tn_41, tn_47, tn_48, tn_50, tn_58, tn_59, tn_60, tn_61, tn_64, tn_91, tn_93, tn_95, tn_97, tn_98, tn_99, tn_100, tn_101, tn_122, tn_131, tn_132, w_inB, gd_T, Option.bind_some, ↓reduceIte, if_true, if_false, ite_true, ite_false, gI_eq, gI_nec, gI_nej, gI_sL, gL_sI, gI_sR, gL_sR, gR_sI, gR_sL, gR_sR, isHot_sL, hot, rivals_sL, riv, h1, h2, h3, h6, h0, h90, h91, q2, q1, q3, q6, q7, hJp, hq, mxI_w] <;> rfl
    · apply Exists.intro; refine ⟨?_, post _ _ hw2.symm (by unfold wornI; rw [if_neg hq])⟩
      simp (disch := omega) only [wl_0, wl_1, wl_2, wl_3, wl_4, wl_5, wl_6, wl_7, wl_8, wl_9, wl_10, wl_11, wl_12, wl_13, wl_14, wl_15, wl_16, wl_20, wl_24, wl_26, wl_30, wl_31, wl_32, wl_40, wl_41, wl_47, wl_48, wl_50, wl_58, wl_59, wl_60, wl_61, wl_64, wl_91, wl_93, wl_95, wl_97, wl_98, wl_99, wl_100, wl_101, wl_122, wl_131, wl_132, wl_200, wl_255, wl_400, wl_500, wl_501, wl_999, wl_1960, wl_9999, wl_99999, wl_4000000, wl_m1, wl_m2, wl_m3, wl_m8, wl_m20, wl_m21, wl_m22, wl_m23, wl_m24, wl_m25, wl_m26, wl_m27, wl_m28, wl_m29, wl_m30, wl_m31, wl_m32, wl_m100000, w_add, w_sub, w_mul, w_neg, w_eq, w_lt, w_le, w_natk, w_nat, Int.toNat_natCast, tn_0, tn_1, tn_2, tn_3, tn_4, tn_5, tn_6, tn_7, tn_8, tn_9, tn_10, tn_11, tn_12, tn_13, tn_14, tn_15, tn_16, tn_20, tn_24, tn_26, tn_30, tn_31, tn_32, tn_40, tn_41, tn_47, tn_48, tn_50, tn_58, tn_59, tn_60, tn_61, tn_64, tn_91, tn_93, tn_95, tn_97, tn_98, tn_99, tn_100, tn_101, tn_122, tn_131, tn_132, w_inB, gd_T, Option.bind_some, ↓reduceIte, if_true, if_false, ite_true, ite_false, gI_eq, gI_nec, gI_nej, gI_sL, gL_sI, gI_sR, gL_sR, gR_sI, gR_sL, gR_sR, isHot_sL, hot, rivals_sL, riv, h1, h2, h3, h6, h0, h9p, q2, q1, q3, q6, q7, hJp, hq] <;> rfl
/-! wills -/
def RepRo (σ : Mem) (ro : Option Dat) : Prop := match ro with
  | none => gR σ = 0
  | some R => kd (gR σ) = 5 ∧ RepG (gR σ) σ R ∧ WfR R
theorem RepRo.fr {W : Nat → Prop} {σ σ' : Mem} {ro : Option Dat} (h : RepRo σ ro) (f : Fr W σ σ') (hw : ∀ c, W c → (c < 151 ∨ 186 < c ∨ c % 6 = 0) ∧ c ≠ 1000) : RepRo σ' ro := by
  have hR : gR σ' = gR σ := f.gR (fun q => (hw _ q).2 rfl)
  match ro, h with
  | none, h => exact hR.trans h
  | some R, h =>
    obtain ⟨h1, h2, h3⟩ := h
    obtain ⟨k1, k2, k3⟩ := kd5 h1
    refine ⟨by rw [hR]; exact h1, ?_, h3⟩
    rw [hR]
    exact h2.fr f (fun i hi q => by have := (hw _ q).1; omega)
def hotB (P A : Dat) (J : Nat → Int) (p : Nat) : Bool := decide (P 6 (J p).toNat ≤ A 1 p)
def wl (P A : Dat) (K : Nat → Int) (ro : Option Dat) (J : Nat → Int) (p : Nat) : Bool :=
  if K 3 = -1 then (match ro with | none => hotB P A J p | some R => stk R (wds P A J p)) else bitI (K 3) p
theorem wills_ok {F c1 : Nat} {σ : Mem} {P A : Dat} {K : Nat → Int} {ro : Option Dat} {J : Nat → Int} {p : Nat} (hP : RepP 17 σ P) (hS : RepS c1 σ A) (hK : RepC σ K) (hR : RepRo σ ro) (bP : Bd 1000 P) (bA : Bd 1000000000 A) (bK : -1000 ≤ K 3 ∧ K 3 ≤ 1000) (hc : StC c1) (hp : p < 3) (hJ : ∀ q, q < 3 → gI σ 41 q = w32 (J q)) (hJ1 : ∀ p, p < 3 → J p = -1 ∨ (0 ≤ J p ∧ J p < 8)) (hjp : J p ≠ -1) (hpt : ∀ j, j < 8 → 0 ≤ P 3 j ∧ P 3 j ≤ 3) (hF : 1000 ≤ F) :
    ∃ σ', m2_willsToStrike F c1 (w32 (p : Int)) σ = some (if wl P A K ro J p then (1 : Int32) else 0, σ') := by
  have e3 := hK 3 (by decide)
  have jp := (hJ1 p hp).resolve_left hjp
  unfold m2_willsToStrike wl
  rw [e3, wl_m1, wl_31, wl_1]
  simp (disch := omega) only [bit_w, w_eq]
  by_cases h3 : K 3 = -1
  · rw [if_pos h3, if_pos h3]
    match ro, hR with
    | none, hR =>
      have hR : gR σ = 0 := hR
      have hot := isHot_ok (F := F) (j := (J p).toNat) hP hS (bP.mono (by decide)) bA hp (by omega) (by rw [hJ p hp]; congr 1; omega)
      refine ⟨σ, ?_⟩
      rw [gd_pos (Or.inl hR), if_pos hR, hot, Option.bind_some]
      change _ = some (if hotB P A J p = true then w32 1 else 0, σ)
      by_cases hh : A 1 p < P 6 (J p).toNat
      · have e : hotB P A J p = false := by unfold hotB; exact decide_eq_false (by omega)
        rw [if_pos hh, gd_pos (by decide), e]; rfl
      · have e : hotB P A J p = true := by unfold hotB; exact decide_eq_true (by omega)
        rw [if_neg hh, gd_pos (by decide), e]; rfl
    | some R, hR =>
      have hR2 := hR
      obtain ⟨hk, hG, hW⟩ := hR
      obtain ⟨k1, k2, k3⟩ := kd5 hk
      obtain ⟨σ1, m1, g1⟩ := fillWords_ok (F := F) hP hS bP bA hc hp hJ hJ1 hjp hpt (by omega)
      have f1 := f2_fillWords m1
      have hR1 : gR σ1 = gR σ := f1.gR (by unfold Wm2_fillWords; omega)
      have hG1 : RepG (gR σ) σ1 R := hG.fr f1 (fun i hi => by unfold Wm2_fillWords; omega)
      rw [gd_pos (Or.inr hk), if_neg (by omega), m1, Option.bind_some, hR1, gd_pos (Or.inr hk), if_neg (by omega)]
      have hz := hW.1
      have hz2 := hW.2.1
      obtain ⟨σ2, m2⟩ := strikes_ok (F := F) (c := gR σ) (w := gL σ1 44) hF k1 hW (R 0 3).toNat F 0 σ1 (by omega) (by omega) hG1 rfl
      have hst : m5_strikes F (gR σ) σ1 = some (if stk R (wds P A J p) = true then (1 : Int32) else 0, σ2) := by
        have : stk R (gL σ1 44) = stk R (wds P A J p) := stk_w g1
        rw [← this]
        exact m2
      rw [hst, Option.bind_some]
      refine ⟨σ2, ?_⟩
      by_cases hh : stk R (wds P A J p) = true
      · simp only [hh, if_true]; rw [gd_pos (by decide)]; rfl
      · simp only [hh]; rw [gd_pos (by decide)]; rfl
  · rw [if_neg h3, if_neg h3]
    refine ⟨σ, ?_⟩
    by_cases hb : bitI (K 3) p = true
    · rw [if_pos hb, if_pos hb]
    · rw [if_neg hb, if_neg hb]
/-! a whole MOMENT -/
def wlN (P A : Dat) (K : Nat → Int) (ro : Option Dat) (J : Nat → Int) (p : Nat) : Bool := if J p = -1 then false else wl P A K ro J p
theorem go7_ok {F c1 : Nat} {P A : Dat} {K : Nat → Int} {ro : Option Dat} {J : Nat → Int} (bP : Bd 1000 P) (bA : Bd 1000000000 A) (bK : -1000 ≤ K 3 ∧ K 3 ≤ 1000) (hc : StC c1) (hJ1 : ∀ p, p < 3 → J p = -1 ∨ (0 ≤ J p ∧ J p < 8)) (hpt : ∀ j, j < 8 → 0 ≤ P 3 j ∧ P 3 j ≤ 3) (hF : 1000 ≤ F) :
    ∀ (d n p : Nat) (σ : Mem), p + d = 3 → d < n → RepP 17 σ P → RepS c1 σ A → RepC σ K → RepRo σ ro → (∀ q, q < 3 → gI σ 41 q = w32 (J q)) →
    ∃ σ1, m2_go_7 F c1 n (w32 (p : Int)) σ = Option.bind (m2_work F c1 σ1) (fun p1 => m2_go_55 F c1 F (0 : Int32) p1) ∧ RepP 17 σ1 P ∧ RepS c1 σ1 A ∧ RepC σ1 K ∧ RepRo σ1 ro ∧ (∀ q, q < 3 → gI σ1 41 q = w32 (J q)) ∧ (∀ q, q < 3 → gI σ1 42 q = if p ≤ q then w32 (if wlN P A K ro J q then 1 else 0) else gI σ 42 q) := by
  intro d
  induction d with
  | zero =>
    intro n p σ h1 h2 hP hS hK hR hJ
    obtain ⟨n, rfl⟩ : ∃ k, n = k + 1 := ⟨n - 1, by omega⟩
    refine ⟨σ, ?_, hP, hS, hK, hR, hJ, fun q hq => by rw [if_neg (by omega)]⟩
    unfold m2_go_7
    rw [if_pos (by rw [wl_3, w_le (by omega) (by omega) (by omega) (by omega)]; omega)]
  | succ d ih =>
    intro n p σ h1 h2 hP hS hK hR hJ
    obtain ⟨n, rfl⟩ : ∃ k, n = k + 1 := ⟨n - 1, by omega⟩
    obtain ⟨c_1, c_2, c_3⟩ := id hc
    have hp : p < 3 := by omega
    have next : ∀ (σ1 : Mem) (v : Int32), Fr (Wm2_willsToStrike) σ σ1 → v = w32 (if wlN P A K ro J p then 1 else 0) → ∃ σ2, m2_go_7 F c1 n (w32 ((p + 1 : Nat) : Int)) (sI σ1 42 p v) = Option.bind (m2_work F c1 σ2) (fun p1 => m2_go_55 F c1 F (0 : Int32) p1) ∧ RepP 17 σ2 P ∧ RepS c1 σ2 A ∧ RepC σ2 K ∧ RepRo σ2 ro ∧ (∀ q, q < 3 → gI σ2 41 q = w32 (J q)) ∧ (∀ q, q < 3 → gI σ2 42 q = if p ≤ q then w32 (if wlN P A K ro J q then 1 else 0) else gI σ 42 q) := by
      intro σ1 v f hv
      have f2 : Fr (fun c => c = 42 ∨ Wm2_willsToStrike c) σ (sI σ1 42 p v) := (f.mono (fun c h => Or.inr h)).sI (Or.inl rfl)
      obtain ⟨σ2, m, a1, a2, a3, a4, a5, a6⟩ := ih n (p + 1) (sI σ1 42 p v) (by omega) (by omega) (hP.fr f2 (fun i hi => by unfold Wm2_willsToStrike; omega)) (hS.fr f2 (fun i hi => by unfold Wm2_willsToStrike; omega)) (hK.fr f2 (by unfold Wm2_willsToStrike; omega)) (hR.fr f2 (fun c h => by unfold Wm2_willsToStrike at h; omega)) (fun q hq => by rw [f2.gI (by unfold Wm2_willsToStrike; omega)]; exact hJ q hq)
      refine ⟨σ2, m, a1, a2, a3, a4, a5, fun q hq => ?_⟩
      rw [a6 q hq]
      by_cases hqp : q = p
      · rw [hqp, if_neg (by omega), if_pos (Nat.le_refl _), gI_eq, hv]
      · by_cases hx : p ≤ q
        · rw [if_pos (by omega), if_pos hx]
        · rw [if_neg (by omega), if_neg hx, gI_nej hqp, f.gI (by unfold Wm2_willsToStrike; omega)]
    unfold m2_go_7
    have jr := hJ1 p hp
    rw [if_neg (by rw [wl_3, w_le (by omega) (by omega) (by omega) (by omega)]; omega), gd_pos (w_inB (by omega) (by omega) (by omega)), w_natk (by omega), hJ p hp, wl_m1, w_succ, gd_pos (w_inB (by omega) (by omega) (by omega))]
    simp (disch := omega) only [w_eq]
    by_cases hj : J p = -1
    · rw [if_pos hj]
      exact next σ _ (Fr.rf _ _) (by unfold wlN; rw [if_pos hj]; rfl)
    · rw [if_neg hj]
      obtain ⟨σ1, m⟩ := wills_ok (F := F) hP hS hK hR bP bA bK hc hp hJ hJ1 hj hpt hF
      have f1 := f2_willsToStrike m
      rw [m, Option.bind_some]
      by_cases hw : wl P A K ro J p = true
      · have e : wlN P A K ro J p = true := by unfold wlN; rw [if_neg hj]; exact hw
        simp only [hw, if_true]
        rw [if_neg (by decide)]
        rw [gd_pos (w_inB (by omega) (by omega) (by omega))]
        refine next σ1 _ f1 ?_
        rw [e]; decide
      · have e : wlN P A K ro J p = false := by unfold wlN; rw [if_neg hj]; simpa using hw
        simp only [hw]
        rw [if_pos (by decide)]
        rw [gd_pos (w_inB (by omega) (by omega) (by omega))]
        refine next σ1 _ f1 ?_
        rw [e]; decide
def wearL (T : Nat → Int) : Nat → Nat → Dat → Dat
  | 0, _, A => A
  | d + 1, k, A => wearL T d (k + 1) (if T k = -1 then A else if 9999 ≤ A 9 k then A else up A 9 k (A 9 k + 1))
theorem go55_ok {F c1 : Nat} {T : Nat → Int} (bT : BdT T) (hc : StC c1) : ∀ (d n k : Nat) (σ : Mem) (A : Dat), k + d = 4 → d < n → RepS c1 σ A → RepT σ T → Bd (1000000000 - 1000 * d) A → ∃ σ', m2_go_55 F c1 n (w32 (k : Int)) σ = some σ' ∧ RepS c1 σ' (up (wearL T d k A) 0 0 (min 9999 (wearL T d k A 0 0 + 1))) ∧ Fr (fun c => c1 ≤ c ∧ c ≤ c1 + 9) σ σ' := by
  intro d
  obtain ⟨c_1, c_2, c_3⟩ := hc
  induction d with
  | zero =>
    intro n k σ A h1 h2 hS hT bA
    obtain ⟨n, rfl⟩ : ∃ k, n = k + 1 := ⟨n - 1, by omega⟩
    have e0 : gI σ c1 0 = w32 (A 0 0) := hS.at 0 0
    have b0 := bA 0 0
    unfold m2_go_55 wearL
    rw [if_pos (by rw [wl_3, w_lt (by omega) (by omega) (by omega) (by omega)]; omega), e0, wl_9999, wl_1, w_add, mnI_w (by omega) (by omega) (by omega) (by omega)]
    exact ⟨_, rfl, hS.up 0 0 _, (Fr.rf _ _).sI (by omega)⟩
  | succ d ih =>
    intro n k σ A h1 h2 hS hT bA
    obtain ⟨n, rfl⟩ : ∃ k, n = k + 1 := ⟨n - 1, by omega⟩
    have e9 := hS.at 9 k
    have b9 := bA 9 k
    have bt := bT k
    unfold m2_go_55 wearL
    rw [if_neg (by rw [wl_3, w_lt (by omega) (by omega) (by omega) (by omega)]; omega), gd_pos (w_inB (by omega) (by omega) (by omega)), w_natk (by omega), hT k (by omega), wl_m1, w_succ, gd_pos (w_inB (by omega) (by omega) (by omega)), e9, wl_9999, gd_pos (w_inB (by omega) (by omega) (by omega)), gd_pos (w_inB (by omega) (by omega) (by omega)), wl_1, w_add]
    simp (disch := omega) only [w_eq, w_le]
    by_cases h3 : T k = -1
    · rw [if_pos h3, if_pos h3]
      exact ih n (k + 1) σ A (by omega) (by omega) hS hT (bA.mono (by omega))
    · rw [if_neg h3, if_neg h3]
      by_cases h4 : 9999 ≤ A 9 k
      · rw [if_pos h4, if_pos h4]
        exact ih n (k + 1) σ A (by omega) (by omega) hS hT (bA.mono (by omega))
      · rw [if_neg h4, if_neg h4]
        obtain ⟨σ', m, s', f'⟩ := ih n (k + 1) (sI σ (c1 + 9) k (w32 (A 9 k + 1))) (up A 9 k (A 9 k + 1)) (by omega) (by omega) (hS.up 9 k _) (fun q hq => by rw [gI_nec (by omega)]; exact hT q hq) (Bd.up (B := 1000000000 - 1000 * (d : Int)) (bA.mono (by omega)) (by omega) (by omega))
        exact ⟨σ', m, s', ((Fr.rf _ _).sI (by omega)).trans f'⟩
theorem work17_ok {F c1 : Nat} : ∀ (d n k : Nat) (σ : Mem), k + d = 4 → d < n → ∃ σ1, m2_work_17 F c1 n (w32 (k : Int)) σ = m2_work_37 F c1 F (0 : Int32) σ1 ∧ Fr (fun c => c = 43) σ σ1 ∧ (∀ q, q < 4 → gI σ1 43 q = if k ≤ q then w32 (-1) else gI σ 43 q) := by
  intro d
  induction d with
  | zero =>
    intro n k σ h1 h2
    obtain ⟨n, rfl⟩ : ∃ k, n = k + 1 := ⟨n - 1, by omega⟩
    refine ⟨σ, ?_, Fr.rf _ _, fun q hq => by rw [if_neg (by omega)]⟩
    unfold m2_work_17
    rw [if_pos (by rw [wl_3, w_lt (by omega) (by omega) (by omega) (by omega)]; omega)]
  | succ d ih =>
    intro n k σ h1 h2
    obtain ⟨n, rfl⟩ : ∃ k, n = k + 1 := ⟨n - 1, by omega⟩
    unfold m2_work_17
    rw [if_neg (by rw [wl_3, w_lt (by omega) (by omega) (by omega) (by omega)]; omega), gd_pos (w_inB (by omega) (by omega) (by omega)), w_natk (by omega), w_succ]
    obtain ⟨σ1, m, f, g⟩ := ih n (k + 1) (sI σ 43 k (-1 : Int32)) (by omega) (by omega)
    refine ⟨σ1, m, (show Fr (fun c => c = 43) σ (sI σ 43 k (-1 : Int32)) from (Fr.rf _ _).sI rfl).trans f, fun q hq => ?_⟩
    rw [g q hq]
    by_cases hqk : q = k
    · rw [hqk, if_neg (by omega), if_pos (Nat.le_refl _), gI_eq]; rfl
    · by_cases hx : k ≤ q
      · rw [if_pos (by omega), if_pos hx]
      · rw [if_neg (by omega), if_neg hx, gI_nej hqk]
def K0 (K : Nat → Int) : Nat → Int := upK (upK (upK K 11 0) 12 0) 13 0
def passW (P : Dat) (K : Nat → Int) (ro : Option Dat) (A : Dat) : WS := workS P (jbs P A K) (wlN P A K ro (jbs P A K)) 3 0 (A, K0 K, fun _ => -1)
/-- a MOMENT: the state then, the forge's numbers, who has taken what -/
def passA (P : Dat) (K : Nat → Int) (ro : Option Dat) (A : Dat) : Dat :=
  let s := passW P K ro A
  up (wearL s.2.2 4 0 s.1) 0 0 (min 9999 (wearL s.2.2 4 0 s.1 0 0 + 1))
theorem workS_bd {P : Dat} {J : Nat → Int} {Wl : Nat → Bool} (bP : Bd 1000 P) : ∀ (d p : Nat) (s : WS) (B : Int), 10000 ≤ B → Bd B s.1 → Bd (B + 1000 * d) (workS P J Wl d p s).1
  | 0, _, _, _, _, h => h.mono (by omega)
  | d + 1, p, s, B, hB, h => (workS_bd bP d (p + 1) (stepS P J Wl p s) (B + 1000) (by omega) (stepS_bd h bP hB)).mono (by omega)
theorem workS_T {P : Dat} {J : Nat → Int} {Wl : Nat → Bool} : ∀ (d p : Nat) (s : WS), p + d ≤ 3 → BdT s.2.2 → BdT (workS P J Wl d p s).2.2
  | 0, _, _, _, h => h
  | d + 1, p, s, hp, h => workS_T d (p + 1) (stepS P J Wl p s) (by omega) (stepS_T (by omega) h)
theorem workS_K {P : Dat} {J : Nat → Int} {Wl : Nat → Bool} {j : Nat} (hj : j < 11) : ∀ (d p : Nat) (s : WS), (workS P J Wl d p s).2.1 j = s.2.1 j
  | 0, _, _ => rfl
  | d + 1, p, s => (workS_K hj d (p + 1) (stepS P J Wl p s)).trans (stepS_K hj)
theorem jbs_rg {P A : Dat} {K : Nat → Int} {m : Nat} (hm : P 0 5 = (m : Int)) (hm8 : m ≤ 8) (p : Nat) : jbs P A K p = -1 ∨ (0 ≤ jbs P A K p ∧ jbs P A K p < 8) := by
  unfold jbs
  split
  · exact Or.inl rfl
  · have := jobN_rg (P := P) (A := A) (p := (p : Int)) hm
    omega
/-- what is needed of a plan -/
def WfP (P : Dat) : Prop := Bd 1000 P ∧ (∃ m : Nat, P 0 5 = (m : Int) ∧ m ≤ 8) ∧ (∃ n : Nat, P 0 4 = (n : Int) ∧ n ≤ 3) ∧ ∀ j, j < 8 → 0 ≤ P 3 j ∧ P 3 j ≤ 3
def BdK (K : Nat → Int) : Prop := ∀ j, 2 ≤ j → j ≤ 6 → -1000 ≤ K j ∧ K j ≤ 1000
theorem go_ok {F c1 : Nat} {σ : Mem} {P A : Dat} {K : Nat → Int} {ro : Option Dat} (hP : RepP 17 σ P) (hS : RepS c1 σ A) (hK : RepC σ K) (hR : RepRo σ ro) (wP : WfP P) (bA : Bd 900000000 A) (bK : BdK K) (hc : StC c1) (hF : 1000 ≤ F) :
    ∃ σ', m2_go F c1 σ = some σ' ∧ RepS c1 σ' (passA P K ro A) ∧ RepK σ' (passW P K ro A).2.1 ∧ RepT σ' (passW P K ro A).2.2 := by
  obtain ⟨bP, ⟨m, hm, hm8⟩, -, hpt⟩ := wP
  have bA9 : Bd 1000000000 A := bA.mono (by decide)
  obtain ⟨c_1, c_2, c_3⟩ := id hc
  obtain ⟨σ1, m1, g1⟩ := assign_ok (F := F) (c1 := c1) bP bA9 (bK 2 (by decide) (by decide)) hc hm hm8 (by omega) 3 F 0 σ (by omega) (by omega) hP hS hK
  have f1 : Fr Wm2_assign σ σ1 := f2_assign (F := F) (c1 := c1) m1
  have hJ : ∀ q, q < 3 → gI σ1 41 q = w32 (jbs P A K q) := fun q hq => by rw [g1 q hq, if_pos (Nat.zero_le _)]
  have hJ1 : ∀ p, p < 3 → jbs P A K p = -1 ∨ (0 ≤ jbs P A K p ∧ jbs P A K p < 8) := fun p _ => jbs_rg hm hm8 p
  obtain ⟨σ2, m2, P2, S2, K2, R2, J2, W2⟩ := go7_ok (F := F) (ro := ro) bP bA9 (bK 3 (by decide) (by decide)) hc hJ1 hpt hF 3 F 0 σ1 (by omega) (by omega) (hP.fr f1 (fun i hi => by unfold Wm2_assign; omega)) (hS.fr f1 (fun i hi => by unfold Wm2_assign; omega)) (hK.fr f1 (by unfold Wm2_assign; omega)) (hR.fr f1 (fun c h => by unfold Wm2_assign at h; omega)) hJ
  have K3 : RepK (sI (sI (sI σ2 40 11 (0 : Int32)) 40 12 (0 : Int32)) 40 13 (0 : Int32)) (K0 K) := fun j hj => by
    unfold K0 upK
    rcases hj with hj | hj
    · rw [if_neg (by omega), if_neg (by omega), if_neg (by omega), gI_nej (by omega), gI_nej (by omega), gI_nej (by omega)]
      exact K2 j hj
    · rcases (show j = 11 ∨ j = 12 ∨ j = 13 by omega) with rfl | rfl | rfl
      · rw [gI_nej (by decide), gI_nej (by decide), gI_eq]; rfl
      · rw [gI_nej (by decide), gI_eq]; rfl
      · rw [gI_eq]; rfl
  have f2 : Fr (fun c => c = 40) σ2 (sI (sI (sI σ2 40 11 (0 : Int32)) 40 12 (0 : Int32)) 40 13 (0 : Int32)) := (((Fr.rf (fun c => c = 40) _).sI rfl).sI rfl).sI rfl
  obtain ⟨σ3, m3, f3, g3⟩ := work17_ok (F := F) (c1 := c1) 4 F 0 (sI (sI (sI σ2 40 11 (0 : Int32)) 40 12 (0 : Int32)) 40 13 (0 : Int32)) (by omega) (by omega)
  have f4 := (f2.mono (V := fun c => c = 40 ∨ c = 43) (fun c h => Or.inl h)).trans (f3.mono (fun c h => Or.inr h))
  obtain ⟨σ4, m4, S4, K4, T4⟩ := work37_ok (F := F) (c1 := c1) (J := jbs P A K) (Wl := wlN P A K ro (jbs P A K)) bP hc (by omega) hJ1 3 F 0 σ3 (A, K0 K, fun _ => -1) (by omega) (by omega) (P2.fr f4 (fun i hi => by omega)) (S2.fr f4 (fun i hi => by omega)) (K3.fr f3 (by omega)) (fun k hk => by rw [g3 k hk, if_pos (Nat.zero_le _)]) (bA.mono (by omega)) (fun k => by show -1 ≤ (-1 : Int) ∧ (-1 : Int) ≤ 3; omega) (fun j q1 q2 => by
      have : (K0 K) j = K j := by unfold K0; rw [upK_lo (by omega), upK_lo (by omega), upK_lo (by omega)]
      have h2 := bK j q1 q2
      show -1000 ≤ K0 K j ∧ K0 K j ≤ 1000
      rw [this]; exact h2) (fun q hq => by rw [f4.gI (by omega)]; exact J2 q hq) (fun q hq => by rw [f4.gI (by omega), W2 q hq, if_pos (Nat.zero_le _)])
  have bs : Bd (900000000 + 1000 * 3) (passW P K ro A).1 := workS_bd bP 3 0 (A, K0 K, fun _ => -1) 900000000 (by decide) bA
  have bT : BdT (passW P K ro A).2.2 := workS_T 3 0 (A, K0 K, fun _ => -1) (by decide) (fun k => by show -1 ≤ (-1 : Int) ∧ (-1 : Int) ≤ 3; omega)
  obtain ⟨σ5, m5, S5, f5⟩ := go55_ok (F := F) (c1 := c1) bT hc 4 F 0 σ4 (passW P K ro A).1 (by omega) (by omega) S4 T4 (bs.mono (by omega))
  refine ⟨σ5, ?_, S5, K4.fr f5 (by omega), fun k hk => by rw [f5.gI (by omega)]; exact T4 k hk⟩
  have hw : m2_work F c1 σ2 = some σ4 := by
    unfold m2_work
    exact m3.trans m4
  unfold m2_go
  unfold m2_assign
  rw [show ((0 : Nat) : Int) = (0 : Int) from rfl] at m1 m2
  rw [show (0 : Int32) = w32 0 from rfl, m1, Option.bind_some, m2, hw, Option.bind_some]
  exact m5
