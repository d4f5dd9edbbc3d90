/-! THE REFERENCE, 3: words and wills -/
theorem jobOf_sL {F : Nat} {i k : Int32} {σ : Mem} {c j : Nat} {v : Int64} : m12_jobOf F i k (sL σ c j v) = m12_jobOf F i k σ := by
  unfold m12_jobOf; simp only [gI_sL]
theorem smithOf_sL {F : Nat} {i k : Int32} {σ : Mem} {c j : Nat} {v : Int64} : m12_smithOf F i k (sL σ c j v) = m12_smithOf F i k σ := by
  unfold m12_smithOf; simp only [gI_sL]
theorem jobNow_sL {F : Nat} {i : Int32} {σ : Mem} {c j : Nat} {v : Int64} : m12_jobNow F i (sL σ c j v) = m12_jobNow F i σ := by
  have h : ∀ n x y, m12_jobNow_4 F i (sL σ c j v) n x y = m12_jobNow_4 F i σ n x y := by
    intro n
    induction n with
    | zero => intro x y; rfl
    | succ n ih => intro x y; unfold m12_jobNow_4 m12_isOpen; simp only [gI_sL, jobOf_sL, ih]
  exact h F (-1) 0
theorem isHot12_sL {F : Nat} {i : Int32} {σ : Mem} {c j : Nat} {v : Int64} : m12_isHot F i (sL σ c j v) = m12_isHot F i σ := by
  unfold m12_isHot; simp only [jobNow_sL, smithOf_sL, jobOf_sL]
theorem needs_sL {F : Nat} {i : Int32} {σ : Mem} {c j : Nat} {v : Int64} : m12_needs F i (sL σ c j v) = m12_needs F i σ := by
  unfold m12_needs; simp only [jobOf_sL]
theorem isOf_sL {F : Nat} {i k : Int32} {σ : Mem} {c j : Nat} {v : Int64} : m12_isOf F i k (sL σ c j v) = m12_isOf F i k σ := by
  unfold m12_isOf; rfl
theorem wornFor_sL {F : Nat} {i : Int32} {σ : Mem} {c j : Nat} {v : Int64} : m12_wornFor F i (sL σ c j v) = m12_wornFor F i σ := by
  have h : ∀ n x y, m12_wornFor_4 F i (sL σ c j v) n x y = m12_wornFor_4 F i σ n x y := by
    intro n
    induction n with
    | zero => intro x y; rfl
    | succ n ih => intro x y; unfold m12_wornFor_4; simp only [gI_sL, needs_sL, isOf_sL, ih]
  exact h F 0 0
theorem rivalsOf_sL {F : Nat} {i : Int32} {σ : Mem} {c j : Nat} {v : Int64} : m12_rivalsOf F i (sL σ c j v) = m12_rivalsOf F i σ := by
  have h : ∀ n x y, m12_rivalsOf_4 F i (sL σ c j v) n x y = m12_rivalsOf_4 F i σ n x y := by
    intro n
    induction n with
    | zero => intro x y; rfl
    | succ n ih => intro x y; unfold m12_rivalsOf_4; simp only [gI_sL, needs_sL, jobNow_sL, ih]
  exact h F 0 0
theorem isOf_r {F : Nat} {σ : Mem} {s : Int} {k : Nat} : m12_isOf F (w32 s) (w32 (k : Int)) σ = some (if bitI s k then (1 : Int32) else 0) := by
  unfold m12_isOf
  rw [wl_31, wl_1]
  simp only [bit_w]
  split <;> rfl
theorem wornFor_r {F j : Nat} {σ : Mem} {P A : Dat} (hA : RepA σ P A) (wA : WfA P A) (wJ : WfJ P) (bA : Bd 1000000000 A) (hm : P 0 5 ≤ 8) (hj : (j : Int) < P 0 5) (hF : 100 ≤ F) : m12_wornFor F (w32 (j : Int)) σ = some (w32 (wornI P A j)) := by
  have step : ∀ (n k : Nat) (s : Int), k < 3 → 0 ≤ s → s ≤ 1000000000 → m12_wornFor_4 F (w32 (j : Int)) σ (n + 1) (w32 s) (w32 (k : Int)) = m12_wornFor_4 F (w32 (j : Int)) σ n (w32 (if bitI (P 4 j) k = true then max s (A 9 k) else s)) (w32 ((k + 1 : Nat) : Int)) := by
    intro n k s hk h1 h2
    have e : gI σ 493 (95 + k) = w32 (A 9 k) := hA.1 9 k (by decide) hk
    have b := bA 9 k
    rw [m12_wornFor_4, if_neg (by rw [wl_3, w_le (by omega) (by omega) (by omega) (by omega)]; omega), needs_r hA wJ hm hj, Option.bind_some, isOf_r, Option.bind_some, w_succ, wl_95, w_add, gd_pos (w_inB (by omega) (by omega) (by omega)), w_nat (by omega) (by omega), show ((95 : Int) + (k : Int)).toNat = 95 + k by omega, e, gd_pos (w_inB (by omega) (by omega) (by omega))]
    by_cases hb : bitI (P 4 j) k = true
    · rw [if_pos hb, if_neg (by decide), if_pos hb]
      simp (disch := omega) only [w_le]
      by_cases hc : A 9 k ≤ s
      · rw [if_pos hc, Int.max_eq_left hc]
      · rw [if_neg hc, Int.max_eq_right (by omega)]
    · rw [if_neg hb, if_pos rfl, if_neg hb]
  have fin : ∀ (n : Nat) (s : Int32), m12_wornFor_4 F (w32 (j : Int)) σ (n + 1) s (w32 ((3 : Nat) : Int)) = some s := by
    intro n s
    rw [m12_wornFor_4, if_pos (by rw [wl_3, w_le (by omega) (by omega) (by omega) (by omega)]; decide)]
  obtain ⟨G, rfl⟩ : ∃ k, F = k + 4 := ⟨F - 4, by omega⟩
  have w0 := wA.2.2 0 (by decide)
  have w1 := wA.2.2 1 (by decide)
  have w2 := wA.2.2 2 (by decide)
  have c0 := bA 9 0
  have c1 := bA 9 1
  have c2 := bA 9 2
  unfold m12_wornFor wornI
  have s0 := step (G + 3) 0 0 (by decide) (by decide) (by decide)
  rw [show w32 ((0 : Nat) : Int) = (0 : Int32) from rfl, show w32 (0 : Int) = (0 : Int32) from rfl] at s0
  rw [s0]
  rcases (wJ j hj).1 with ⟨h1, h2⟩ | ⟨h1, h2⟩ | ⟨h1, h2⟩ | ⟨h1, h2⟩
  · rw [h1, h2, if_pos (by decide), step (G + 2) 1 _ (by decide) (by omega) (by omega), h2, if_neg (by decide), step (G + 1) 2 _ (by decide) (by omega) (by omega), h2, if_neg (by decide), fin, if_neg (by decide), Int.max_eq_right w0]; rfl
  · rw [h1, h2, if_neg (by decide), step (G + 2) 1 _ (by decide) (by omega) (by omega), h2, if_pos (by decide), step (G + 1) 2 _ (by decide) (by omega) (by omega), h2, if_neg (by decide), fin, if_neg (by decide), Int.max_eq_right w1]; rfl
  · rw [h1, h2, if_neg (by decide), step (G + 2) 1 _ (by decide) (by omega) (by omega), h2, if_neg (by decide), step (G + 1) 2 _ (by decide) (by omega) (by omega), h2, if_pos (by decide), fin, if_neg (by decide), Int.max_eq_right w2]; rfl
  · rw [h1, h2, if_pos (by decide), step (G + 2) 1 _ (by decide) (by omega) (by omega), h2, if_pos (by decide), step (G + 1) 2 _ (by decide) (by omega) (by omega), h2, if_neg (by decide), fin, if_pos (by decide), Int.max_eq_right w0]
theorem J_ge {P A : Dat} {K : Nat → Int} (wP : WfP P) (wJ : WfJ P) {p : Nat} (h : P 0 4 ≤ (p : Int)) : jbs P A K p = -1 := by
  rcases jbs_lt (A := A) (K := K) wP p with q | ⟨q1, q2, q3, q4⟩
  · exact q
  · exfalso
    have := (wJ (jbs P A K p).toNat (by omega)).2.2
    omega
theorem rivL_none {P : Dat} {J : Nat → Int} {p : Nat} : ∀ (d o : Nat) (s : Int), (∀ q, o ≤ q → J q = -1) → rivL P J p d o s = s
  | 0, _, _, _ => rfl
  | d + 1, o, s, h => by
    unfold rivL
    rw [if_pos (Or.inr (Or.inl (h o (Nat.le_refl _))))]
    exact rivL_none d (o + 1) s (fun q hq => h q (by omega))
theorem rivalsOf_r {F : Nat} {σ : Mem} {P A : Dat} {K : Nat → Int} {p : Nat} (hA : RepA σ P A) (hQ : RepQ σ K) (wA : WfA P A) (wP : WfP P) (wJ : WfJ P) (bA : Bd 1000000000 A) (bK : -1000 ≤ K 2 ∧ K 2 ≤ 1000) (hp : p < 3) (hj : jbs P A K p ≠ -1) (hF : 100 ≤ F) : m12_rivalsOf F (w32 (p : Int)) σ = some (w32 (rivN P (jbs P A K) p)) := by
  have w2 := wP
  obtain ⟨bP, ⟨m, hm, hm8⟩, ⟨n, hn, hn3⟩, -⟩ := w2
  have e3 : gI σ 493 3 = w32 (P 0 4) := hA.2.1 3 (by decide)
  have jr := (jbs_lt (A := A) (K := K) wP p).resolve_left hj
  obtain ⟨j, hjj⟩ : ∃ j : Nat, jbs P A K p = j := ⟨(jbs P A K p).toNat, by omega⟩
  have loop : ∀ (d n' o : Nat) (s : Int), o + d = 3 → d < n' → m12_rivalsOf_4 F (w32 (p : Int)) σ n' (w32 s) (w32 (o : Int)) = some (w32 (rivL P (jbs P A K) p d o s)) := by
    intro d
    induction d with
    | zero =>
      intro n' o s h1 h2
      obtain ⟨n', rfl⟩ : ∃ k, n' = k + 1 := ⟨n' - 1, by omega⟩
      unfold m12_rivalsOf_4 rivL
      rw [gd_pos (by decide), show (3 : Int32).toNatClampNeg = 3 from rfl, e3, hn, if_pos (by rw [w_le (by omega) (by omega) (by omega) (by omega)]; omega)]
    | succ d ih =>
      intro n' o s h1 h2
      obtain ⟨n', rfl⟩ : ∃ k, n' = k + 1 := ⟨n' - 1, by omega⟩
      by_cases hon : (o : Int) < P 0 4
      · have i1 := ih n' (o + 1) s (by omega) (by omega)
        have i2 := ih n' (o + 1) (s + 1) (by omega) (by omega)
        have jo := jbs_lt (A := A) (K := K) wP o
        unfold m12_rivalsOf_4 rivL
        rw [gd_pos (by decide), show (3 : Int32).toNatClampNeg = 3 from rfl, e3, hn, if_neg (by rw [w_le (by omega) (by omega) (by omega) (by omega)]; omega), w_succ, wl_0, w_add, Int.add_zero, wl_1, w_add]
        simp (disch := omega) only [w_eq]
        by_cases h0 : o = p
        · rw [if_pos (by omega), if_pos (Or.inl h0)]; exact i1
        · rw [if_neg (by omega), jobNow_r hA hQ wA wP bA bK (by omega) hF, Option.bind_some]
          by_cases h3 : jbs P A K o = -1
          · rw [if_pos (show w32 (jbs P A K o) < w32 0 by rw [h3]; decide), if_pos (Or.inr (Or.inl h3))]; exact i1
          · have jo := jo.resolve_left h3
            obtain ⟨g, hg⟩ : ∃ g : Nat, jbs P A K o = g := ⟨(jbs P A K o).toNat, by omega⟩
            rw [hg, if_neg (by rw [w_lt (by omega) (by omega) (by omega) (by omega)]; omega), Option.bind_some, needs_r hA wJ (by omega) (by omega), Option.bind_some, jobNow_r hA hQ wA wP bA bK hp hF, Option.bind_some, hjj, needs_r hA wJ (by omega) (by omega), Option.bind_some]
            by_cases hv : (w32 (P 4 g) &&& w32 (P 4 j)) = w32 0
            · rw [if_pos hv, if_pos (Or.inr (Or.inr (by unfold ovl; rw [Int.toNat_natCast, Int.toNat_natCast]; exact decide_eq_true hv)))]; exact i1
            · rw [if_neg hv, if_neg (by intro z; rcases z with z | z | z; exact h0 z; exact h3 (hg.trans z); exact hv (by unfold ovl at z; rw [Int.toNat_natCast, Int.toNat_natCast] at z; exact of_decide_eq_true z))]; exact i2
      · rw [rivL_none (d + 1) o s (fun q hq => J_ge wP wJ (by omega))]
        unfold m12_rivalsOf_4
        rw [gd_pos (by decide), show (3 : Int32).toNatClampNeg = 3 from rfl, e3, hn, if_pos (by rw [w_le (by omega) (by omega) (by omega) (by omega)]; omega)]
  exact loop 3 F 0 0 (by omega) (by omega)
theorem words_r {F : Nat} {σ : Mem} {P A : Dat} {K : Nat → Int} {p : Nat} (hA : RepA σ P A) (hQ : RepQ σ K) (wA : WfA P A) (wP : WfP P) (wJ : WfJ P) (bA : Bd 1000000000 A) (bK : -1000 ≤ K 2 ∧ K 2 ≤ 1000) (hp : (p : Int) < P 0 4) (hj : jbs P A K p ≠ -1) (hF : 100 ≤ F) :
    ∃ σ', m12_words F (w32 (p : Int)) σ = some σ' ∧ ∀ i, i < 13 → gL σ' 492 i = wds P A (jbs P A K) p i := by
  have w2 := wP
  obtain ⟨bP, ⟨m, hm, hm8⟩, ⟨n, hn, hn3⟩, -⟩ := w2
  have hp3 : p < 3 := by omega
  have jr := (jbs_lt (A := A) (K := K) wP p).resolve_left hj
  obtain ⟨j, hjj⟩ : ∃ j : Nat, jbs P A K p = j := ⟨(jbs P A K p).toNat, by omega⟩
  have hjn : (jbs P A K p).toNat = j := by omega
  have hj8 : j < 8 := by omega
  have hjm : (j : Int) < P 0 5 := by omega
  have now := jobNow_r (F := F) hA hQ wA wP bA bK hp3 hF
  rw [hjj] at now
  have hot := isHot_r (F := F) hA hQ wA wP bA bK hp hj hF
  rw [hjn] at hot
  have riv := rivalsOf_r (F := F) hA hQ wA wP wJ bA bK hp3 hj hF
  have wor := wornFor_r (F := F) hA wA wJ bA (by omega) hjm hF
  have h0 : gI σ 493 (10 + 7 * p) = w32 (A 1 p) := hA.1 1 p (by decide) hp
  have h1 : gI σ 493 (11 + 7 * p) = w32 (A 2 p) := hA.1 2 p (by decide) hp
  have h2 : gI σ 493 (12 + 7 * p) = w32 (A 3 p) := hA.1 3 p (by decide) hp
  have h5 := hA.2.2.1 p hp
  have hmo : gI σ 493 5 = w32 (A 0 0) := hA.1 0 0 (by decide) rfl
  have hbu : gI σ 493 1 = w32 (P 0 2) := hA.2.1 1 (by decide)
  have hl : gI σ 493 (33 + 8 * j) = w32 (A 6 j) := hA.1 6 j (by decide) hjm
  obtain ⟨q0, q1, q2, q3, q4⟩ := hA.2.2.2.1 j hjm
  have post : ∀ (v2 : Int64), v2 = wds P A (jbs P A K) p 2 → ∀ i, i < 13 → gL (sL (sL (sL (sL (sL (sL (sL (sL (sL (sL (sL (sL (sL σ 492 0 (w32 (p : Int)).toInt64) 492 1 (w32 (A 1 p)).toInt64) 492 2 v2) 492 3 (w32 (P 6 j)).toInt64) 492 4 (w32 (A 6 j)).toInt64) 492 5 (w32 (P 7 j)).toInt64) 492 6 (w32 (P 1 p)).toInt64) 492 7 (w32 (A 0 0)).toInt64) 492 8 (w32 (wornI P A j)).toInt64) 492 9 (w32 (rivN P (jbs P A K) p)).toInt64) 492 10 (w32 (A 2 p)).toInt64) 492 11 (w32 (P 0 2 - A 1 p)).toInt64) 492 12 (w32 (A 3 p)).toInt64) 492 i = wds P A (jbs P A K) p i := by
    intro v2 hv2 i hi
    have hi : i = 0 ∨ i = 1 ∨ i = 2 ∨ i = 3 ∨ i = 4 ∨ i = 5 ∨ i = 6 ∨ i = 7 ∨ i = 8 ∨ i = 9 ∨ i = 10 ∨ i = 11 ∨ i = 12 := by omega
    rcases hi with rfl | rfl | rfl | rfl | rfl | rfl | rfl | rfl | rfl | rfl | rfl | rfl | rfl <;> simp [gL_sL, wds, wdI, hjn, hv2]
  have hw2 : wds P A (jbs P A K) p 2 = if A 1 p < P 6 j then 0 else 1 := by
    unfold wds wdI
    rw [hjn]
    by_cases hh : A 1 p < P 6 j
    · simp only [hh, if_true]; exact l0_64
    · simp only [hh, if_false]; exact l1_64
  unfold m12_words m12_words_45
  rw [now, Option.bind_some]
  by_cases hh : A 1 p < P 6 j
  · rw [if_pos hh] at hot hw2
    apply Exists.intro; refine ⟨?_, post _ hw2.symm⟩
    simp (disch := omega) only [so_0, so_1, so_2, so_5, jo_2, jo_3, jo_4, isHot12_sL, hot, rivalsOf_sL, riv, wornFor_sL, wor, gI_sL, h0, h1, h2, h5, hl, q2, q3, Option.bind_some]
    simp (disch := omega) only [so_0, so_1, so_2, so_5, jo_2, jo_3, jo_4, isHot12_sL, hot, rivalsOf_sL, riv, wornFor_sL, wor, gI_sL, h0, h1, h2, h5, hmo, hbu, hl, q2, q3, Option.bind_some, wl_0, wl_1, wl_2, wl_3, wl_4, wl_5, wl_6, wl_7, wl_8, wl_9, wl_10, wl_11, wl_12, wl_13, wl_14, wl_15, wl_16, wl_20, wl_24, wl_26, wl_30, wl_31, wl_32, wl_40, wl_41, wl_47, wl_48, wl_50, wl_58, wl_59, wl_60, wl_61, wl_64, wl_91, wl_93, wl_95, wl_97, wl_98, wl_99, wl_100, wl_101, wl_122, wl_131, wl_132, wl_200, wl_255, wl_400, wl_500, wl_501, wl_999, wl_1960, wl_9999, wl_99999, wl_4000000, wl_m1, wl_m2, wl_m3, wl_m8, wl_m20, wl_m21, wl_m22, wl_m23, wl_m24, wl_m25, wl_m26, wl_m27, wl_m28, wl_m29, wl_m30, wl_m31, wl_m32, wl_m100000, w_add, w_sub, w_mul, w_neg, w_eq, w_lt, w_le, w_natk, w_nat, Int.toNat_natCast, tn_0, tn_1, tn_2, tn_3, tn_4, tn_5, tn_6, tn_7, tn_8, tn_9, tn_10, tn_11, tn_12, tn_13, tn_14, tn_15, tn_16, tn_20, tn_24, tn_26, tn_30, tn_31, tn_32, tn_40, tn_41, tn_47, tn_48, tn_50, tn_58, tn_59, tn_60, tn_61, tn_64, tn_91, tn_93, tn_95, tn_97, tn_98, tn_99, tn_100, tn_101, tn_122, tn_131, tn_132, w_inB, gd_T, Option.bind_some, ↓reduceIte, if_true, if_false, ite_true, ite_false] <;> rfl
  · rw [if_neg hh] at hot hw2
    apply Exists.intro; refine ⟨?_, post _ hw2.symm⟩
    simp (disch := omega) only [so_0, so_1, so_2, so_5, jo_2, jo_3, jo_4, isHot12_sL, hot, rivalsOf_sL, riv, wornFor_sL, wor, gI_sL, h0, h1, h2, h5, hl, q2, q3, Option.bind_some]
    simp (disch := omega) only [so_0, so_1, so_2, so_5, jo_2, jo_3, jo_4, isHot12_sL, hot, rivalsOf_sL, riv, wornFor_sL, wor, gI_sL, h0, h1, h2, h5, hmo, hbu, hl, q2, q3, Option.bind_some, wl_0, wl_1, wl_2, wl_3, wl_4, wl_5, wl_6, wl_7, wl_8, wl_9, wl_10, wl_11, wl_12, wl_13, wl_14, wl_15, wl_16, wl_20, wl_24, wl_26, wl_30, wl_31, wl_32, wl_40, wl_41, wl_47, wl_48, wl_50, wl_58, wl_59, wl_60, wl_61, wl_64, wl_91, wl_93, wl_95, wl_97, wl_98, wl_99, wl_100, wl_101, wl_122, wl_131, wl_132, wl_200, wl_255, wl_400, wl_500, wl_501, wl_999, wl_1960, wl_9999, wl_99999, wl_4000000, wl_m1, wl_m2, wl_m3, wl_m8, wl_m20, wl_m21, wl_m22, wl_m23, wl_m24, wl_m25, wl_m26, wl_m27, wl_m28, wl_m29, wl_m30, wl_m31, wl_m32, wl_m100000, w_add, w_sub, w_mul, w_neg, w_eq, w_lt, w_le, w_natk, w_nat, Int.toNat_natCast, tn_0, tn_1, tn_2, tn_3, tn_4, tn_5, tn_6, tn_7, tn_8, tn_9, tn_10, tn_11, tn_12, tn_13, tn_14, tn_15, tn_16, tn_20, tn_24, tn_26, tn_30, tn_31, tn_32, tn_40, tn_41, tn_47, tn_48, tn_50, tn_58, tn_59, tn_60, tn_61, tn_64, tn_91, tn_93, tn_95, tn_97, tn_98, tn_99, tn_100, tn_101, tn_122, tn_131, tn_132, w_inB, gd_T, Option.bind_some, ↓reduceIte, if_true, if_false, ite_true, ite_false] <;> rfl
/-- the RULE IN FORCE as the reference holds it -/
def RepFo (σ : Mem) (ro : Option Dat) : Prop := match ro with
  | none => gI σ 483 21 = w32 (-1)
  | some R => ∃ rk : Nat, rk < 6 ∧ gI σ 483 21 = w32 (rk : Int) ∧ RepGr rk σ R ∧ WfR R ∧ WfL R
theorem RepFo.fr {W V : Nat → Prop} {σ σ' : Mem} {ro : Option Dat} (h : RepFo σ ro) (f : Fr W σ σ') (s : Sl V σ σ') (h1 : ¬ W 485) (h2 : ¬ W 487) (h3 : ¬ W 488) (h4 : ¬ V 21) : RepFo σ' ro := by
  match ro, h with
  | none, h => exact (s 21 h4).trans h
  | some R, ⟨rk, a, b, c, d, e⟩ => exact ⟨rk, a, (s 21 h4).trans b, c.fr f h1 h2 h3, d, e⟩
theorem wills_r {F : Nat} {σ : Mem} {P A : Dat} {K : Nat → Int} {ro : Option Dat} {p : Nat} (hA : RepA σ P A) (hQ : RepQ σ K) (hR : RepFo σ ro) (wA : WfA P A) (wP : WfP P) (wJ : WfJ P) (bA : Bd 1000000000 A) (bK : -1000 ≤ K 2 ∧ K 2 ≤ 1000) (bK3 : -1 ≤ K 3 ∧ K 3 ≤ 1000) (hp : (p : Int) < P 0 4) (hF : 1000 ≤ F) :
    ∃ σ', m12_willsStrike F (w32 (p : Int)) σ = some (if wlN P A K ro (jbs P A K) p then (1 : Int32) else 0, σ') := by
  have w2 := wP
  obtain ⟨bP, ⟨m, hm, hm8⟩, ⟨n, hn, hn3⟩, -⟩ := w2
  have hp3 : p < 3 := by omega
  unfold m12_willsStrike wlN wl
  rw [jobNow_r hA hQ wA wP bA bK hp3 (by omega), Option.bind_some]
  by_cases hj : jbs P A K p = -1
  · rw [hj, if_neg (by decide), if_pos rfl]
    exact ⟨σ, rfl⟩
  · have jr := (jbs_lt (A := A) (K := K) wP p).resolve_left hj
    rw [if_pos (by rw [wl_0, w_le (by omega) (by omega) (by omega) (by omega)]; omega), if_neg hj, hQ.2.1]
    by_cases h3 : K 3 = -1
    · rw [h3, if_pos (by decide), if_pos rfl]
      match ro, hR with
      | none, hR =>
        have hR : gI σ 483 21 = w32 (-1) := hR
        rw [hR, if_neg (by decide), isHot_r hA hQ wA wP bA bK hp hj (by omega), Option.bind_some]
        refine ⟨σ, ?_⟩
        change _ = some (if hotB P A (jbs P A K) p = true then 1 else 0, σ)
        by_cases hh : A 1 p < P 6 (jbs P A K p).toNat
        · have e : hotB P A (jbs P A K) p = false := by unfold hotB; exact decide_eq_false (by omega)
          rw [if_pos hh, gd_pos (by decide), e]; rfl
        · have e : hotB P A (jbs P A K) p = true := by unfold hotB; exact decide_eq_true (by omega)
          rw [if_neg hh, gd_pos (by decide), e]; rfl
      | some R, hR =>
        obtain ⟨rk, hrk, e21, hG, hW, hL⟩ := hR
        rw [e21, if_pos (by rw [wl_0, w_le (by omega) (by omega) (by omega) (by omega)]; omega)]
        obtain ⟨σ1, m1, g1⟩ := words_r (F := F) hA hQ wA wP wJ bA bK hp hj (by omega)
        have f1 := f12_words m1
        have s1 := f12_words_s m1
        rw [m1, Option.bind_some, s1 21 (by unfold Vm12_words; exact fun h => h), e21]
        have hz := hW.1
        obtain ⟨v, σ2, m2, hv⟩ := summed2_ok (F := F) (w := gL σ1 492) hF hrk hW hL (R 0 3).toNat F 0 σ1 (by omega) (by have := hW.2.1; omega) (hG.fr f1 (by unfold Wm12_words; omega) (by unfold Wm12_words; omega) (by unfold Wm12_words; omega)) rfl
        have ms : m12_summedBy F (w32 (rk : Int)) σ1 = some (v, σ2) := m2
        rw [ms, Option.bind_some]
        have hst : decide (0 < v) = stk R (wds P A (jbs P A K) p) := by
          rw [hv]
          exact stk_w (R := R) g1
        refine ⟨σ2, ?_⟩
        simp only [lg_le0]
        change _ = some (if stk R (wds P A (jbs P A K) p) = true then 1 else 0, σ2)
        rw [← hst]
        by_cases h0 : 0 < v
        · rw [if_neg (not_not_intro h0), decide_eq_true h0]; rfl
        · rw [if_pos h0, decide_eq_false h0]; rfl
    · rw [if_neg (by rw [wl_0, w_lt (by omega) (by omega) (by omega) (by omega)]; omega), if_neg h3, isOf_r, Option.bind_some]
      refine ⟨σ, ?_⟩
      by_cases hb : bitI (K 3) p = true
      · simp only [hb, if_true]; rw [gd_pos (by decide)]
      · simp only [hb]; rw [gd_pos (by decide)]
