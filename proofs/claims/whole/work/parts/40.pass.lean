/-! THE REFERENCE, 5: a MOMENT (no ROUND) -/
theorem up_comm {A : Dat} {i j i' j' : Nat} {v v' : Int} (h : i ≠ i') : up (up A i j v) i' j' v' = up (up A i' j' v') i j v := by
  funext a b
  simp only [up_at]
  by_cases h1 : a = i' ∧ b = j'
  · rw [if_pos h1, if_neg (fun z => h (z.1.symm.trans h1.1)), if_pos h1]
  · rw [if_neg h1, if_neg h1]
theorem up_same {A : Dat} {i j : Nat} {v v' : Int} : up (up A i j v) i j v' = up A i j v' := by
  funext a b
  simp only [up_at]
  by_cases h1 : a = i ∧ b = j
  · rw [if_pos h1, if_pos h1]
  · rw [if_neg h1, if_neg h1, if_neg h1]
theorem up_self {A : Dat} {i j : Nat} {v : Int} (h : A i j = v) : up A i j v = A := by
  funext a b
  simp only [up_at]
  by_cases h1 : a = i ∧ b = j
  · rw [if_pos h1, h1.1, h1.2, h]
  · rw [if_neg h1]
theorem opn_congr {P A A' : Dat} {p : Int} {j : Nat} (h : P 2 j = p → A' 6 j = A 6 j) : opn P A' p j = opn P A p j := by
  unfold opn
  by_cases h1 : P 2 j = p
  · rw [h h1]
  · rw [decide_eq_false h1, Bool.false_and, Bool.false_and]
theorem jobL_congr {P A A' : Dat} {p : Int} (h6 : ∀ j, P 2 j = p → A' 6 j = A 6 j) (h8 : ∀ j, A' 8 j = A 8 j) : ∀ (d j : Nat) (f : Int), jobL P A' p d j f = jobL P A p d j f
  | 0, _, _ => rfl
  | d + 1, j, f => by
    unfold jobL
    rw [opn_congr (h6 j), h8 j, h8 f.toNat, jobL_congr h6 h8 d (j + 1)]
theorem jbs_congr {P A A' : Dat} {K : Nat → Int} {p : Nat} (h6 : ∀ j, P 2 j = (p : Int) → A' 6 j = A 6 j) (h8 : ∀ j, A' 8 j = A 8 j) : jbs P A' K p = jbs P A K p := by
  unfold jbs jobN
  rw [jobL_congr h6 h8]
theorem heatA_8 {P A : Dat} {K : Nat → Int} {p j k : Nat} : heatA P A K p j 8 k = A 8 k := by
  unfold heatA
  split <;> split <;> simp [up_at]
theorem strikeA_8 {P A : Dat} {K : Nat → Int} {p j k : Nat} : strikeA P A K p j 8 k = A 8 k := by
  unfold strikeA
  simp only []
  split
  · simp [up_at]
  · split
    · split <;> simp [up_at]
    · simp [up_at]
theorem waitA_8 {P A : Dat} {p k : Nat} : waitA P A p 8 k = A 8 k := by
  unfold waitA; simp [up_at]
theorem heatA_6 {P A : Dat} {K : Nat → Int} {p j k : Nat} (h : k ≠ j) : heatA P A K p j 6 k = A 6 k := by
  unfold heatA
  split <;> split <;> simp [up_at, h]
theorem strikeA_6 {P A : Dat} {K : Nat → Int} {p j k : Nat} (h : k ≠ j) : strikeA P A K p j 6 k = A 6 k := by
  unfold strikeA
  simp only []
  split
  · simp [up_at]
  · split
    · split <;> simp [up_at, h]
    · simp [up_at]
theorem waitA_6 {P A : Dat} {p k : Nat} : waitA P A p 6 k = A 6 k := by
  unfold waitA; simp [up_at]
theorem stepS_8 {P : Dat} {J : Nat → Int} {Wl : Nat → Bool} {p : Nat} {s : WS} {k : Nat} : (stepS P J Wl p s).1 8 k = s.1 8 k := by
  unfold stepS
  split
  · rfl
  · split
    · split
      · exact strikeA_8
      · exact waitA_8 (P := P) (A := s.1) (p := p)
    · exact heatA_8
theorem stepS_6 {P : Dat} {J : Nat → Int} {Wl : Nat → Bool} {p : Nat} {s : WS} {k : Nat} (h : J p = -1 ∨ k ≠ (J p).toNat) : (stepS P J Wl p s).1 6 k = s.1 6 k := by
  unfold stepS
  split
  · rfl
  · rename_i hj
    have h := h.resolve_left hj
    split
    · split
      · exact strikeA_6 h
      · exact waitA_6 (P := P) (A := s.1) (p := p)
    · exact heatA_6 h
/-- as stepS; who has no JOB waits no more -/
def stepR (P : Dat) (J : Nat → Int) (Wl : Nat → Bool) (p : Nat) (s : WS) : WS := if J p = -1 then ((if (p : Int) < P 0 4 then up s.1 2 p 0 else s.1), s.2.1, s.2.2) else stepS P J Wl p s
def workR (P : Dat) (J : Nat → Int) (Wl : Nat → Bool) : Nat → Nat → WS → WS
  | 0, _, s => s
  | d + 1, p, s => workR P J Wl d (p + 1) (stepR P J Wl p s)
/-- is a BLOW done (no cold one) -/
def hitS (P : Dat) (J : Nat → Int) (Wl : Nat → Bool) (p : Nat) (s : WS) : Int :=
  if J p = -1 then 0 else if Wl p then (if okT P s.1 s.2.1 s.2.2 (J p).toNat then (if s.1 1 p < P 6 (J p).toNat then 0 else 1) else 0) else 0
theorem heats_r {F : Nat} {σ : Mem} {P A : Dat} {K : Nat → Int} {p j : Nat} (hA : RepA σ P (up A 2 p 0)) (hQ : RepQ σ K) (wP : WfP P) (bA : Bd 1000000000 A) (hK6 : K 6 = 0) (bK : -1000 ≤ K 5 ∧ K 5 ≤ 1000) (hp : (p : Int) < P 0 4) (hj : (j : Int) < P 0 5) (hh : A 1 p ≤ P 0 2) :
    ∃ σ', m12_heats F (w32 (p : Int)) (w32 (j : Int)) σ = some σ' ∧ RepA σ' P (heatA P A K p j) ∧ Fr (fun c => c = 493) σ σ' ∧ Tl σ σ' := by
  have w2 := wP
  obtain ⟨bP, ⟨m, hm, hm8⟩, ⟨n, hn, hn3⟩, -⟩ := w2
  have a1 : gI σ 493 (10 + 7 * p) = w32 (A 1 p) := by have := hA.1 1 p (by decide) hp; simpa [sidx, up_at] using this
  have a4 : gI σ 493 (14 + 7 * p) = w32 (A 4 p) := by have := hA.1 4 p (by decide) hp; simpa [sidx, up_at] using this
  have q5 := hA.2.2.1 p hp
  have qb : gI σ 493 1 = w32 (P 0 2) := hA.2.1 1 (by decide)
  have q7 := (hA.2.2.2.1 j hj).2.2.2.2
  have i0 : (w32 10 + (w32 7 * w32 (p : Int))) = w32 ((10 + 7 * p : Nat) : Int) := by rw [w_mul, w_add]; congr 1
  have i5 : w32 ((10 + 7 * p : Nat) : Int) + w32 5 = w32 ((15 + 7 * p : Nat) : Int) := by rw [w_add]; congr 1; omega
  have i4 : w32 ((10 + 7 * p : Nat) : Int) + w32 4 = w32 ((14 + 7 * p : Nat) : Int) := by rw [w_add]; congr 1; omega
  have j2 : (w32 31 + (w32 8 * w32 (j : Int))) + w32 2 = w32 ((33 + 8 * j : Nat) : Int) := by rw [w_mul, w_add, w_add]; congr 1; omega
  have b1 := bA 1 p
  have b2 := bP 1 p
  have b3 := bP 0 2
  have hs : ∀ v, RepA (sI σ 493 (10 + 7 * p) (w32 v)) P (up (up A 2 p 0) 1 p v) := fun v => hA.upd (by omega) (by omega) 1 p v (by decide) hp
  unfold m12_heats heatA
  simp only [jo_7 (F := F) (j := j) (show j < 8 by omega), Option.bind_some]
  rw [hQ.2.2.2.2]
  by_cases hk : K 5 = 0
  · rw [if_pos (by rw [hk]; rfl), if_pos hk, wl_10, wl_7, i0, wl_5, i5, wl_4, i4, wl_31, wl_8, wl_2, j2, gd_pos (w_inB (by omega) (by omega) (by omega)), gd_pos (w_inB (by omega) (by omega) (by omega)), gd_pos (w_inB (by omega) (by omega) (by omega)), w_natk (by omega), w_natk (by omega), a1, q5, w_add, gd_pos (w_inB (by omega) (by omega) (by omega)), gd_pos (by decide), gI_eq, show (1 : Int32).toNatClampNeg = 1 from rfl, gI_nej (by omega), qb]
    simp (disch := omega) only [w_lt]
    by_cases hb : A 1 p + P 1 p ≤ P 0 2
    · rw [if_neg (by omega), if_pos hb]
      exact ⟨_, rfl, hs _, (Fr.rf (fun c => c = 493) _).sI rfl, (Tl.rf _).at (by omega)⟩
    · rw [if_pos (by omega), if_neg hb, gd_pos (w_inB (by omega) (by omega) (by omega)), gI_nec (by decide), gI_nec (by decide), hQ.2.2.1, if_pos (by rw [hK6]; rfl), gd_pos (w_inB (by omega) (by omega) (by omega)), gd_pos (w_inB (by omega) (by omega) (by omega)), w_natk (k := 14 + 7 * p) (by omega), gd_pos (w_inB (by omega) (by omega) (by omega)), w_natk (k := 33 + 8 * j) (by omega)]
      refine ⟨_, rfl, ?_, ((((Fr.rf (fun c => c = 493) _).sI rfl).sI rfl).sI rfl).sI rfl, ((((Tl.rf _).at (by omega)).at (by omega)).at (by omega)).at (by omega)⟩
      have r1 := ((hs (A 1 p + P 1 p)).upd (by omega) (by omega) 1 p 0 (by decide) hp).upd (by omega) (by omega) 4 p (A 4 p + 1) (by decide) hp
      have r2 := r1.upd (by omega) (by omega) 6 j (P 5 j) (by decide) hj
      rw [up_comm (i := 4) (i' := 6) (by decide)] at r2
      have e4 : gI (sI (sI σ 493 (10 + 7 * p) (w32 (A 1 p + P 1 p))) 493 (10 + 7 * p) (0 : Int32)) 493 (14 + 7 * p) = w32 (A 4 p) := by rw [gI_nej (by omega), gI_nej (by omega), a4]
      rw [e4, wl_1, w_add]
      have e7 : gI (sI (sI (sI σ 493 (10 + 7 * p) (w32 (A 1 p + P 1 p))) 493 (10 + 7 * p) (0 : Int32)) 493 (14 + 7 * p) (w32 (A 4 p + 1))) 493 (38 + 8 * j) = w32 (P 5 j) := by rw [gI_nej (by omega), gI_nej (by omega), gI_nej (by omega), q7]
      rw [e7]
      exact r2
  · rw [if_neg (by rw [wl_0, w_eq (by omega) (by omega) (by omega) (by omega)]; exact hk), if_neg hk, if_pos hh]
    exact ⟨σ, rfl, hA, Fr.rf _ _, Tl.rf _⟩
theorem strikes_r {F : Nat} {σ : Mem} {P A : Dat} {K : Nat → Int} {p j : Nat} {hot : Bool} (hA : RepA σ P (up (up A 2 p 0) 1 p (max 0 (A 1 p - P 0 1)))) (hQ : RepQ σ K) (wP : WfP P) (bA : Bd 1000000000 A) (hK6 : K 6 = 0) (hp : (p : Int) < P 0 4) (hj : (j : Int) < P 0 5) (hh : hot = decide (P 6 j ≤ A 1 p)) (hl : 0 < A 6 j) (hm : A 0 0 + 1 ≤ 9999) (h0 : gI σ 496 p = w32 0) :
    ∃ σ', m12_strikes F (w32 (p : Int)) (w32 (j : Int)) (if hot then w32 1 else w32 0) σ = some σ' ∧ RepA σ' P (strikeA P A K p j) ∧ gI σ' 496 p = w32 (if A 1 p < P 6 j then 0 else 1) ∧ (∀ q, q ≠ p → gI σ' 496 q = gI σ 496 q) ∧ Tl σ σ' := by
  have w2 := wP
  obtain ⟨bP, ⟨m, hm', hm8⟩, ⟨n, hn, hn3⟩, -⟩ := w2
  have get : ∀ i q, i ≤ 10 → sok P i q → i ≠ 1 → i ≠ 2 → gI σ 493 (sidx i q) = w32 (A i q) := fun i q h1 h2 h3 h4 => by
    rw [hA.1 i q h1 h2, up_at, if_neg (fun z => h3 z.1), up_at, if_neg (fun z => h4 z.1)]
  have a3 : gI σ 493 (12 + 7 * p) = w32 (A 3 p) := get 3 p (by decide) hp (by decide) (by decide)
  have a5 : gI σ 493 (16 + 7 * p) = w32 (A 5 p) := get 5 p (by decide) hp (by decide) (by decide)
  have a10 : gI σ 493 (13 + 7 * p) = w32 (A 10 p) := get 10 p (by decide) hp (by decide) (by decide)
  have a6 : gI σ 493 (33 + 8 * j) = w32 (A 6 j) := get 6 j (by decide) hj (by decide) (by decide)
  have a0 : gI σ 493 5 = w32 (A 0 0) := get 0 0 (by decide) rfl (by decide) (by decide)
  have q4 := (hA.2.2.2.1 j hj).2.2.2.1
  have i0 : (w32 10 + (w32 7 * w32 (p : Int))) = w32 ((10 + 7 * p : Nat) : Int) := by rw [w_mul, w_add]; congr 1
  have i2 : w32 ((10 + 7 * p : Nat) : Int) + w32 2 = w32 ((12 + 7 * p : Nat) : Int) := by rw [w_add]; congr 1; omega
  have i3 : w32 ((10 + 7 * p : Nat) : Int) + w32 3 = w32 ((13 + 7 * p : Nat) : Int) := by rw [w_add]; congr 1; omega
  have i6 : w32 ((10 + 7 * p : Nat) : Int) + w32 6 = w32 ((16 + 7 * p : Nat) : Int) := by rw [w_add]; congr 1; omega
  have j2 : (w32 31 + (w32 8 * w32 (j : Int))) + w32 2 = w32 ((33 + 8 * j : Nat) : Int) := by rw [w_mul, w_add, w_add]; congr 1; omega
  have j5 : (w32 31 + (w32 8 * w32 (j : Int))) + w32 5 = w32 ((36 + 8 * j : Nat) : Int) := by rw [w_mul, w_add, w_add]; congr 1; omega
  have b6 := bA 6 j
  have b1 := bA 1 p
  have b2 := bP 6 j
  have bm := bA 0 0
  have n3 : P 0 4 ≤ 3 := by omega
  have n8 : P 0 5 ≤ 8 := by omega
  unfold m12_strikes m12_strikes_23 m12_strikes_70 strikeA
  simp only [jo_2 (F := F) (j := j) (show j < 8 by omega), jo_4 (F := F) (j := j) (show j < 8 by omega), Option.bind_some]
  rw [wl_10, wl_7, i0, wl_2, i2, wl_3, i3, wl_6, i6, wl_31, wl_8, j2, wl_5, j5, hQ.2.2.1, gI_nec (show (483 : Nat) ≠ 496 by decide), hQ.2.2.1]
  by_cases hc : A 1 p < P 6 j
  · have hot0 : hot = false := by rw [hh]; exact decide_eq_false (by omega)
    rw [hot0, if_pos (by decide), if_pos (by rw [hK6]; rfl), if_pos (by decide), if_pos hc, if_pos hc, gd_pos (w_inB (by omega) (by omega) (by omega)), gd_pos (w_inB (by omega) (by omega) (by omega)), w_natk (k := 16 + 7 * p) (by omega), a5, wl_1, w_add, gI_nej (by omega), a6, if_neg (by rw [wl_0, w_le (by omega) (by omega) (by omega) (by omega)]; omega)]
    exact ⟨_, rfl, hA.upd n3 n8 5 p _ (by decide) hp, by rw [gI_nec (by decide)]; exact h0, fun q _ => by rw [gI_nec (by decide)], (Tl.rf _).at (by show 16 + 7 * p < 98; omega)⟩
  · have hot1 : hot = true := by rw [hh]; exact decide_eq_true (by omega)
    rw [hot1, if_neg (by decide), gd_pos (w_inB (by omega) (by omega) (by omega)), gd_pos (w_inB (by omega) (by omega) (by omega)), w_natk (k := p) (by omega), h0, wl_1, w_add, if_pos (by rw [hK6]; rfl), if_neg (by decide), if_neg hc, if_neg hc, if_pos hK6, gd_pos (w_inB (by omega) (by omega) (by omega)), gd_pos (w_inB (by omega) (by omega) (by omega)), w_natk (k := 33 + 8 * j) (by omega), gI_eq]
    have A1 : RepA (sI σ 496 p (w32 (0 + 1))) P (up (up A 2 p 0) 1 p (max 0 (A 1 p - P 0 1))) := hA.same (by rw [gI_ne _ _ _ (by decide)]) (by rw [gI_nec (by decide)])
    have A2 := A1.upd n3 n8 6 j (A 6 j - 1) (by decide) hj
    rw [gI_nec (show (493 : Nat) ≠ 496 by decide), a6, w_sub]
    by_cases hz : A 6 j - 1 = 0
    · rw [if_pos (by rw [hz]; decide)]
      simp only [hz, if_true]
      rw [gd_pos (by decide), gd_pos (w_inB (by omega) (by omega) (by omega)), w_natk (k := 36 + 8 * j) (by omega), gd_pos (w_inB (by omega) (by omega) (by omega)), w_natk (k := 10 + 7 * p) (by omega), gd_pos (w_inB (by omega) (by omega) (by omega)), gd_pos (w_inB (by omega) (by omega) (by omega)), w_natk (k := 12 + 7 * p) (by omega), gd_pos (w_inB (by omega) (by omega) (by omega)), gd_pos (w_inB (by omega) (by omega) (by omega)), w_natk (k := 13 + 7 * p) (by omega)]
      have A3 := (((A2.upd n3 n8 7 j (A 0 0 + 1) (by decide) hj).upd n3 n8 1 p 0 (by decide) hp).upd n3 n8 3 p (A 3 p + 1) (by decide) hp).upd n3 n8 10 p (A 10 p + P 7 j) (by decide) hp
      rw [hz, up_comm (i := 7) (i' := 1) (by decide), up_comm (i := 7) (i' := 3) (by decide)] at A3
      rw [Int.min_eq_right hm]
      have e1 : ∀ (s : Mem) (x y z : Int32) (u v w : Nat), u ≠ 5 → True → gI (sI s 493 u x) 493 5 = gI s 493 5 := fun s x y z u v w h _ => by rw [gI_nej (Ne.symm h)]
      refine ⟨_, rfl, ?_, ?_, ?_, ?_⟩
      · simp (disch := omega) only [wl_0, wl_1, wl_2, wl_3, wl_4, wl_5, wl_6, wl_7, wl_8, wl_9, wl_10, wl_11, wl_12, wl_13, wl_14, wl_15, wl_16, wl_20, wl_24, wl_26, wl_30, wl_31, wl_32, wl_40, wl_41, wl_47, wl_48, wl_50, wl_58, wl_59, wl_60, wl_61, wl_64, wl_91, wl_93, wl_95, wl_97, wl_98, wl_99, wl_100, wl_101, wl_122, wl_131, wl_132, wl_200, wl_255, wl_400, wl_500, wl_501, wl_999, wl_1960, wl_9999, wl_99999, wl_4000000, wl_m1, wl_m2, wl_m3, wl_m8, wl_m20, wl_m21, wl_m22, wl_m23, wl_m24, wl_m25, wl_m26, wl_m27, wl_m28, wl_m29, wl_m30, wl_m31, wl_m32, wl_m100000, w_add, w_sub, w_mul, w_neg, w_eq, w_lt, w_le, w_natk, w_nat, Int.toNat_natCast, tn_0, tn_1, tn_2, tn_3, tn_4, tn_5, tn_6, tn_7, tn_8, tn_9, tn_10, tn_11, tn_12, tn_13, tn_14, tn_15, tn_16, tn_20, tn_24, tn_26, tn_30, tn_31, tn_32, tn_40, tn_41, tn_47, tn_48, tn_50, tn_58, tn_59, tn_60, tn_61, tn_64, tn_91, tn_93, tn_95, tn_97, tn_98, tn_99, tn_100, tn_101, tn_122, tn_131, tn_132, w_inB, gd_T, Option.bind_some, ↓reduceIte, if_true, if_false, ite_true, ite_false, gI_eq, gI_nec, gI_nej, gI_sL, gL_sI, gI_sR, gL_sR, gR_sI, gR_sL, gR_sR, a0, a3, a10, q4, show Int.toNat 5 = 5 from rfl] at A3 ⊢
        exact A3
      · rw [gI_nec (by decide), gI_nec (by decide), gI_nec (by decide), gI_nec (by decide), gI_nec (by decide), gI_eq]; rfl
      · intro q hq
        rw [gI_nec (by decide), gI_nec (by decide), gI_nec (by decide), gI_nec (by decide), gI_nec (by decide), gI_nej hq]
      · exact ((((((Tl.rf _).ne (by decide)).at (by omega)).at (by omega)).at (by omega)).at (by omega)).at (by omega)
    · rw [if_neg (by rw [wl_0, w_le (by omega) (by omega) (by omega) (by omega)]; omega)]
      simp only [hz, if_false]
      exact ⟨_, rfl, A2, by rw [gI_nec (by decide), gI_eq]; rfl, fun q hq => by rw [gI_nec (by decide), gI_nej hq], ((Tl.rf _).ne (by decide)).at (by show 33 + 8 * j < 98; omega)⟩
theorem RepA.f {σ σ' : Mem} {P A A' : Dat} (h : RepA σ P A) (e : ∀ i j, A i j = A' i j) : RepA σ P A' := by
  have : A = A' := funext fun i => funext fun j => e i j
  rw [← this]; exact h
theorem jbs_up {P A : Dat} {K : Nat → Int} {i j p : Nat} {v : Int} (h6 : i ≠ 6) (h8 : i ≠ 8) : jbs P (up A i j v) K p = jbs P A K p :=
  jbs_congr (fun q _ => by rw [up_at, if_neg (fun z => h6 z.1.symm)]) (fun q => by rw [up_at, if_neg (fun z => h8 z.1.symm)])
theorem WfA.up2 {P A : Dat} {p : Nat} {v : Int} (h : WfA P A) : WfA P (up A 2 p v) :=
  ⟨fun q hq => by rw [up_at, up_at, if_neg (by omega), if_neg (by omega)]; exact h.1 q hq, fun q hq => by rw [up_at, if_neg (by omega)]; exact h.2.1 q hq, fun k hk => by rw [up_at, if_neg (by omega)]; exact h.2.2 k hk⟩
theorem goes56_r {F : Nat} {σ : Mem} {P A : Dat} {K : Nat → Int} {p j : Nat} {t : Int} (hA : RepA σ P A) (hQ : RepQ σ K) (wA : WfA P A) (wP : WfP P) (bA : Bd 1000000000 A) (bK : BdK K) (hp : (p : Int) < P 0 4) (hJ : jbs P A K p = (j : Int)) (ht : gI σ 494 p = w32 t) (ht16 : t ≠ 16) (hb : 0 ≤ t ∧ t < 16) (hF : 100 ≤ F) :
    m12_goesOn_56 F (w32 (p : Int)) (w32 (j : Int)) (w32 ((10 + 7 * p : Nat) : Int)) σ = m12_goesOn_123 F (w32 (p : Int)) (w32 (j : Int)) (if decide (P 6 j ≤ A 1 p) then w32 1 else w32 0) (w32 ((10 + 7 * p : Nat) : Int)) (w32 (max 0 (A 1 p - P 0 1))) σ := by
  have w2 := wP
  obtain ⟨bP, ⟨m, hm', hm8⟩, ⟨n, hn, hn3⟩, -⟩ := w2
  have jr := (jbs_lt (A := A) (K := K) wP p).resolve_left (by omega)
  have hot := isHot_r (F := F) hA hQ wA wP bA (bK 2 (by decide) (by decide)) hp (by omega) hF
  rw [hJ, Int.toNat_natCast] at hot
  have a1 : gI σ 493 (10 + 7 * p) = w32 (A 1 p) := hA.1 1 p (by decide) hp
  have qc : gI σ 493 0 = w32 (P 0 1) := hA.2.1 0 (by decide)
  have b1 := bA 1 p
  have b01 := bP 0 1
  have hh : (if A 1 p < P 6 j then w32 0 else w32 1) = (if decide (P 6 j ≤ A 1 p) then w32 1 else w32 0) := by
    by_cases h : A 1 p < P 6 j
    · rw [if_pos h, if_neg (by rw [decide_eq_true_eq]; omega)]
    · rw [if_neg h, if_pos (by rw [decide_eq_true_eq]; omega)]
  unfold m12_goesOn_56
  rw [if_pos (by rw [wl_0, w_le (by omega) (by omega) (by omega) (by omega)]; omega), gd_pos (w_inB (by omega) (by omega) (by omega)), w_natk (k := p) (by omega), ht, if_neg (by rw [wl_16, w_eq (by omega) (by omega) (by omega) (by omega)]; exact ht16), hot, hh, Option.bind_some, gd_pos (w_inB (by omega) (by omega) (by omega)), gd_pos (by decide), w_natk (k := 10 + 7 * p) (by omega), a1, show (0 : Int32).toNatClampNeg = 0 from rfl, qc, gd_pos (w_inB (by omega) (by omega) (by omega)), gd_pos (by decide), w_sub]
  by_cases hc : P 0 1 ≤ A 1 p
  · rw [if_pos (by rw [w_le (by omega) (by omega) (by omega) (by omega)]; exact hc), Int.max_eq_right (by omega)]
  · rw [if_neg (by rw [w_le (by omega) (by omega) (by omega) (by omega)]; exact hc), Int.max_eq_left (by omega)]; rfl
theorem goesOn_r {F : Nat} {σ : Mem} {P : Dat} {K : Nat → Int} {J : Nat → Int} {Wl : Nat → Bool} {s : WS} {p : Nat} (hA : RepA σ P s.1) (hQ : RepQ σ K) (wA : WfA P s.1) (wP : WfP P) (bA : Bd 900000000 s.1) (bK : BdK K) (hK6 : K 6 = 0) (hp : (p : Int) < P 0 4) (hs5 : s.2.1 5 = K 5) (hs6 : s.2.1 6 = K 6) (hJ : jbs P s.1 K p = J p) (ht : gI σ 494 p = w32 (turnS P J Wl p s)) (hb : ∀ j : Nat, J p = (j : Int) → 0 < bitsN P s.1 s.2.1 s.2.2 j ∧ bitsN P s.1 s.2.1 s.2.2 j < 16) (hm : s.1 0 0 + 1 ≤ 9999) (h0 : gI σ 496 p = w32 0) (hF : 100 ≤ F) :
    ∃ σ', m12_goesOn F (w32 (p : Int)) σ = some σ' ∧ RepA σ' P (stepR P J Wl p s).1 ∧ gI σ' 496 p = w32 (hitS P J Wl p s) ∧ (∀ q, q ≠ p → gI σ' 496 q = gI σ 496 q) ∧ Tl σ σ' := by
  have w2 := wP
  obtain ⟨bP, ⟨m, hm', hm8⟩, ⟨n, hn, hn3⟩, -⟩ := w2
  have n3 : P 0 4 ≤ 3 := by omega
  have n8 : P 0 5 ≤ 8 := by omega
  have hp3 : p < 3 := by omega
  have bA9 : Bd 1000000000 s.1 := bA.mono (by decide)
  have a2 : gI σ 493 (11 + 7 * p) = w32 (s.1 2 p) := hA.1 2 p (by decide) hp
  have i0 : (w32 10 + (w32 7 * w32 (p : Int))) = w32 ((10 + 7 * p : Nat) : Int) := by rw [w_mul, w_add]; congr 1
  have i1 : w32 ((10 + 7 * p : Nat) : Int) + w32 1 = w32 ((11 + 7 * p : Nat) : Int) := by rw [w_add]; congr 1; omega
  have up2 : ∀ v : Int, RepA (sI σ 493 (11 + 7 * p) (w32 v)) P (up s.1 2 p v) := fun v => hA.upd n3 n8 2 p v (by decide) hp
  have Q2 : ∀ v : Int32, RepQ (sI σ 493 (11 + 7 * p) v) K := fun v => hQ.sl (V := fun _ => False) (fun j _ => by rw [gI_nec (by decide)]) (fun j a b c h => h)
  have jr := jbs_lt (A := s.1) (K := K) wP p
  rw [hJ] at jr
  unfold m12_goesOn m12_goesOn_54 m12_goesOn_55
  dsimp only
  rw [jobNow_r hA hQ wA wP bA9 (bK 2 (by decide) (by decide)) hp3 hF, Option.bind_some, hJ, hQ.2.2.1, if_pos (by rw [hK6]; rfl), wl_10, wl_7, i0, wl_1, i1, w_natk (k := 11 + 7 * p) (by omega), w_natk (k := p) (by omega), ht, a2, w_add]
  by_cases hj : J p = -1
  · rw [if_pos (by rw [hj]; decide), gd_pos (w_inB (by omega) (by omega) (by omega))]
    unfold m12_goesOn_56
    rw [if_neg (by rw [hj]; decide)]
    refine ⟨_, rfl, ?_, ?_, fun q _ => by rw [gI_nec (by decide)], (Tl.rf _).at (by omega)⟩
    · unfold stepR
      rw [if_pos hj, if_pos hp]
      exact up2 0
    · unfold hitS
      rw [if_pos hj, gI_nec (by decide)]
      exact h0
  · have jr := jr.resolve_left hj
    obtain ⟨j, hjj⟩ : ∃ j : Nat, J p = j := ⟨(J p).toNat, by omega⟩
    have hjn : (J p).toNat = j := by omega
    have hjm : (j : Int) < P 0 5 := by omega
    have hb := hb j hjj
    have hl : 0 < s.1 6 j := by rw [← hjn]; exact jr.2.2.2
    have b1 := bA9 1 p
    have b01 := bP 0 1
    have jj2 : ∀ v, jbs P (up s.1 2 p v) K p = (j : Int) := fun v => by rw [jbs_up (by decide) (by decide), hJ, hjj]
    have bA2 : ∀ v, v = 0 ∨ v = s.1 2 p + 1 → Bd 1000000000 (up s.1 2 p v) := fun v hv => by
      have := bA 2 p
      exact bA9.up (by omega) (by omega)
    have t496 : ∀ (v : Int32) (q : Nat), gI (sI σ 493 (11 + 7 * p) v) 496 q = gI σ 496 q := fun v q => by rw [gI_nec (by decide)]
    have t494 : ∀ (v : Int32), gI (sI σ 493 (11 + 7 * p) v) 494 p = w32 (turnS P J Wl p s) := fun v => by rw [gI_nec (by decide)]; exact ht
    rw [if_neg (by rw [wl_0, w_lt (by omega) (by omega) (by omega) (by omega)]; omega), gd_pos (w_inB (by omega) (by omega) (by omega))]
    by_cases hw : Wl p = true
    · by_cases ho : okT P s.1 s.2.1 s.2.2 (J p).toNat = true
      · -- strikes
        have hst : (stepR P J Wl p s).1 = strikeA P s.1 s.2.1 p j := by unfold stepR; rw [if_neg hj, st_strike hj hw ho, hjn]
        have hhit : hitS P J Wl p s = if s.1 1 p < P 6 j then 0 else 1 := by unfold hitS; rw [if_neg hj, if_pos hw, if_pos ho, hjn]
        have htu : turnS P J Wl p s = bitsN P s.1 s.2.1 s.2.2 j := by rw [tu_strike hj hw ho, hjn]
        rw [if_neg (by rw [htu, wl_0, w_eq (by omega) (by omega) (by omega) (by omega)]; omega), gd_pos (w_inB (by omega) (by omega) (by omega)), hjj, show (0 : Int32) = w32 0 from rfl, goes56_r (up2 0) (Q2 _) wA.up2 wP (bA2 0 (Or.inl rfl)) bK hp (jj2 0) (t494 _) (by rw [htu]; omega) (by rw [htu]; omega) hF]
        unfold m12_goesOn_123
        dsimp only
        rw [gd_pos (w_inB (by omega) (by omega) (by omega)), w_natk (k := 10 + 7 * p) (by omega), gd_pos (w_inB (by omega) (by omega) (by omega)), w_natk (k := p) (by omega), gI_nec (show (494 : Nat) ≠ 493 by decide), t494, if_neg (by rw [htu, wl_0, w_eq (by omega) (by omega) (by omega) (by omega)]; omega)]
        have e1 : up s.1 2 p 0 1 p = s.1 1 p := by rw [up_at, if_neg (by omega)]
        rw [e1]
        have A3 := (up2 0).upd n3 n8 1 p (max 0 (s.1 1 p - P 0 1)) (by decide) hp
        have Q3 : RepQ (sI (sI σ 493 (11 + 7 * p) (w32 0)) 493 (10 + 7 * p) (w32 (max 0 (s.1 1 p - P 0 1)))) K := (Q2 _).sl (V := fun _ => False) (fun j _ => by rw [gI_nec (by decide)]) (fun j a b c h => h)
        obtain ⟨σ', m1, A4, g1, g2, g3⟩ := strikes_r (F := F) (hot := decide (P 6 j ≤ s.1 1 p)) (K := K) A3 Q3 wP bA9 hK6 hp hjm rfl hl hm (by rw [gI_nec (by decide), t496]; exact h0)
        have hsk : strikeA P s.1 K p j = strikeA P s.1 s.2.1 p j := by unfold strikeA; rw [hs6]
        refine ⟨σ', ?_, ?_, ?_, fun q hq => ?_, Tl.trans (((Tl.rf _).at (by omega)).at (by show 10 + 7 * p < 98; omega)) g3⟩
        · simp only [sidx] at m1
          rw [m1, Option.bind_some]
        · rw [hst, ← hsk]; exact A4
        · rw [hhit]; exact g1
        · rw [g2 q hq, gI_nec (by decide), t496]
      · have ho : okT P s.1 s.2.1 s.2.2 (J p).toNat = false := by simpa using ho
        have hst : (stepR P J Wl p s).1 = waitA P s.1 p := by unfold stepR; rw [if_neg hj, st_wait hj hw ho]
        have hhit : hitS P J Wl p s = 0 := by unfold hitS; rw [if_neg hj, if_pos hw, ho]; rfl
        have htu : turnS P J Wl p s = 0 := tu_wait hj hw ho
        rw [if_pos (by rw [htu]; rfl), gd_pos (w_inB (by omega) (by omega) (by omega)), hjj, goes56_r (up2 _) (Q2 _) wA.up2 wP (bA2 _ (Or.inr rfl)) bK hp (jj2 _) (t494 _) (by rw [htu]; decide) (by rw [htu]; decide) hF]
        unfold m12_goesOn_123
        dsimp only
        rw [gd_pos (w_inB (by omega) (by omega) (by omega)), w_natk (k := 10 + 7 * p) (by omega), gd_pos (w_inB (by omega) (by omega) (by omega)), w_natk (k := p) (by omega), gI_nec (show (494 : Nat) ≠ 493 by decide), t494, if_pos (by rw [htu]; rfl), gd_pos (w_inB (by omega) (by omega) (by omega))]
        have e1 : up s.1 2 p (s.1 2 p + 1) 1 p = s.1 1 p := by rw [up_at, if_neg (by omega)]
        rw [e1, hst, hhit]
        refine ⟨_, rfl, (up2 _).upd n3 n8 1 p _ (by decide) hp, ?_, fun q _ => ?_, ((Tl.rf _).at (by omega)).at (by show 10 + 7 * p < 98; omega)⟩
        · rw [gI_nec (by decide), t496]; exact h0
        · rw [gI_nec (by decide), t496]
    · have hw : Wl p = false := by simpa using hw
      have hst : (stepR P J Wl p s).1 = heatA P s.1 s.2.1 p j := by unfold stepR; rw [if_neg hj, st_heat hj hw, hjn]
      have hhit : hitS P J Wl p s = 0 := by unfold hitS; rw [if_neg hj, hw]; rfl
      have htu : turnS P J Wl p s = 16 := tu_heat hj hw
      rw [if_neg (by rw [htu]; decide), gd_pos (w_inB (by omega) (by omega) (by omega)), hjj]
      unfold m12_goesOn_56
      rw [if_pos (by rw [wl_0, w_le (by omega) (by omega) (by omega) (by omega)]; omega), gd_pos (w_inB (by omega) (by omega) (by omega)), w_natk (k := p) (by omega), show (0 : Int32) = w32 0 from rfl, t494, if_pos (by rw [htu]; rfl)]
      obtain ⟨σ', m1, A4, f4, f5⟩ := heats_r (F := F) (up2 0) (Q2 _) wP bA9 hK6 (bK 5 (by decide) (by decide)) hp hjm (wA.2.1 p hp).2
      have hsk : heatA P s.1 K p j = heatA P s.1 s.2.1 p j := by unfold heatA; rw [hs5]
      rw [m1, Option.bind_some]
      refine ⟨σ', rfl, ?_, ?_, fun q _ => ?_, Tl.trans ((Tl.rf _).at (by omega)) f5⟩
      · rw [hst, ← hsk]; exact A4
      · rw [hhit, f4.gI (by decide), t496]; exact h0
      · rw [f4.gI (by decide), t496]
