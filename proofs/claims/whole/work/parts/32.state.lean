/-! THE CLASS'S STATES AND PLANS -/
theorem RepS.at {c : Nat} {σ : Mem} {A : Dat} (h : RepS c σ A) (i j : Nat) (hi : i ≤ 9 := by decide) (hj : j < slen i := by first | decide | (show _ < 3; omega) | (show _ < 8; omega) | (show _ < 4; omega)) : gI σ (c + i) j = w32 (A i j) := h i hi j hj
theorem RepP.at {c : Nat} {σ : Mem} {A : Dat} (h : RepP c σ A) (i j : Nat) (hi : i ≤ 8 := by decide) (hj : j < plen i := by first | decide | (show _ < 3; omega) | (show _ < 8; omega) | (show _ < 6; omega)) : gI σ (c + i) j = w32 (A i j) := h i hi j hj
/-- all numbers small -/
def Bd (B : Int) (A : Dat) : Prop := ∀ i j, -B ≤ A i j ∧ A i j ≤ B
theorem Bd.mono {B C : Int} {A : Dat} (h : Bd B A) (hB : B ≤ C) : Bd C A := fun i j => ⟨by have := h i j; omega, by have := h i j; omega⟩
theorem Bd.up {B : Int} {A : Dat} {i j : Nat} {v : Int} (h : Bd B A) (h1 : -B ≤ v) (h2 : v ≤ B) : Bd B (up A i j v) := fun i' j' => by
  rw [up_at]
  split
  · exact ⟨h1, h2⟩
  · exact h i' j'
/-- is this job to do by this smith -/
def opn (P A : Dat) (p : Int) (j : Nat) : Bool := decide (P 2 j = p) && decide (0 < A 6 j)
theorem isToDo_ok {F c0 c1 : Nat} {σ : Mem} {P A : Dat} {p : Int} {j : Nat} (hP : RepP c1 σ P) (hS : RepS c0 σ A) (bP : Bd 1000000000 P) (bA : Bd 1000000000 A) (hp : -1000 ≤ p ∧ p ≤ 1000) (hj : j < 8) : m7_isToDo F c0 c1 (w32 p) (w32 (j : Int)) σ = some (if opn P A p j then (1 : Int32) else 0) := by
  have e1 := hP.at 2 j
  have e2 := hS.at 6 j
  have b1 := bP 2 j
  have b2 := bA 6 j
  unfold m7_isToDo opn
  simp (disch := omega) only [wl_0, wl_1, wl_2, wl_3, wl_4, wl_5, wl_6, wl_7, wl_8, wl_9, wl_10, wl_11, wl_12, wl_13, wl_14, wl_15, wl_16, wl_20, wl_24, wl_26, wl_30, wl_31, wl_32, wl_40, wl_41, wl_47, wl_48, wl_50, wl_58, wl_59, wl_60, wl_61, wl_64, wl_91, wl_93, wl_95, wl_97, wl_98, wl_99, wl_100, wl_101, wl_122, wl_131, wl_132, wl_200, wl_255, wl_400, wl_500, wl_501, wl_999, wl_1960, wl_9999, wl_99999, wl_4000000, wl_m1, wl_m2, wl_m3, wl_m8, wl_m20, wl_m21, wl_m22, wl_m23, wl_m24, wl_m25, wl_m26, wl_m27, wl_m28, wl_m29, wl_m30, wl_m31, wl_m32, wl_m100000, w_add, w_sub, w_mul, w_neg, w_eq, w_lt, w_le, w_natk, w_nat, Int.toNat_natCast, tn_0, tn_1, tn_2, tn_3, tn_4, tn_5, tn_6, tn_7, tn_8, tn_9, tn_10, tn_11, tn_12, tn_13, tn_14, tn_15, tn_16, tn_20, tn_24, tn_26, tn_30, tn_31, tn_32, tn_40, tn_41, tn_47, tn_48, tn_50, tn_58, tn_59, tn_60, tn_61, tn_64, tn_91, tn_93, tn_95, tn_97, tn_98, tn_99, tn_100, tn_101, tn_122, tn_131, tn_132, w_inB, gd_T, Option.bind_some, ↓reduceIte, if_true, if_false, ite_true, ite_false, e1, e2]
  by_cases h1 : P 2 j = p
  · by_cases h2 : A 6 j ≤ 0
    · simp [h1, h2]; omega
    · simp [h1, h2]
      first | done | omega
  · simp [h1]
def toDoL (P A : Dat) (p : Int) : Nat → Nat → Int → Int
  | 0, _, s => s
  | d + 1, j, s => toDoL P A p d (j + 1) (if opn P A p j then s + 1 else s)
def toDoN (P A : Dat) (p : Int) : Int := toDoL P A p (P 0 5).toNat 0 0
theorem toDo_ok {F c0 c1 : Nat} {σ : Mem} {P A : Dat} {p : Int} {m : Nat} (hP : RepP c1 σ P) (hS : RepS c0 σ A) (bP : Bd 1000000000 P) (bA : Bd 1000000000 A) (hp : -1000 ≤ p ∧ p ≤ 1000) (hm : P 0 5 = (m : Int)) (hm8 : m ≤ 8) (hF : 100 ≤ F) : m7_toDo F c0 c1 (w32 p) σ = some (w32 (toDoN P A p)) := by
  have e5 : gI σ c1 5 = w32 (P 0 5) := hP.at 0 5
  have loop : ∀ d n j s, j + d = m → d < n → m7_toDo_5 F c0 c1 (w32 p) σ n (w32 s) (w32 (j : Int)) = some (w32 (toDoL P A p d j s)) := by
    intro d
    induction d with
    | zero =>
      intro n j s h1 h2
      obtain ⟨n, rfl⟩ : ∃ k, n = k + 1 := ⟨n - 1, by omega⟩
      unfold m7_toDo_5
      rw [e5, hm, if_pos (by rw [w_le (by omega) (by omega) (by omega) (by omega)]; omega)]
      rfl
    | succ d ih =>
      intro n j s h1 h2
      obtain ⟨n, rfl⟩ : ∃ k, n = k + 1 := ⟨n - 1, by omega⟩
      unfold m7_toDo_5
      rw [e5, hm, if_neg (by rw [w_le (by omega) (by omega) (by omega) (by omega)]; omega), isToDo_ok hP hS bP bA hp (by omega), Option.bind_some, w_succ]
      unfold toDoL
      by_cases h : opn P A p j = true
      · rw [if_pos h, if_neg (by decide), wl_1, w_add, if_pos h]
        exact ih n (j + 1) _ (by omega) (by omega)
      · rw [if_neg h, if_pos rfl, wl_0, w_add, if_neg h, Int.add_zero]
        exact ih n (j + 1) _ (by omega) (by omega)
  unfold m7_toDo toDoN
  rw [hm, show ((m : Int)).toNat = m from rfl]
  exact loop m F 0 0 (by omega) (by omega)
def jobL (P A : Dat) (p : Int) : Nat → Nat → Int → Int
  | 0, _, f => f
  | d + 1, j, f => jobL P A p d (j + 1) (if opn P A p j && (decide (f = -1) || decide (A 8 j < A 8 f.toNat)) then (j : Int) else f)
def jobN (P A : Dat) (p : Int) : Int := jobL P A p (P 0 5).toNat 0 (-1)
theorem jobL_ok {F c0 c1 : Nat} {σ : Mem} {P A : Dat} {p : Int} {m : Nat} (hP : RepP c1 σ P) (hS : RepS c0 σ A) (bP : Bd 1000000000 P) (bA : Bd 1000000000 A) (hp : -1000 ≤ p ∧ p ≤ 1000) (hm : P 0 5 = (m : Int)) (hm8 : m ≤ 8) : ∀ d n j f, j + d = m → d < n → -1 ≤ f → f < (j : Int) → m7_jobOf_5 F c0 c1 (w32 p) σ n (w32 f) (w32 (j : Int)) = some (w32 (jobL P A p d j f)) := by
  have e5 : gI σ c1 5 = w32 (P 0 5) := hP.at 0 5
  intro d
  induction d with
  | zero =>
    intro n j f h1 h2 h3 h4
    obtain ⟨n, rfl⟩ : ∃ k, n = k + 1 := ⟨n - 1, by omega⟩
    unfold m7_jobOf_5
    rw [e5, hm, if_pos (by rw [w_le (by omega) (by omega) (by omega) (by omega)]; omega)]
    rfl
  | succ d ih =>
    intro n j f h1 h2 h3 h4
    obtain ⟨n, rfl⟩ : ∃ k, n = k + 1 := ⟨n - 1, by omega⟩
    unfold m7_jobOf_5 jobL
    rw [e5, hm, if_neg (by rw [w_le (by omega) (by omega) (by omega) (by omega)]; omega), isToDo_ok hP hS bP bA hp (by omega), Option.bind_some, w_succ]
    by_cases h : opn P A p j = true
    · rw [if_pos h, if_neg (by decide), h, Bool.true_and]
      by_cases hf : f = -1
      · rw [if_pos (by rw [hf]; rfl), if_pos (by simp [hf])]
        exact ih n (j + 1) _ (by omega) (by omega) (by omega) (by omega)
      · have e1 := hS.at 8 j
        have e2 := hS.at 8 f.toNat
        have b1 := bA 8 j
        have b2 := bA 8 f.toNat
        rw [if_neg (by rw [wl_m1, w_eq (by omega) (by omega) (by omega) (by omega)]; exact hf), gd_pos (w_inB (by omega) (by omega) (by omega)), gd_pos (w_inB (by omega) (by omega) (by omega)), w_natk (by omega), w_nat (by omega) (by omega), e1, e2]
        simp (disch := omega) only [w_le]
        by_cases hr : A 8 j < A 8 f.toNat
        · rw [if_neg (by omega), if_pos (by simp [hr])]
          exact ih n (j + 1) _ (by omega) (by omega) (by omega) (by omega)
        · rw [if_pos (by omega), if_neg (by simp [hf, hr])]
          exact ih n (j + 1) _ (by omega) (by omega) (by omega) (by omega)
    · rw [if_neg h, if_pos rfl, if_neg (by simp [h])]
      exact ih n (j + 1) _ (by omega) (by omega) (by omega) (by omega)
theorem jobOf_ok {F c0 c1 : Nat} {σ : Mem} {P A : Dat} {p : Int} {m : Nat} (hP : RepP c1 σ P) (hS : RepS c0 σ A) (bP : Bd 1000000000 P) (bA : Bd 1000000000 A) (hp : -1000 ≤ p ∧ p ≤ 1000) (hm : P 0 5 = (m : Int)) (hm8 : m ≤ 8) (hF : 100 ≤ F) : m7_jobOf F c0 c1 (w32 p) σ = some (w32 (jobN P A p)) := by
  unfold m7_jobOf jobN
  rw [hm, show ((m : Int)).toNat = m from rfl]
  exact jobL_ok hP hS bP bA hp hm hm8 m F 0 (-1) (by omega) (by omega) (by omega) (by omega)
theorem jobL_rg {P A : Dat} {p : Int} : ∀ (d j : Nat) (f : Int), -1 ≤ f → f < (j : Int) → -1 ≤ jobL P A p d j f ∧ jobL P A p d j f < (j + d : Nat) ∧ (0 ≤ jobL P A p d j f → (jobL P A p d j f = f ∨ opn P A p (jobL P A p d j f).toNat = true)) := by
  intro d
  induction d with
  | zero => intro j f h1 h2; exact ⟨h1, h2, fun _ => Or.inl rfl⟩
  | succ d ih =>
    intro j f h1 h2
    unfold jobL
    by_cases h : (opn P A p j && (decide (f = -1) || decide (A 8 j < A 8 f.toNat))) = true
    · rw [if_pos h]
      obtain ⟨a, b, c⟩ := ih (j + 1) (j : Int) (by omega) (by omega)
      refine ⟨a, by omega, fun h0 => Or.inr ?_⟩
      rcases c h0 with q | q
      · rw [q, Int.toNat_natCast]
        exact (Bool.and_eq_true_iff.mp h).1
      · exact q
    · rw [if_neg h]
      obtain ⟨a, b, c⟩ := ih (j + 1) f (by omega) (by omega)
      exact ⟨a, by omega, c⟩
theorem jobN_rg {P A : Dat} {p : Int} {m : Nat} (hm : P 0 5 = (m : Int)) : -1 ≤ jobN P A p ∧ jobN P A p < m ∧ (0 ≤ jobN P A p → opn P A p (jobN P A p).toNat = true) := by
  obtain ⟨a, b, c⟩ := jobL_rg (P := P) (A := A) (p := p) (P 0 5).toNat 0 (-1) (by omega) (by omega)
  refine ⟨a, by rw [hm] at b; simpa [jobN, hm] using b, fun h => ?_⟩
  rcases c h with q | q
  · unfold jobN at h; omega
  · exact q
