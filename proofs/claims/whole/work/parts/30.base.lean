/-! THE PURE SIDE, 1: numbers -/
def w32 (z : Int) : Int32 := Int32.ofInt z
theorem w_of (x : Int32) : w32 x.toInt = x := Int32.ofInt_toInt x
theorem w_add (a b : Int) : w32 a + w32 b = w32 (a + b) := (Int32.ofInt_add a b).symm
theorem w_sub (a b : Int) : w32 a - w32 b = w32 (a - b) := (Int32.ofInt_sub a b).symm
theorem w_mul (a b : Int) : w32 a * w32 b = w32 (a * b) := (Int32.ofInt_mul a b).symm
theorem w_neg (a : Int) : -w32 a = w32 (-a) := (Int32.ofInt_neg a).symm
theorem w_lit (n : Nat) : (no_index (OfNat.ofNat n) : Int32) = w32 (n : Int) := Int32.ofInt_eq_ofNat.symm
theorem w_toInt {a : Int} (h1 : -2147483648 ≤ a) (h2 : a ≤ 2147483647) : (w32 a).toInt = a := Int32.toInt_ofInt_of_le (by omega) (by omega)
theorem w_lt {a b : Int} (h1 : -2147483648 ≤ a) (h2 : a ≤ 2147483647) (h3 : -2147483648 ≤ b) (h4 : b ≤ 2147483647) : (w32 a < w32 b) = (a < b) := by
  rw [Int32.lt_iff_toInt_lt, w_toInt h1 h2, w_toInt h3 h4]
theorem w_le {a b : Int} (h1 : -2147483648 ≤ a) (h2 : a ≤ 2147483647) (h3 : -2147483648 ≤ b) (h4 : b ≤ 2147483647) : (w32 a ≤ w32 b) = (a ≤ b) := by
  rw [Int32.le_iff_toInt_le, w_toInt h1 h2, w_toInt h3 h4]
theorem w_eq {a b : Int} (h1 : -2147483648 ≤ a) (h2 : a ≤ 2147483647) (h3 : -2147483648 ≤ b) (h4 : b ≤ 2147483647) : (w32 a = w32 b) = (a = b) := by
  apply propext
  constructor
  · intro h
    have := congrArg Int32.toInt h
    rwa [w_toInt h1 h2, w_toInt h3 h4] at this
  · intro h; rw [h]
theorem w_nat {a : Int} (h1 : 0 ≤ a) (h2 : a ≤ 2147483647) : (w32 a).toNatClampNeg = a.toNat := by
  rw [← Int32.toNat_toInt, w_toInt (by omega) h2]
theorem w_natk {k : Nat} (h2 : k ≤ 2147483647) : (w32 (k : Int)).toNatClampNeg = k := by
  rw [w_nat (by omega) (by omega)]; rfl
theorem w_inB {a : Int} {n : Nat} (h1 : 0 ≤ a) (h2 : a < n) (h3 : n ≤ 2147483647) : inB (w32 a) n = true := by
  unfold inB
  refine decide_eq_true ?_
  have e : (0 : Int32) = w32 0 := rfl
  rw [e, w_lt (by omega) (by omega) (by omega) (by omega), w_nat h1 (by omega)]
  omega
theorem w_long {a : Int} (h1 : -2147483648 ≤ a) (h2 : a ≤ 2147483647) : (w32 a).toInt64 = Int64.ofInt a := by
  unfold w32
  exact Int32.toInt64_ofInt (show Int32.minValue.toInt ≤ a from h1) (show a ≤ Int32.maxValue.toInt from h2)
theorem nI_w (n : Nat) : nI n = w32 (n : Int) := by
  unfold nI
  exact Int32.ofInt_eq_ofNat.symm
theorem gd_T {α : Type} {d : Decidable True} (x : Option α) : @gd α True d x = x := by
  unfold gd
  exact if_pos trivial
theorem gd_pos {α : Type} {c : Prop} {d : Decidable c} (h : c) (x : Option α) : @gd α c d x = x := by
  unfold gd
  exact if_pos h
theorem mxI_w {a b : Int} (h1 : -2147483648 ≤ a) (h2 : a ≤ 2147483647) (h3 : -2147483648 ≤ b) (h4 : b ≤ 2147483647) : mxI (w32 a) (w32 b) = w32 (max a b) := by
  unfold mxI
  simp only [w_lt h1 h2 h3 h4]
  split
  · rw [Int.max_eq_right (by omega)]
  · rw [Int.max_eq_left (by omega)]
theorem mnI_w {a b : Int} (h1 : -2147483648 ≤ a) (h2 : a ≤ 2147483647) (h3 : -2147483648 ≤ b) (h4 : b ≤ 2147483647) : mnI (w32 a) (w32 b) = w32 (min a b) := by
  unfold mnI
  simp only [w_lt h3 h4 h1 h2]
  split
  · rw [Int.min_eq_right (by omega)]
  · rw [Int.min_eq_left (by omega)]
theorem tn_0 : Int.toNat 0 = 0 := rfl
theorem tn_1 : Int.toNat 1 = 1 := rfl
theorem tn_2 : Int.toNat 2 = 2 := rfl
theorem tn_3 : Int.toNat 3 = 3 := rfl
theorem tn_4 : Int.toNat 4 = 4 := rfl
theorem tn_5 : Int.toNat 5 = 5 := rfl
theorem tn_6 : Int.toNat 6 = 6 := rfl
theorem tn_7 : Int.toNat 7 = 7 := rfl
theorem tn_8 : Int.toNat 8 = 8 := rfl
theorem tn_9 : Int.toNat 9 = 9 := rfl
theorem tn_10 : Int.toNat 10 = 10 := rfl
theorem tn_11 : Int.toNat 11 = 11 := rfl
theorem tn_12 : Int.toNat 12 = 12 := rfl
theorem tn_13 : Int.toNat 13 = 13 := rfl
theorem tn_14 : Int.toNat 14 = 14 := rfl
theorem tn_15 : Int.toNat 15 = 15 := rfl
theorem tn_16 : Int.toNat 16 = 16 := rfl
theorem tn_20 : Int.toNat 20 = 20 := rfl
theorem tn_24 : Int.toNat 24 = 24 := rfl
theorem tn_26 : Int.toNat 26 = 26 := rfl
theorem tn_30 : Int.toNat 30 = 30 := rfl
theorem tn_31 : Int.toNat 31 = 31 := rfl
theorem tn_32 : Int.toNat 32 = 32 := rfl
theorem tn_40 : Int.toNat 40 = 40 := rfl
theorem tn_41 : Int.toNat 41 = 41 := rfl
theorem tn_47 : Int.toNat 47 = 47 := rfl
theorem tn_48 : Int.toNat 48 = 48 := rfl
theorem tn_50 : Int.toNat 50 = 50 := rfl
theorem tn_58 : Int.toNat 58 = 58 := rfl
theorem tn_59 : Int.toNat 59 = 59 := rfl
theorem tn_60 : Int.toNat 60 = 60 := rfl
theorem tn_61 : Int.toNat 61 = 61 := rfl
theorem tn_64 : Int.toNat 64 = 64 := rfl
theorem tn_91 : Int.toNat 91 = 91 := rfl
theorem tn_93 : Int.toNat 93 = 93 := rfl
theorem tn_95 : Int.toNat 95 = 95 := rfl
theorem tn_97 : Int.toNat 97 = 97 := rfl
theorem tn_98 : Int.toNat 98 = 98 := rfl
theorem tn_99 : Int.toNat 99 = 99 := rfl
theorem tn_100 : Int.toNat 100 = 100 := rfl
theorem tn_101 : Int.toNat 101 = 101 := rfl
theorem tn_122 : Int.toNat 122 = 122 := rfl
theorem tn_131 : Int.toNat 131 = 131 := rfl
theorem tn_132 : Int.toNat 132 = 132 := rfl
theorem wl_0 : (0 : Int32) = w32 (0) := rfl
theorem wl_1 : (1 : Int32) = w32 (1) := rfl
theorem wl_2 : (2 : Int32) = w32 (2) := rfl
theorem wl_3 : (3 : Int32) = w32 (3) := rfl
theorem wl_4 : (4 : Int32) = w32 (4) := rfl
theorem wl_5 : (5 : Int32) = w32 (5) := rfl
theorem wl_6 : (6 : Int32) = w32 (6) := rfl
theorem wl_7 : (7 : Int32) = w32 (7) := rfl
theorem wl_8 : (8 : Int32) = w32 (8) := rfl
theorem wl_9 : (9 : Int32) = w32 (9) := rfl
theorem wl_10 : (10 : Int32) = w32 (10) := rfl
theorem wl_11 : (11 : Int32) = w32 (11) := rfl
theorem wl_12 : (12 : Int32) = w32 (12) := rfl
theorem wl_13 : (13 : Int32) = w32 (13) := rfl
theorem wl_14 : (14 : Int32) = w32 (14) := rfl
theorem wl_15 : (15 : Int32) = w32 (15) := rfl
theorem wl_16 : (16 : Int32) = w32 (16) := rfl
theorem wl_20 : (20 : Int32) = w32 (20) := rfl
theorem wl_24 : (24 : Int32) = w32 (24) := rfl
theorem wl_26 : (26 : Int32) = w32 (26) := rfl
theorem wl_30 : (30 : Int32) = w32 (30) := rfl
theorem wl_31 : (31 : Int32) = w32 (31) := rfl
theorem wl_32 : (32 : Int32) = w32 (32) := rfl
theorem wl_40 : (40 : Int32) = w32 (40) := rfl
theorem wl_41 : (41 : Int32) = w32 (41) := rfl
theorem wl_47 : (47 : Int32) = w32 (47) := rfl
theorem wl_48 : (48 : Int32) = w32 (48) := rfl
theorem wl_50 : (50 : Int32) = w32 (50) := rfl
theorem wl_58 : (58 : Int32) = w32 (58) := rfl
theorem wl_59 : (59 : Int32) = w32 (59) := rfl
theorem wl_60 : (60 : Int32) = w32 (60) := rfl
theorem wl_61 : (61 : Int32) = w32 (61) := rfl
theorem wl_64 : (64 : Int32) = w32 (64) := rfl
theorem wl_91 : (91 : Int32) = w32 (91) := rfl
theorem wl_93 : (93 : Int32) = w32 (93) := rfl
theorem wl_95 : (95 : Int32) = w32 (95) := rfl
theorem wl_97 : (97 : Int32) = w32 (97) := rfl
theorem wl_98 : (98 : Int32) = w32 (98) := rfl
theorem wl_99 : (99 : Int32) = w32 (99) := rfl
theorem wl_100 : (100 : Int32) = w32 (100) := rfl
theorem wl_101 : (101 : Int32) = w32 (101) := rfl
theorem wl_122 : (122 : Int32) = w32 (122) := rfl
theorem wl_131 : (131 : Int32) = w32 (131) := rfl
theorem wl_132 : (132 : Int32) = w32 (132) := rfl
theorem wl_200 : (200 : Int32) = w32 (200) := rfl
theorem wl_255 : (255 : Int32) = w32 (255) := rfl
theorem wl_400 : (400 : Int32) = w32 (400) := rfl
theorem wl_500 : (500 : Int32) = w32 (500) := rfl
theorem wl_501 : (501 : Int32) = w32 (501) := rfl
theorem wl_999 : (999 : Int32) = w32 (999) := rfl
theorem wl_1960 : (1960 : Int32) = w32 (1960) := rfl
theorem wl_9999 : (9999 : Int32) = w32 (9999) := rfl
theorem wl_99999 : (99999 : Int32) = w32 (99999) := rfl
theorem wl_4000000 : (4000000 : Int32) = w32 (4000000) := rfl
theorem wl_m1 : (-1 : Int32) = w32 (-1) := rfl
theorem wl_m2 : (-2 : Int32) = w32 (-2) := rfl
theorem wl_m3 : (-3 : Int32) = w32 (-3) := rfl
theorem wl_m8 : (-8 : Int32) = w32 (-8) := rfl
theorem wl_m20 : (-20 : Int32) = w32 (-20) := rfl
theorem wl_m21 : (-21 : Int32) = w32 (-21) := rfl
theorem wl_m22 : (-22 : Int32) = w32 (-22) := rfl
theorem wl_m23 : (-23 : Int32) = w32 (-23) := rfl
theorem wl_m24 : (-24 : Int32) = w32 (-24) := rfl
theorem wl_m25 : (-25 : Int32) = w32 (-25) := rfl
theorem wl_m26 : (-26 : Int32) = w32 (-26) := rfl
theorem wl_m27 : (-27 : Int32) = w32 (-27) := rfl
theorem wl_m28 : (-28 : Int32) = w32 (-28) := rfl
theorem wl_m29 : (-29 : Int32) = w32 (-29) := rfl
theorem wl_m30 : (-30 : Int32) = w32 (-30) := rfl
theorem wl_m31 : (-31 : Int32) = w32 (-31) := rfl
theorem wl_m32 : (-32 : Int32) = w32 (-32) := rfl
theorem wl_m100000 : (-100000 : Int32) = w32 (-100000) := rfl
/-! memory -/
theorem gI_sI (σ : Mem) (c j c' j' : Nat) (v : Int32) : gI (sI σ c j v) c' j' = if c' = c ∧ j' = j then v else gI σ c' j' := by obtain ⟨a, b, d⟩ := σ; rfl
theorem gI_sL (σ : Mem) (c j c' : Nat) (v : Int64) : gI (sL σ c j v) c' = gI σ c' := by obtain ⟨a, b, d⟩ := σ; rfl
theorem gL_sI (σ : Mem) (c j c' : Nat) (v : Int32) : gL (sI σ c j v) c' = gL σ c' := by obtain ⟨a, b, d⟩ := σ; rfl
theorem gL_sL (σ : Mem) (c j c' j' : Nat) (v : Int64) : gL (sL σ c j v) c' j' = if c' = c ∧ j' = j then v else gL σ c' j' := by obtain ⟨a, b, d⟩ := σ; rfl
theorem gR_sI (σ : Mem) (c j : Nat) (v : Int32) : gR (sI σ c j v) = gR σ := by obtain ⟨a, b, d⟩ := σ; rfl
theorem gR_sL (σ : Mem) (c j : Nat) (v : Int64) : gR (sL σ c j v) = gR σ := by obtain ⟨a, b, d⟩ := σ; rfl
theorem gR_sR (σ : Mem) (v : Nat) : gR (sR σ v) = v := by obtain ⟨a, b, d⟩ := σ; rfl
theorem gI_sR (σ : Mem) (v c : Nat) : gI (sR σ v) c = gI σ c := by obtain ⟨a, b, d⟩ := σ; rfl
theorem gL_sR (σ : Mem) (v c : Nat) : gL (sR σ v) c = gL σ c := by obtain ⟨a, b, d⟩ := σ; rfl
theorem gI_eq (σ : Mem) (c j : Nat) (v : Int32) : gI (sI σ c j v) c j = v := by rw [gI_sI, if_pos ⟨rfl, rfl⟩]
theorem gI_nec {c c' : Nat} {j j' : Nat} {σ : Mem} {v : Int32} (h : c' ≠ c) : gI (sI σ c j v) c' j' = gI σ c' j' := by
  rw [gI_sI, if_neg (fun q => h q.1)]
theorem gI_nej {c c' : Nat} {j j' : Nat} {σ : Mem} {v : Int32} (h : j' ≠ j) : gI (sI σ c j v) c' j' = gI σ c' j' := by
  rw [gI_sI, if_neg (fun q => h q.2)]
theorem gI_ne {c c' : Nat} (σ : Mem) (j : Nat) (v : Int32) (h : c' ≠ c) : gI (sI σ c j v) c' = gI σ c' := by
  funext j'
  rw [gI_sI, if_neg (fun q => h q.1)]
theorem gI_nj {c c' j j' : Nat} (σ : Mem) (v : Int32) (h : j' ≠ j) : gI (sI σ c j v) c' j' = gI σ c' j' := by
  rw [gI_sI, if_neg (fun q => h q.2)]
theorem gL_ne {c c' : Nat} (σ : Mem) (j : Nat) (v : Int64) (h : c' ≠ c) : gL (sL σ c j v) c' = gL σ c' := by
  funext j'
  rw [gL_sL, if_neg (fun q => h q.1)]
theorem mem_ext {σ σ' : Mem} (h1 : ∀ c j, gI σ c j = gI σ' c j) (h2 : ∀ c j, gL σ c j = gL σ' c j) (h3 : gR σ = gR σ') : σ = σ' := by
  obtain ⟨a, b, c⟩ := σ
  obtain ⟨a', b', c'⟩ := σ'
  have e1 : a = a' := funext fun x => funext fun y => h1 x y
  have e2 : b = b' := funext fun x => funext fun y => h2 x y
  have e3 : c = c' := h3
  rw [e1, e2, e3]
theorem Fr.gI {W : Nat → Prop} {σ σ' : Mem} (h : Fr W σ σ') {c : Nat} (hc : ¬ W c) : gI σ' c = gI σ c := (h.1 c hc).1
theorem Fr.gL {W : Nat → Prop} {σ σ' : Mem} (h : Fr W σ σ') {c : Nat} (hc : ¬ W c) : gL σ' c = gL σ c := (h.1 c hc).2
theorem Fr.gR {W : Nat → Prop} {σ σ' : Mem} (h : Fr W σ σ') (hc : ¬ W 1000) : gR σ' = gR σ := h.2 hc
/-! abstract data: functions of a row and a place -/
abbrev Dat : Type := Nat → Nat → Int
def up (A : Dat) (i j : Nat) (v : Int) : Dat := fun i' j' => if i' = i ∧ j' = j then v else A i' j'
theorem up_eq (A : Dat) (i j : Nat) (v : Int) : up A i j v i j = v := if_pos ⟨rfl, rfl⟩
theorem up_at (A : Dat) (i j i' j' : Nat) (v : Int) : up A i j v i' j' = if i' = i ∧ j' = j then v else A i' j' := rfl
/-- a state at the cell c: moment; heat, waits, done, burnt, cold; left, since, rank; wear -/
def slen (i : Nat) : Nat := if i = 0 then 1 else if i ≤ 5 then 3 else if i ≤ 8 then 8 else 4
def RepS (c : Nat) (σ : Mem) (A : Dat) : Prop := ∀ i, i ≤ 9 → ∀ j, j < slen i → gI σ (c + i) j = w32 (A i j)
/-- a plan at the cell c: told, cool, burn, strength, smiths, jobs; quick; owner, part, bits, blows, need, pay; used -/
def plen (i : Nat) : Nat := if i = 0 then 6 else if i = 1 then 3 else if i ≤ 7 then 8 else 3
def RepP (c : Nat) (σ : Mem) (P : Dat) : Prop := ∀ i, i ≤ 8 → ∀ j, j < plen i → gI σ (c + i) j = w32 (P i j)
theorem RepS.fr {W : Nat → Prop} {σ σ' : Mem} {c : Nat} {A : Dat} (h : RepS c σ A) (f : Fr W σ σ') (hw : ∀ i, i ≤ 9 → ¬ W (c + i)) : RepS c σ' A := fun i hi j hj => by rw [f.gI (hw i hi)]; exact h i hi j hj
theorem RepP.fr {W : Nat → Prop} {σ σ' : Mem} {c : Nat} {A : Dat} (h : RepP c σ A) (f : Fr W σ σ') (hw : ∀ i, i ≤ 8 → ¬ W (c + i)) : RepP c σ' A := fun i hi j hj => by rw [f.gI (hw i hi)]; exact h i hi j hj
theorem RepS.up {c : Nat} {σ : Mem} {A : Dat} (h : RepS c σ A) (i j : Nat) (v : Int) : RepS c (sI σ (c + i) j (w32 v)) (up A i j v) := fun i' hi j' hj => by
  rw [gI_sI, up_at]
  by_cases q : i' = i ∧ j' = j
  · rw [if_pos ⟨by omega, q.2⟩, if_pos q]
  · rw [if_neg (fun z => q ⟨by omega, z.2⟩), if_neg q]
    exact h i' hi j' hj
theorem RepS.ne {c : Nat} {σ : Mem} {A : Dat} (h : RepS c σ A) {c' j : Nat} {v : Int32} (hc : c' < c ∨ c + 9 < c') : RepS c (sI σ c' j v) A := fun i' hi j' hj => by
  rw [gI_nec (by omega)]
  exact h i' hi j' hj
theorem RepP.ne {c : Nat} {σ : Mem} {A : Dat} (h : RepP c σ A) {c' j : Nat} {v : Int32} (hc : c' < c ∨ c + 8 < c') : RepP c (sI σ c' j v) A := fun i' hi j' hj => by
  rw [gI_nec (by omega)]
  exact h i' hi j' hj
theorem RepS_hi {c : Nat} {σ : Mem} {A : Dat} (h : RepS c σ A) {i j : Nat} {v : Int} (hi : 10 ≤ i) : RepS c σ (up A i j v) := fun i' hi' j' hj => by
  rw [up_at, if_neg (fun q => by omega)]
  exact h i' hi' j' hj
