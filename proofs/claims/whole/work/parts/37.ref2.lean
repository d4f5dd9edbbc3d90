/-! THE REFERENCE, 2: who has which JOB -/
theorem so_0 {F p : Nat} {σ : Mem} (hp : p < 3) : m12_smithOf F (w32 (p : Int)) (0 : Int32) σ = some (gI σ 493 (10 + 7 * p)) := by
  have e : ((w32 10 + (w32 7 * w32 (p : Int))) + w32 0) = w32 ((10 + 7 * p : Nat) : Int) := by rw [w_mul, w_add, w_add]; congr 1 <;> omega
  unfold m12_smithOf
  rw [wl_7, wl_10, wl_0, e, gd_pos (w_inB (by omega) (by omega) (by omega)), w_natk (by omega)]
theorem so_1 {F p : Nat} {σ : Mem} (hp : p < 3) : m12_smithOf F (w32 (p : Int)) (1 : Int32) σ = some (gI σ 493 (11 + 7 * p)) := by
  have e : ((w32 10 + (w32 7 * w32 (p : Int))) + w32 1) = w32 ((11 + 7 * p : Nat) : Int) := by rw [w_mul, w_add, w_add]; congr 1 <;> omega
  unfold m12_smithOf
  rw [wl_7, wl_10, wl_1, e, gd_pos (w_inB (by omega) (by omega) (by omega)), w_natk (by omega)]
theorem so_2 {F p : Nat} {σ : Mem} (hp : p < 3) : m12_smithOf F (w32 (p : Int)) (2 : Int32) σ = some (gI σ 493 (12 + 7 * p)) := by
  have e : ((w32 10 + (w32 7 * w32 (p : Int))) + w32 2) = w32 ((12 + 7 * p : Nat) : Int) := by rw [w_mul, w_add, w_add]; congr 1 <;> omega
  unfold m12_smithOf
  rw [wl_7, wl_10, wl_2, e, gd_pos (w_inB (by omega) (by omega) (by omega)), w_natk (by omega)]
theorem so_3 {F p : Nat} {σ : Mem} (hp : p < 3) : m12_smithOf F (w32 (p : Int)) (3 : Int32) σ = some (gI σ 493 (13 + 7 * p)) := by
  have e : ((w32 10 + (w32 7 * w32 (p : Int))) + w32 3) = w32 ((13 + 7 * p : Nat) : Int) := by rw [w_mul, w_add, w_add]; congr 1 <;> omega
  unfold m12_smithOf
  rw [wl_7, wl_10, wl_3, e, gd_pos (w_inB (by omega) (by omega) (by omega)), w_natk (by omega)]
theorem so_4 {F p : Nat} {σ : Mem} (hp : p < 3) : m12_smithOf F (w32 (p : Int)) (4 : Int32) σ = some (gI σ 493 (14 + 7 * p)) := by
  have e : ((w32 10 + (w32 7 * w32 (p : Int))) + w32 4) = w32 ((14 + 7 * p : Nat) : Int) := by rw [w_mul, w_add, w_add]; congr 1 <;> omega
  unfold m12_smithOf
  rw [wl_7, wl_10, wl_4, e, gd_pos (w_inB (by omega) (by omega) (by omega)), w_natk (by omega)]
theorem so_5 {F p : Nat} {σ : Mem} (hp : p < 3) : m12_smithOf F (w32 (p : Int)) (5 : Int32) σ = some (gI σ 493 (15 + 7 * p)) := by
  have e : ((w32 10 + (w32 7 * w32 (p : Int))) + w32 5) = w32 ((15 + 7 * p : Nat) : Int) := by rw [w_mul, w_add, w_add]; congr 1 <;> omega
  unfold m12_smithOf
  rw [wl_7, wl_10, wl_5, e, gd_pos (w_inB (by omega) (by omega) (by omega)), w_natk (by omega)]
theorem so_6 {F p : Nat} {σ : Mem} (hp : p < 3) : m12_smithOf F (w32 (p : Int)) (6 : Int32) σ = some (gI σ 493 (16 + 7 * p)) := by
  have e : ((w32 10 + (w32 7 * w32 (p : Int))) + w32 6) = w32 ((16 + 7 * p : Nat) : Int) := by rw [w_mul, w_add, w_add]; congr 1 <;> omega
  unfold m12_smithOf
  rw [wl_7, wl_10, wl_6, e, gd_pos (w_inB (by omega) (by omega) (by omega)), w_natk (by omega)]
theorem jo_0 {F j : Nat} {σ : Mem} (hj : j < 8) : m12_jobOf F (w32 (j : Int)) (0 : Int32) σ = some (gI σ 493 (31 + 8 * j)) := by
  have e : ((w32 31 + (w32 8 * w32 (j : Int))) + w32 0) = w32 ((31 + 8 * j : Nat) : Int) := by rw [w_mul, w_add, w_add]; congr 1 <;> omega
  unfold m12_jobOf
  rw [wl_8, wl_31, wl_0, e, gd_pos (w_inB (by omega) (by omega) (by omega)), w_natk (by omega)]
theorem jo_1 {F j : Nat} {σ : Mem} (hj : j < 8) : m12_jobOf F (w32 (j : Int)) (1 : Int32) σ = some (gI σ 493 (32 + 8 * j)) := by
  have e : ((w32 31 + (w32 8 * w32 (j : Int))) + w32 1) = w32 ((32 + 8 * j : Nat) : Int) := by rw [w_mul, w_add, w_add]; congr 1 <;> omega
  unfold m12_jobOf
  rw [wl_8, wl_31, wl_1, e, gd_pos (w_inB (by omega) (by omega) (by omega)), w_natk (by omega)]
theorem jo_2 {F j : Nat} {σ : Mem} (hj : j < 8) : m12_jobOf F (w32 (j : Int)) (2 : Int32) σ = some (gI σ 493 (33 + 8 * j)) := by
  have e : ((w32 31 + (w32 8 * w32 (j : Int))) + w32 2) = w32 ((33 + 8 * j : Nat) : Int) := by rw [w_mul, w_add, w_add]; congr 1 <;> omega
  unfold m12_jobOf
  rw [wl_8, wl_31, wl_2, e, gd_pos (w_inB (by omega) (by omega) (by omega)), w_natk (by omega)]
theorem jo_3 {F j : Nat} {σ : Mem} (hj : j < 8) : m12_jobOf F (w32 (j : Int)) (3 : Int32) σ = some (gI σ 493 (34 + 8 * j)) := by
  have e : ((w32 31 + (w32 8 * w32 (j : Int))) + w32 3) = w32 ((34 + 8 * j : Nat) : Int) := by rw [w_mul, w_add, w_add]; congr 1 <;> omega
  unfold m12_jobOf
  rw [wl_8, wl_31, wl_3, e, gd_pos (w_inB (by omega) (by omega) (by omega)), w_natk (by omega)]
theorem jo_4 {F j : Nat} {σ : Mem} (hj : j < 8) : m12_jobOf F (w32 (j : Int)) (4 : Int32) σ = some (gI σ 493 (35 + 8 * j)) := by
  have e : ((w32 31 + (w32 8 * w32 (j : Int))) + w32 4) = w32 ((35 + 8 * j : Nat) : Int) := by rw [w_mul, w_add, w_add]; congr 1 <;> omega
  unfold m12_jobOf
  rw [wl_8, wl_31, wl_4, e, gd_pos (w_inB (by omega) (by omega) (by omega)), w_natk (by omega)]
theorem jo_5 {F j : Nat} {σ : Mem} (hj : j < 8) : m12_jobOf F (w32 (j : Int)) (5 : Int32) σ = some (gI σ 493 (36 + 8 * j)) := by
  have e : ((w32 31 + (w32 8 * w32 (j : Int))) + w32 5) = w32 ((36 + 8 * j : Nat) : Int) := by rw [w_mul, w_add, w_add]; congr 1 <;> omega
  unfold m12_jobOf
  rw [wl_8, wl_31, wl_5, e, gd_pos (w_inB (by omega) (by omega) (by omega)), w_natk (by omega)]
theorem jo_6 {F j : Nat} {σ : Mem} (hj : j < 8) : m12_jobOf F (w32 (j : Int)) (6 : Int32) σ = some (gI σ 493 (37 + 8 * j)) := by
  have e : ((w32 31 + (w32 8 * w32 (j : Int))) + w32 6) = w32 ((37 + 8 * j : Nat) : Int) := by rw [w_mul, w_add, w_add]; congr 1 <;> omega
  unfold m12_jobOf
  rw [wl_8, wl_31, wl_6, e, gd_pos (w_inB (by omega) (by omega) (by omega)), w_natk (by omega)]
theorem jo_7 {F j : Nat} {σ : Mem} (hj : j < 8) : m12_jobOf F (w32 (j : Int)) (7 : Int32) σ = some (gI σ 493 (38 + 8 * j)) := by
  have e : ((w32 31 + (w32 8 * w32 (j : Int))) + w32 7) = w32 ((38 + 8 * j : Nat) : Int) := by rw [w_mul, w_add, w_add]; congr 1 <;> omega
  unfold m12_jobOf
  rw [wl_8, wl_31, wl_7, e, gd_pos (w_inB (by omega) (by omega) (by omega)), w_natk (by omega)]
def sidx : Nat → Nat → Nat
  | 0, _ => 5
  | 1, j => 10 + 7 * j
  | 2, j => 11 + 7 * j
  | 3, j => 12 + 7 * j
  | 4, j => 14 + 7 * j
  | 5, j => 16 + 7 * j
  | 6, j => 33 + 8 * j
  | 7, j => 36 + 8 * j
  | 8, j => 37 + 8 * j
  | 9, j => 95 + j
  | _, j => 13 + 7 * j
def sok (P : Dat) : Nat → Nat → Prop
  | 0, j => j = 0
  | 6, j => (j : Int) < P 0 5
  | 7, j => (j : Int) < P 0 5
  | 8, j => (j : Int) < P 0 5
  | 9, j => j < 3
  | _, j => (j : Int) < P 0 4
/-- a plan and a state as the reference holds them -/
def RepA (σ : Mem) (P A : Dat) : Prop :=
  (∀ i j, i ≤ 10 → sok P i j → gI σ 493 (sidx i j) = w32 (A i j)) ∧ (∀ j, j < 5 → gI σ 493 j = w32 (P 0 (j + 1))) ∧ (∀ p : Nat, (p : Int) < P 0 4 → gI σ 493 (15 + 7 * p) = w32 (P 1 p)) ∧
  (∀ j : Nat, (j : Int) < P 0 5 → gI σ 493 (31 + 8 * j) = w32 (P 2 j) ∧ gI σ 493 (32 + 8 * j) = w32 (P 3 j) ∧ gI σ 493 (34 + 8 * j) = w32 (P 6 j) ∧ gI σ 493 (35 + 8 * j) = w32 (P 7 j) ∧ gI σ 493 (38 + 8 * j) = w32 (P 5 j)) ∧
  (∀ k, k < 3 → gI σ 493 (98 + k) = w32 (P 8 k)) ∧ gI σ 483 27 = w32 (A 9 3)
theorem sidx_inj {P : Dat} (hn : P 0 4 ≤ 3) (hm : P 0 5 ≤ 8) {i j i' j' : Nat} (h1 : i ≤ 10) (h2 : i' ≤ 10) (s1 : sok P i j) (s2 : sok P i' j') (h : sidx i j = sidx i' j') : i = i' ∧ j = j' := by
  rcases (show i = 0 ∨ i = 1 ∨ i = 2 ∨ i = 3 ∨ i = 4 ∨ i = 5 ∨ i = 6 ∨ i = 7 ∨ i = 8 ∨ i = 9 ∨ i = 10 by omega) with rfl | rfl | rfl | rfl | rfl | rfl | rfl | rfl | rfl | rfl | rfl <;>
  rcases (show i' = 0 ∨ i' = 1 ∨ i' = 2 ∨ i' = 3 ∨ i' = 4 ∨ i' = 5 ∨ i' = 6 ∨ i' = 7 ∨ i' = 8 ∨ i' = 9 ∨ i' = 10 by omega) with rfl | rfl | rfl | rfl | rfl | rfl | rfl | rfl | rfl | rfl | rfl <;>
  simp only [sidx, sok] at s1 s2 h <;> omega
theorem sidx_pl {P : Dat} (hn : P 0 4 ≤ 3) (hm : P 0 5 ≤ 8) {i j : Nat} (h1 : i ≤ 10) (s1 : sok P i j) : 5 ≤ sidx i j ∧ sidx i j ≤ 97 ∧ (∀ p : Nat, p < 3 → sidx i j ≠ 15 + 7 * p) ∧ (∀ q : Nat, q < 8 → sidx i j ≠ 31 + 8 * q ∧ sidx i j ≠ 32 + 8 * q ∧ sidx i j ≠ 34 + 8 * q ∧ sidx i j ≠ 35 + 8 * q ∧ sidx i j ≠ 38 + 8 * q) := by
  rcases (show i = 0 ∨ i = 1 ∨ i = 2 ∨ i = 3 ∨ i = 4 ∨ i = 5 ∨ i = 6 ∨ i = 7 ∨ i = 8 ∨ i = 9 ∨ i = 10 by omega) with rfl | rfl | rfl | rfl | rfl | rfl | rfl | rfl | rfl | rfl | rfl <;>
  simp only [sidx, sok] at s1 ⊢ <;> refine ⟨by omega, by omega, fun p hp => by omega, fun q hq => by omega⟩
theorem sok_93 {P : Dat} {i j : Nat} (h : sok P i j) : ¬ (9 = i ∧ 3 = j) := by
  rintro ⟨rfl, rfl⟩
  exact absurd h (show ¬ ((3 : Nat) < 3) by decide)
theorem RepA.upd {σ : Mem} {P A : Dat} (hA : RepA σ P A) (hn : P 0 4 ≤ 3) (hm : P 0 5 ≤ 8) (i j : Nat) (v : Int) (h1 : i ≤ 10) (s1 : sok P i j) : RepA (sI σ 493 (sidx i j) (w32 v)) P (up A i j v) := by
  obtain ⟨a1, a2, a3, a4, a5, a6⟩ := hA
  obtain ⟨p1, p2, p3, p4⟩ := sidx_pl hn hm h1 s1
  refine ⟨fun i' j' hi' s2 => ?_, fun k hk => ?_, fun p hp => ?_, fun q hq => ?_, fun k hk => ?_, ?_⟩
  · rw [gI_sI, up_at]
    by_cases h : i' = i ∧ j' = j
    · rw [if_pos ⟨rfl, by rw [h.1, h.2]⟩, if_pos h]
    · rw [if_neg (fun z => h (sidx_inj hn hm hi' h1 s2 s1 z.2)), if_neg h]
      exact a1 i' j' hi' s2
  · rw [gI_nej (by omega)]; exact a2 k hk
  · rw [gI_nej (fun z => p3 p (by omega) z.symm)]; exact a3 p hp
  · obtain ⟨q1, q2, q3, q4, q5⟩ := p4 q (by omega)
    rw [gI_nej (Ne.symm q1), gI_nej (Ne.symm q2), gI_nej (Ne.symm q3), gI_nej (Ne.symm q4), gI_nej (Ne.symm q5)]
    exact a4 q hq
  · rw [gI_nej (by omega)]; exact a5 k hk
  · rw [gI_nec (by decide), up_at, if_neg (sok_93 s1)]; exact a6
theorem RepA.up3 {σ : Mem} {P A : Dat} (hA : RepA σ P A) (v : Int) : RepA (sI σ 483 27 (w32 v)) P (up A 9 3 v) := by
  obtain ⟨a1, a2, a3, a4, a5, a6⟩ := hA
  refine ⟨fun i' j' hi' s2 => ?_, fun k hk => ?_, fun p hp => ?_, fun q hq => ?_, fun k hk => ?_, ?_⟩
  · rw [gI_nec (by decide), up_at, if_neg (fun z => sok_93 s2 ⟨z.1.symm, z.2.symm⟩)]; exact a1 i' j' hi' s2
  · rw [gI_nec (by decide)]; exact a2 k hk
  · rw [gI_nec (by decide)]; exact a3 p hp
  · rw [gI_nec (by decide), gI_nec (by decide), gI_nec (by decide), gI_nec (by decide), gI_nec (by decide)]; exact a4 q hq
  · rw [gI_nec (by decide)]; exact a5 k hk
  · rw [gI_eq, up_eq]
theorem RepA.same {σ σ' : Mem} {P A : Dat} (hA : RepA σ P A) (h1 : gI σ' 493 = gI σ 493) (h2 : gI σ' 483 27 = gI σ 483 27) : RepA σ' P A := by
  obtain ⟨a1, a2, a3, a4, a5, a6⟩ := hA
  refine ⟨fun i' j' hi' s2 => ?_, fun k hk => ?_, fun p hp => ?_, fun q hq => ?_, fun k hk => ?_, ?_⟩
  · rw [h1]; exact a1 i' j' hi' s2
  · rw [h1]; exact a2 k hk
  · rw [h1]; exact a3 p hp
  · rw [h1]; exact a4 q hq
  · rw [h1]; exact a5 k hk
  · rw [h2]; exact a6
/-- what is said behind the states (told wear, notes) stays -/
def Tl (σ σ' : Mem) : Prop := ∀ k, 98 ≤ k → gI σ' 493 k = gI σ 493 k
theorem Tl.rf (σ : Mem) : Tl σ σ := fun _ _ => rfl
theorem Tl.trans {σ σ1 σ2 : Mem} (h : Tl σ σ1) (g : Tl σ1 σ2) : Tl σ σ2 := fun k hk => (g k hk).trans (h k hk)
theorem Tl.at {σ σ1 : Mem} {j : Nat} {v : Int32} (h : Tl σ σ1) (hj : j < 98) : Tl σ (sI σ1 493 j v) := fun k hk => by rw [gI_nej (by omega)]; exact h k hk
theorem Tl.ne {σ σ1 : Mem} {c j : Nat} {v : Int32} (h : Tl σ σ1) (hc : 493 ≠ c) : Tl σ (sI σ1 c j v) := fun k hk => by rw [gI_nec hc]; exact h k hk
theorem Tl.fr {W : Nat → Prop} {σ σ1 : Mem} (f : Fr W σ σ1) (hw : ¬ W 493) : Tl σ σ1 := fun k _ => by rw [f.gI hw]
/-- what-if numbers as the reference holds them -/
def RepQ (σ : Mem) (K : Nat → Int) : Prop := gI σ 483 23 = w32 (K 2) ∧ gI σ 483 24 = w32 (K 3) ∧ gI σ 483 25 = w32 (K 6) ∧ gI σ 483 26 = w32 (K 4) ∧ gI σ 483 28 = w32 (K 5)
theorem RepQ.sl {σ σ' : Mem} {K : Nat → Int} {V : Nat → Prop} (h : RepQ σ K) (s : Sl V σ σ') (hv : ∀ j, 23 ≤ j → j ≤ 28 → j ≠ 27 → ¬ V j) : RepQ σ' K := by
  obtain ⟨a, b, c, d, e⟩ := h
  refine ⟨?_, ?_, ?_, ?_, ?_⟩
  · rw [s 23 (hv 23 (by decide) (by decide) (by decide))]; exact a
  · rw [s 24 (hv 24 (by decide) (by decide) (by decide))]; exact b
  · rw [s 25 (hv 25 (by decide) (by decide) (by decide))]; exact c
  · rw [s 26 (hv 26 (by decide) (by decide) (by decide))]; exact d
  · rw [s 28 (hv 28 (by decide) (by decide) (by decide))]; exact e
def bitrel (a b : Int) : Prop := (a = 0 ∧ b = 1) ∨ (a = 1 ∧ b = 2) ∨ (a = 2 ∧ b = 4) ∨ (a = 3 ∧ b = 3)
def WfJ (P : Dat) : Prop := ∀ j : Nat, (j : Int) < P 0 5 → bitrel (P 3 j) (P 4 j) ∧ 0 ≤ P 2 j ∧ P 2 j < P 0 4
def WfA (P A : Dat) : Prop := (∀ j : Nat, (j : Int) < P 0 5 → (0 < A 6 j ↔ A 7 j < 0) ∧ 0 ≤ A 6 j) ∧ (∀ p : Nat, (p : Int) < P 0 4 → 0 ≤ A 1 p ∧ A 1 p ≤ P 0 2) ∧ ∀ k, k < 4 → 0 ≤ A 9 k
theorem isOpen_r {F : Nat} {σ : Mem} {P A : Dat} {p : Int} {j : Nat} (hA : RepA σ P A) (wA : WfA P A) (bP : Bd 1000 P) (bA : Bd 1000000000 A) (hm : P 0 5 ≤ 8) (hp : -1000 ≤ p ∧ p ≤ 1000) (hj : (j : Int) < P 0 5) : m12_isOpen F (w32 (j : Int)) (w32 p) σ = some (if opn P A p j then (1 : Int32) else 0) := by
  have q0 := (hA.2.2.2.1 j hj).1
  have q7 : gI σ 493 (36 + 8 * j) = w32 (A 7 j) := hA.1 7 j (by decide) hj
  have b2 := bP 2 j
  have b7 := bA 7 j
  have w7 := (wA.1 j hj).1
  unfold m12_isOpen
  rw [jo_0 (by omega), Option.bind_some, q0, jo_5 (by omega), Option.bind_some, q7]
  unfold opn
  simp (disch := omega) only [wl_0, wl_1, wl_2, wl_3, wl_4, wl_5, wl_6, wl_7, wl_8, wl_9, wl_10, wl_11, wl_12, wl_13, wl_14, wl_15, wl_16, wl_20, wl_24, wl_26, wl_30, wl_31, wl_32, wl_40, wl_41, wl_47, wl_48, wl_50, wl_58, wl_59, wl_60, wl_61, wl_64, wl_91, wl_93, wl_95, wl_97, wl_98, wl_99, wl_100, wl_101, wl_122, wl_131, wl_132, wl_200, wl_255, wl_400, wl_500, wl_501, wl_999, wl_1960, wl_9999, wl_99999, wl_4000000, wl_m1, wl_m2, wl_m3, wl_m8, wl_m20, wl_m21, wl_m22, wl_m23, wl_m24, wl_m25, wl_m26, wl_m27, wl_m28, wl_m29, wl_m30, wl_m31, wl_m32, wl_m100000, w_eq, w_le]
  by_cases h1 : P 2 j = p
  · by_cases h2 : 0 ≤ A 7 j
    · have : ¬ 0 < A 6 j := by omega
      simp [h1, h2, this]
    · have : 0 < A 6 j := by omega
      simp [h1, h2, this]
  · simp [h1]
theorem jobNow_r {F : Nat} {σ : Mem} {P A : Dat} {K : Nat → Int} {p : Nat} (hA : RepA σ P A) (hQ : RepQ σ K) (wA : WfA P A) (wP : WfP P) (bA : Bd 1000000000 A) (bK : -1000 ≤ K 2 ∧ K 2 ≤ 1000) (hp : p < 3) (hF : 100 ≤ F) : m12_jobNow F (w32 (p : Int)) σ = some (w32 (jbs P A K p)) := by
  obtain ⟨bP, ⟨m, hm, hm8⟩, -, -⟩ := wP
  have e4 : gI σ 493 4 = w32 (P 0 5) := hA.2.1 4 (by decide)
  have e23 := hQ.1
  unfold m12_jobNow jbs
  by_cases hk : (p : Int) = K 2
  · rw [if_pos hk]
    obtain ⟨G, rfl⟩ : ∃ k, F = k + 1 := ⟨F - 1, by omega⟩
    unfold m12_jobNow_4
    rw [gd_pos (by decide), show (4 : Int32).toNatClampNeg = 4 from rfl, e4, e23, hk]
    by_cases h : w32 (P 0 5) ≤ (0 : Int32)
    · rw [if_pos h]; rfl
    · rw [if_neg h, if_pos rfl]; rfl
  · rw [if_neg hk]
    have loop : ∀ (d n j : Nat) (f : Int), j + d = m → d < n → -1 ≤ f → f < (j : Int) → m12_jobNow_4 F (w32 (p : Int)) σ n (w32 f) (w32 (j : Int)) = some (w32 (jobL P A p d j f)) := by
      intro d
      induction d with
      | zero =>
        intro n j f h1 h2 h3 h4
        obtain ⟨n, rfl⟩ : ∃ k, n = k + 1 := ⟨n - 1, by omega⟩
        unfold m12_jobNow_4
        rw [gd_pos (by decide), show (4 : Int32).toNatClampNeg = 4 from rfl, e4, hm, if_pos (by rw [w_le (by omega) (by omega) (by omega) (by omega)]; omega)]
        rfl
      | succ d ih =>
        intro n j f h1 h2 h3 h4
        obtain ⟨n, rfl⟩ : ∃ k, n = k + 1 := ⟨n - 1, by omega⟩
        unfold m12_jobNow_4 jobL
        rw [gd_pos (by decide), show (4 : Int32).toNatClampNeg = 4 from rfl, e4, hm, if_neg (by rw [w_le (by omega) (by omega) (by omega) (by omega)]; omega), e23, if_neg (by rw [w_eq (by omega) (by omega) (by omega) (by omega)]; exact hk), isOpen_r hA wA bP bA (by omega) (by omega) (by omega), Option.bind_some, w_succ, jo_6 (by omega), Option.bind_some]
        have e1 : gI σ 493 (37 + 8 * j) = w32 (A 8 j) := hA.1 8 j (by decide) (show (j : Int) < P 0 5 by omega)
        by_cases h : opn P A p j = true
        · rw [if_pos h, if_neg (by decide), h, Bool.true_and]
          by_cases hf : f = -1
          · rw [if_pos (by rw [hf]; decide), if_pos (by simp [hf])]
            exact ih n (j + 1) _ (by omega) (by omega) (by omega) (by omega)
          · obtain ⟨g, hg⟩ : ∃ g : Nat, f = g := ⟨f.toNat, by omega⟩
            have e2 : gI σ 493 (37 + 8 * g) = w32 (A 8 g) := hA.1 8 g (by decide) (show (g : Int) < P 0 5 by omega)
            have b1 := bA 8 j
            have b2 := bA 8 g
            subst hg
            rw [if_neg (by rw [wl_0, w_lt (by omega) (by omega) (by omega) (by omega)]; omega), jo_6 (by omega), Option.bind_some, e1, e2, Int.toNat_natCast]
            simp (disch := omega) only [w_le]
            by_cases hr : A 8 j < A 8 g
            · rw [if_neg (by omega), if_pos (by simp [hr])]
              exact ih n (j + 1) _ (by omega) (by omega) (by omega) (by omega)
            · rw [if_pos (by omega), if_neg (by intro z; simp only [Bool.and_eq_true, Bool.or_eq_true, decide_eq_true_eq, Bool.true_and] at z; omega)]
              exact ih n (j + 1) _ (by omega) (by omega) (by omega) (by omega)
        · rw [if_neg h, if_pos rfl, if_neg (by simp [h])]
          exact ih n (j + 1) _ (by omega) (by omega) (by omega) (by omega)
    unfold jobN
    rw [hm, Int.toNat_natCast]
    exact loop m F 0 (-1) (by omega) (by omega) (by omega) (by omega)
theorem needs_r {F : Nat} {σ : Mem} {P A : Dat} {j : Nat} (hA : RepA σ P A) (wJ : WfJ P) (hm : P 0 5 ≤ 8) (hj : (j : Int) < P 0 5) : m12_needs F (w32 (j : Int)) σ = some (w32 (P 4 j)) := by
  have q := (hA.2.2.2.1 j hj).2.1
  have hb := (wJ j hj).1
  unfold m12_needs
  rw [jo_1 (by omega), Option.bind_some, q, Option.bind_some]
  rcases hb with ⟨h1, h2⟩ | ⟨h1, h2⟩ | ⟨h1, h2⟩ | ⟨h1, h2⟩ <;> rw [h1, h2] <;> rfl
/-- the JOB of a SMITH is one of the plan's -/
theorem jbs_lt {P A : Dat} {K : Nat → Int} (wP : WfP P) (p : Nat) : jbs P A K p = -1 ∨ (0 ≤ jbs P A K p ∧ jbs P A K p < P 0 5 ∧ P 2 (jbs P A K p).toNat = p ∧ 0 < A 6 (jbs P A K p).toNat) := by
  obtain ⟨-, ⟨m, hm, hm8⟩, -, -⟩ := wP
  unfold jbs
  split
  · exact Or.inl rfl
  · obtain ⟨a, b, c⟩ := jobN_rg (P := P) (A := A) (p := (p : Int)) hm
    by_cases h : jobN P A p = -1
    · exact Or.inl h
    · have c := c (by omega)
      unfold opn at c
      simp only [Bool.and_eq_true, decide_eq_true_eq] at c
      exact Or.inr ⟨by omega, by omega, c.1, c.2⟩
theorem isHot_r {F : Nat} {σ : Mem} {P A : Dat} {K : Nat → Int} {p : Nat} (hA : RepA σ P A) (hQ : RepQ σ K) (wA : WfA P A) (wP : WfP P) (bA : Bd 1000000000 A) (bK : -1000 ≤ K 2 ∧ K 2 ≤ 1000) (hp : (p : Int) < P 0 4) (hj : jbs P A K p ≠ -1) (hF : 100 ≤ F) : m12_isHot F (w32 (p : Int)) σ = some (if A 1 p < P 6 (jbs P A K p).toNat then w32 0 else w32 1) := by
  have w2 := wP
  obtain ⟨bP, ⟨m, hm, hm8⟩, ⟨n, hn, hn3⟩, -⟩ := w2
  have jr := (jbs_lt (A := A) (K := K) wP p).resolve_left hj
  obtain ⟨j, hjj⟩ : ∃ j : Nat, jbs P A K p = j := ⟨(jbs P A K p).toNat, by omega⟩
  have e1 : gI σ 493 (10 + 7 * p) = w32 (A 1 p) := hA.1 1 p (by decide) hp
  have e2 := (hA.2.2.2.1 j (by omega)).2.2.1
  have b1 := bA 1 p
  have b2 := bP 6 j
  unfold m12_isHot
  rw [jobNow_r hA hQ wA wP bA bK (by omega) hF, Option.bind_some, hjj, if_neg (by rw [wl_0, w_lt (by omega) (by omega) (by omega) (by omega)]; omega), so_0 (by omega), Option.bind_some, jo_3 (by omega), Option.bind_some, e1, e2, Int.toNat_natCast]
  simp (disch := omega) only [w_lt]
  split <;> rfl
