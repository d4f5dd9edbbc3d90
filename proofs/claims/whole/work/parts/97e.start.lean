/-! THE LAW: the first state -/
def Z0 : Dat := fun _ _ => 0
def W0d : Wd := (Z0, Z0, Z0, -1, 0)
def S0 : Ab := (W0d, (0, fun _ => Z0), (0, fun _ => 0), (0, fun _ => Z0), fun _ => none)
theorem s0_z {c j : Nat} (h : c ≠ 16 ∧ c ≠ 40 ∧ c ≠ 135 ∧ c ≠ 387 ∧ c ≠ 411 ∧ c ≠ 435 ∧ c ≠ 459 ∧ c ≠ 483) : gI σ0 c j = w32 0 := by
  obtain ⟨h1, h2, h3, h4, h5, h6, h7, h8⟩ := h
  unfold gI σ0
  show (if c = 16 ∧ j = 3 then (-1 : Int32) else if c = 40 ∧ j = 2 then -1 else if c = 40 ∧ j = 3 then -1 else if c = 135 ∧ j = 6 then -1 else if c = 387 ∧ j = 3 then -1 else if c = 411 ∧ j = 3 then -1 else if c = 435 ∧ j = 3 then -1 else if c = 459 ∧ j = 3 then -1 else if c = 483 ∧ j = 21 then -1 else if c = 483 ∧ j = 23 then -1 else if c = 483 ∧ j = 24 then -1 else 0) = w32 0
  rw [if_neg (fun z => h1 z.1), if_neg (fun z => h2 z.1), if_neg (fun z => h2 z.1), if_neg (fun z => h3 z.1), if_neg (fun z => h4 z.1), if_neg (fun z => h5 z.1), if_neg (fun z => h6 z.1), if_neg (fun z => h7 z.1), if_neg (fun z => h8 z.1), if_neg (fun z => h8 z.1), if_neg (fun z => h8 z.1)]; rfl
theorem s0_wf : Wfx 0 S0 := by
  have b : ∀ B : Int, 0 ≤ B → Bd B Z0 := fun B h i j => by show -B ≤ (0 : Int) ∧ (0 : Int) ≤ B; omega
  have no : ∀ q : Nat, ¬ (q : Int) < Z0 0 5 := fun q h => by
    have : (q : Int) < 0 := h
    omega
  have no4 : ∀ q : Nat, ¬ (q : Int) < Z0 0 4 := fun q h => by
    have : (q : Int) < 0 := h
    omega
  have pl : WfPl Z0 := ⟨⟨b 1000 (by decide), ⟨0, rfl, by decide⟩, ⟨0, rfl, by decide⟩, fun j _ => ⟨show (0 : Int) ≤ 0 by decide, show (0 : Int) ≤ 3 by decide⟩⟩, fun q h => absurd h (no q), ⟨fun q h => absurd h (no q), fun q h => absurd h (no4 q), by decide, by decide⟩, Or.inl rfl, ⟨fun h => absurd h (by decide), fun h => absurd h (by decide)⟩, by decide, fun _ => ⟨rfl, rfl⟩, fun q h => absurd h (no q), fun _ _ => show (0 : Int) ≤ 0 by decide, fun q h => absurd h (no4 q)⟩
  have st : WfSt Z0 Z0 0 := ⟨⟨⟨fun q h => absurd h (no q), fun q h => absurd h (no4 q), fun _ _ => show (0 : Int) ≤ 0 by decide⟩, by decide, by decide, b _ (by decide), fun q h => absurd h (no4 q), by decide⟩, rfl, fun q h => absurd h (no4 q), fun _ => ⟨show (0 : Int) ≤ 0 by decide, show (0 : Int) ≤ 10000 + (0 : Nat) by decide⟩⟩
  have n0 : WfN Z0 := ⟨by decide, by decide, fun i h => by
    have : (i : Int) < 0 := h
    omega⟩
  exact ⟨⟨⟨pl, st, n0, by decide, by decide, by decide, by decide⟩, ⟨by decide, fun k h => absurd h (Nat.not_lt_zero k)⟩, ⟨by decide, fun k h => absurd h (Nat.not_lt_zero k)⟩, ⟨by decide, fun k h => absurd h (Nat.not_lt_zero k)⟩, fun k w _ h => by cases h⟩, fun k h => absurd h (Nat.not_lt_zero k)⟩
theorem s0_c : CInv S0 σ0 := by
  refine ⟨⟨fun i hi j hj => s0_z (by omega), fun i hi j hj => s0_z (by omega), ⟨s0_z (by decide), fun i h1 h2 j hj => s0_z (by omega)⟩, rfl, rfl⟩, ⟨s0_z (by decide), fun k h => absurd h (Nat.not_lt_zero k)⟩, ⟨s0_z (by decide), fun k h => absurd h (Nat.not_lt_zero k)⟩, ⟨0, by decide, s0_z (by decide), s0_z (by decide), fun k h => absurd h (Nat.not_lt_zero k)⟩, fun k hk => ?_⟩
  exact s0_z (by decide)
theorem s0_r : RInv S0 σ0 := by
  have no : ∀ q : Nat, ¬ (q : Int) < Z0 0 5 := fun q h => by
    have : (q : Int) < 0 := h
    omega
  have no4 : ∀ q : Nat, ¬ (q : Int) < Z0 0 4 := fun q h => by
    have : (q : Int) < 0 := h
    omega
  refine ⟨⟨⟨⟨fun i j _ _ => s0_z (by decide), fun j _ => s0_z (by decide), fun q h => absurd h (no4 q), fun q h => absurd h (no q)⟩, fun k _ => s0_z (by decide)⟩, ⟨s0_z (by decide), fun i h => ?_⟩⟩, ⟨rfl, rfl, rfl, rfl, rfl, rfl, rfl, rfl⟩, ⟨rfl, fun k h => absurd h (Nat.not_lt_zero k)⟩, ⟨rfl, fun k h => absurd h (Nat.not_lt_zero k)⟩, ⟨rfl, fun k h => absurd h (Nat.not_lt_zero k)⟩, fun k hk => ?_⟩
  · have : (i : Int) < 0 := h
    omega
  · exact s0_z (by decide)
theorem s0_d : DInv σ0 := ⟨Z0, fun i hi j hj => s0_z (by omega), fun i j => by show -1000 ≤ (0 : Int) ∧ (0 : Int) ≤ 1000; omega, fun j _ => ⟨show (0 : Int) ≤ 0 by decide, show (0 : Int) ≤ 3 by decide⟩⟩
def IV (t : Nat) (σ : Mem) : Prop := ∃ S, CInv S σ ∧ RInv S σ ∧ Wfx t S ∧ DInv σ
theorem IV.mono {t t' : Nat} {σ : Mem} (h : IV t σ) (ht : t ≤ t') : IV t' σ := by
  obtain ⟨S, a, b, c, d⟩ := h
  exact ⟨S, a, b, c.mono ht, d⟩
def IVq (t : Nat) (a : Option (Int32 × Mem)) (b : Mem → Option (Int32 × Mem)) : Prop := ∃ r σ1 σ2, a = some (r, σ1) ∧ b σ1 = some (r, σ2) ∧ IV t σ2
theorem A_iv {t : Nat} {a : Option (Int32 × Mem)} {b : Mem → Option (Int32 × Mem)} {σ : Mem} {V V' : Nat → Prop} (hD : DInv σ) (h : Acts t a b) (f1 : ∀ r, a = some r → Fr V σ r.2) (f2 : ∀ τ r, b τ = some r → Fr V' τ r.2) (v1 : ∀ c, V c → c < 3 ∨ 11 < c) (v2 : ∀ c, V' c → c < 3 ∨ 11 < c) : IVq t a b := by
  obtain ⟨S', wf, r, σ1, σ2, m1, m2, c, d⟩ := h
  exact ⟨r, σ1, σ2, m1, m2, S', c, d, wf, (hD.fr (f1 _ m1) v1).fr (f2 _ _ m2) v2⟩
theorem Q_iv {t : Nat} {S : Ab} {a : Option (Int32 × Mem)} {b : Mem → Option (Int32 × Mem)} {σ : Mem} {V V' : Nat → Prop} (wfx : Wfx t S) (hD : DInv σ) (h : Ans S a b) (f1 : ∀ r, a = some r → Fr V σ r.2) (f2 : ∀ τ r, b τ = some r → Fr V' τ r.2) (v1 : ∀ c, V c → c < 3 ∨ 11 < c) (v2 : ∀ c, V' c → c < 3 ∨ 11 < c) : IVq t a b := A_iv hD ⟨S, wfx, h⟩ f1 f2 v1 v2
