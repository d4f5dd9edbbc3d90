/-! TEXTS, 13: the reference reads a SMITHY -/
/-- a number told to the reference -/
def NR (B : Nat → Int) (L : Nat) (lo hi : Int) (p : Nat) (y : Int32) (σ : Mem) : Prop := if nmF B L lo hi p 0 = 0 then y = 1 ∧ RT B L (nmP B L p) 0 σ ∧ gI σ 483 10 = w32 (nmR B L lo hi p 0) else y = 0 ∧ gI σ 483 9 = w32 (nmF B L lo hi p 0)
theorem nmb_r {F : Nat} {B : Nat → Int} {L p : Nat} {lo hi : Int} {σ : Mem} (hT : Txt B L) (h : RT B L p 0 σ) (hp : p ≤ 1000000) (hF : 1000 ≤ F) (b1 : -1000000 ≤ lo ∧ lo ≤ 1000000) (b2 : -1000000 ≤ hi ∧ hi ≤ 1000000) : ∃ y σ', m12_numberHere F (w32 lo) (w32 hi) σ = some (y, σ') ∧ Qs σ σ' ∧ NR B L lo hi p y σ' := by
  obtain ⟨y, σ', m, q, g⟩ := number_r (F := F) hT h hp hF b1 b2
  refine ⟨y, σ', m, q, ?_⟩
  unfold NR
  by_cases z : nmF B L lo hi p 0 = 0
  · rw [if_pos z]
    have e : nmR B L lo hi p 0 = nmV B L p := if_pos z
    unfold nmF nmV at z
    rw [if_pos z] at g
    rw [e]
    exact g
  · rw [if_neg z]
    unfold nmF nmV at z
    rw [if_neg z] at g
    exact g
theorem cell_r {F : Nat} {B : Nat → Int} {L p c : Nat} {lo hi : Int} {σ : Mem} (hT : Txt B L) (h : RT B L p 0 σ) (hp : p ≤ 1000000) (hF : 1000 ≤ F) (hc : c < 101) (b1 : -1000000 ≤ lo ∧ lo ≤ 1000000) (b2 : -1000000 ≤ hi ∧ hi ≤ 1000000) : ∃ y σ', m12_cellHere F (w32 (c : Int)) (w32 lo) (w32 hi) σ = some (y, σ') ∧ Sl V8 σ σ' ∧ Fr (fun c => c = 483 ∨ c = 489) σ σ' ∧ (∀ j, j ≠ c → gI σ' 489 j = gI σ 489 j) ∧ (if nmF B L lo hi p 0 = 0 then y = 1 ∧ RT B L (nmP B L p) 0 σ' ∧ gI σ' 489 c = w32 (nmR B L lo hi p 0) else y = 0 ∧ gI σ' 483 9 = w32 (nmF B L lo hi p 0)) := by
  obtain ⟨y, σ1, m1, q1, g⟩ := nmb_r (F := F) (lo := lo) (hi := hi) hT h hp hF b1 b2
  unfold NR at g
  unfold m12_cellHere
  rw [m1, Option.bind_some]
  dsimp only
  by_cases z : nmF B L lo hi p 0 = 0
  · rw [if_pos z] at g
    rw [if_neg (by rw [g.1]; decide), gd_pos (w_inB (by omega) (by omega) (by omega)), w_natk (by omega), g.2.2]
    refine ⟨1, _, rfl, q1.2.ne (by decide), (q1.1.mono (fun c z => Or.inl z)).sI (Or.inr rfl), fun j hj => ?_, ?_⟩
    · rw [gI_nej hj, q1.c (by decide)]
    · rw [if_pos z]
      exact ⟨rfl, g.2.1.ne (by omega), gI_eq ..⟩
  · rw [if_neg z] at g
    rw [if_pos g.1]
    refine ⟨0, σ1, rfl, q1.2, q1.1.mono (fun c z => Or.inl z), fun j hj => by rw [q1.c (by decide)], ?_⟩
    rw [if_neg z]
    exact ⟨rfl, g.2⟩
def RQ (i : Nat) (P : Dat) (f : Nat → Int32) : Prop :=
  (0 < i → f 0 = w32 (P 0 1) ∧ f 1 = w32 (P 0 2) ∧ f 2 = w32 (P 0 3)) ∧ (i = 0 → f 0 = w32 0) ∧ f 3 = w32 (P 0 4) ∧ f 4 = w32 (P 0 5) ∧ (∀ j, 5 ≤ j → j < 10 → f j = w32 0) ∧
  (∀ p : Nat, (p : Int) < P 0 4 → f (15 + 7 * p) = w32 (P 1 p) ∧ ∀ k, k < 7 → k ≠ 5 → f (10 + 7 * p + k) = w32 0) ∧
  (∀ j : Nat, (j : Int) < P 0 5 → f (31 + 8 * j) = w32 (P 2 j) ∧ f (32 + 8 * j) = w32 (P 3 j) ∧ f (33 + 8 * j) = w32 (P 5 j) ∧ f (34 + 8 * j) = w32 (P 6 j) ∧ f (35 + 8 * j) = w32 (P 7 j) ∧ f (36 + 8 * j) = w32 (-1) ∧ f (37 + 8 * j) = w32 (j : Int) ∧ f (38 + 8 * j) = w32 (P 5 j)) ∧
  ∀ k, k < 3 → f (95 + k) = w32 (P 8 k)
/-- the outcome of a clause -/
def OK3 (B : Nat → Int) (L i : Nat) (z : Tq) (y : Int32) (σ : Mem) : Prop := if z.2.1 = 0 then y = 1 ∧ RT B L z.1 0 σ ∧ RQ (i + 1) z.2.2 (gI σ 489) else y = 0 ∧ gI σ 483 9 = w32 z.2.1
theorem ok3_good {B : Nat → Int} {L i : Nat} {z : Tq} {y : Int32} {σ : Mem} (hz : z.2.1 = 0) (h : y = 1 ∧ RT B L z.1 0 σ ∧ RQ (i + 1) z.2.2 (gI σ 489)) : OK3 B L i z y σ := by
  unfold OK3
  rw [if_pos hz]
  exact h
theorem ok3_bad {B : Nat → Int} {L i : Nat} {z : Tq} {y : Int32} {σ : Mem} {f : Int} (hz : z.2.1 = f) (h0 : f ≠ 0) (h : y = 0 ∧ gI σ 483 9 = w32 f) : OK3 B L i z y σ := by
  unfold OK3
  rw [if_neg (by rw [hz]; exact h0), hz]
  exact h
def Frq (σ σ' : Mem) : Prop := Fr (fun c => c = 483 ∨ c = 489) σ σ' ∧ Sl V8 σ σ'
theorem Frq.rf (σ : Mem) : Frq σ σ := ⟨Fr.rf _ σ, Sl.rf _ σ⟩
theorem Frq.trans {σ σ1 σ2 : Mem} (h : Frq σ σ1) (g : Frq σ1 σ2) : Frq σ σ2 := ⟨h.1.trans g.1, h.2.trans g.2⟩
theorem Qs.q {σ σ1 : Mem} (h : Qs σ σ1) : Frq σ σ1 := ⟨h.1.mono (fun c z => Or.inl z), h.2⟩
theorem Frq.s {σ σ1 : Mem} (h : Frq σ σ1) {j : Nat} {v : Int32} : Frq σ (sI σ1 489 j v) := ⟨h.1.sI (Or.inr rfl), h.2.ne (by decide)⟩
theorem RT.n9 {B : Nat → Int} {L p : Nat} {f : Int} {σ : Mem} (h : RT B L p f σ) {j : Nat} {v : Int32} : RT B L p f (sI σ 489 j v) := h.ne (by omega)
theorem smithyHere_r {F : Nat} {B : Nat → Int} {L p1 : Nat} {P : Dat} {q : Nat} {σ : Mem} (hT : Txt B L) (hF : 1000 ≤ F) (h : RT B L q 0 σ) (hq : q ≤ 1000) (hp1 : p1 = q + rn B L 97 122 q) (hpl : p1 ≤ 1000) (hR : RQ 0 P (gI σ 489)) (i1 : Int32) : ∃ y σ', m12_isSmithyHere F i1 σ = some (y, σ') ∧ Frq σ σ' ∧ OK3 B L 0 (nmP B L (nmP B L (nmP B L p1)), nmF B L 1 999 (nmP B L (nmP B L p1)) (nmF B L 20 99 (nmP B L p1) (nmF B L 1 9 p1 0)), up (up (up P 0 1 (nmR B L 1 9 p1 0)) 0 2 (nmR B L 20 99 (nmP B L p1) (nmF B L 1 9 p1 0))) 0 3 (nmR B L 1 999 (nmP B L (nmP B L p1)) (nmF B L 20 99 (nmP B L p1) (nmF B L 1 9 p1 0)))) y σ' := by
  have hL := hT.1
  have r0 := hR.2.1 rfl
  have p2 := nmP_rg (B := B) (L := L) (p := p1)
  have p3 := nmP_rg (B := B) (L := L) (p := nmP B L p1)
  obtain ⟨σ1, m1, t1, q1⟩ := passWord_r (F := F) hT h (by omega) hF
  rw [← hp1] at t1
  unfold m12_isSmithyHere
  rw [gd_pos (by decide), show (0 : Int32).toNatClampNeg = 0 from rfl, r0, if_pos (by decide), m1, Option.bind_some]
  obtain ⟨y2, σ2, m2, q2, g2⟩ := nmb_r (F := F) (lo := 1) (hi := 9) hT t1 (by omega) hF (by decide) (by decide)
  have m2 : m12_numberHere F (1 : Int32) (9 : Int32) σ1 = _ := m2
  unfold NR at g2
  rw [m2, Option.bind_some]
  dsimp only
  by_cases z1 : nmF B L 1 9 p1 0 = 0
  · rw [if_pos z1] at g2
    rw [if_neg (by rw [g2.1]; decide), z1]
    obtain ⟨y3, σ3, m3, s3, f3, k3, g3⟩ := cell_r (F := F) (c := 1) (lo := 20) (hi := 99) hT g2.2.1 (by omega) hF (by decide) (by decide) (by decide)
    have m3 : m12_cellHere F (1 : Int32) (20 : Int32) (99 : Int32) σ2 = _ := m3
    rw [m3, Option.bind_some]
    dsimp only
    by_cases z2 : nmF B L 20 99 (nmP B L p1) 0 = 0
    · rw [if_pos z2] at g3
      rw [if_neg (by rw [g3.1]; decide), z2]
      obtain ⟨y4, σ4, m4, s4, f4, k4, g4⟩ := cell_r (F := F) (c := 2) (lo := 1) (hi := 999) hT g3.2.1 (by omega) hF (by decide) (by decide) (by decide)
      have m4 : m12_cellHere F (2 : Int32) (1 : Int32) (999 : Int32) σ3 = _ := m4
      rw [m4, Option.bind_some]
      dsimp only
      by_cases z3 : nmF B L 1 999 (nmP B L (nmP B L p1)) 0 = 0
      · rw [if_pos z3] at g4
        rw [if_neg (by rw [g4.1]; decide), gd_pos (by decide), g2.2.2]
        refine ⟨1, _, rfl, (((q1.trans q2).q.trans ⟨f3, s3⟩).trans ⟨f4, s4⟩).s, ok3_good z3 ⟨rfl, g4.2.1.n9, ?_⟩⟩
        have e : ∀ j, j ≠ 0 → j ≠ 1 → j ≠ 2 → gI (sI σ4 489 0 (w32 (nmR B L 1 9 p1 0))) 489 j = gI σ 489 j := fun j h0 h1 h2 => by
          rw [gI_nej h0, k4 j h2, k3 j h1, (q1.trans q2).c (by decide)]
        obtain ⟨a1, a2, a3, a4, a5, a6, a7, a8⟩ := hR
        have u0 : ∀ (a b : Nat), a ≠ 0 ∨ 4 ≤ b → up (up (up P 0 1 (nmR B L 1 9 p1 0)) 0 2 (nmR B L 20 99 (nmP B L p1) 0)) 0 3 (nmR B L 1 999 (nmP B L (nmP B L p1)) 0) a b = P a b := fun a b hab => by rw [up_ne (by omega), up_ne (by omega), up_ne (by omega)]
        show RQ (0 + 1) (up (up (up P 0 1 (nmR B L 1 9 p1 0)) 0 2 (nmR B L 20 99 (nmP B L p1) 0)) 0 3 (nmR B L 1 999 (nmP B L (nmP B L p1)) 0)) (gI (sI σ4 489 0 (w32 (nmR B L 1 9 p1 0))) 489)
        refine ⟨fun _ => ⟨?_, ?_, ?_⟩, fun z => absurd z (by decide), ?_, ?_, fun j h1 h2 => ?_, fun p hp => ?_, fun j hj => ?_, fun k hk => ?_⟩
        · rw [gI_eq, up_ne (by omega), up_ne (by omega), up_eq]
        · rw [gI_nej (by decide), k4 1 (by decide), g3.2.2, up_ne (by omega), up_eq]
        · rw [gI_nej (by decide), g4.2.2, up_eq]
        · rw [e 3 (by decide) (by decide) (by decide), u0 0 4 (by omega)]; exact a3
        · rw [e 4 (by decide) (by decide) (by decide), u0 0 5 (by omega)]; exact a4
        · rw [e j (by omega) (by omega) (by omega)]; exact a5 j h1 h2
        · have hp : (p : Int) < up (up (up P 0 1 (nmR B L 1 9 p1 0)) 0 2 (nmR B L 20 99 (nmP B L p1) 0)) 0 3 (nmR B L 1 999 (nmP B L (nmP B L p1)) 0) 0 4 := hp
          rw [u0 0 4 (by omega)] at hp
          obtain ⟨b1, b2⟩ := a6 p hp
          refine ⟨?_, fun k hk h5 => ?_⟩
          · rw [e _ (by omega) (by omega) (by omega), u0 1 p (by omega)]; exact b1
          · rw [e _ (by omega) (by omega) (by omega)]; exact b2 k hk h5
        · have hj : (j : Int) < up (up (up P 0 1 (nmR B L 1 9 p1 0)) 0 2 (nmR B L 20 99 (nmP B L p1) 0)) 0 3 (nmR B L 1 999 (nmP B L (nmP B L p1)) 0) 0 5 := hj
          rw [u0 0 5 (by omega)] at hj
          rw [u0 2 j (by omega), u0 3 j (by omega), u0 5 j (by omega), u0 6 j (by omega), u0 7 j (by omega), e (31 + 8 * j) (by omega) (by omega) (by omega), e (32 + 8 * j) (by omega) (by omega) (by omega), e (33 + 8 * j) (by omega) (by omega) (by omega), e (34 + 8 * j) (by omega) (by omega) (by omega), e (35 + 8 * j) (by omega) (by omega) (by omega), e (36 + 8 * j) (by omega) (by omega) (by omega), e (37 + 8 * j) (by omega) (by omega) (by omega), e (38 + 8 * j) (by omega) (by omega) (by omega)]
          exact a7 j hj
        · rw [e _ (by omega) (by omega) (by omega), u0 8 k (by omega)]; exact a8 k hk
      · rw [if_neg z3] at g4
        rw [if_pos g4.1]
        exact ⟨0, σ4, rfl, ((q1.trans q2).q.trans ⟨f3, s3⟩).trans ⟨f4, s4⟩, ok3_bad rfl z3 ⟨rfl, g4.2⟩⟩
    · rw [if_neg z2] at g3
      rw [if_pos g3.1]
      exact ⟨0, σ3, rfl, (q1.trans q2).q.trans ⟨f3, s3⟩, ok3_bad (nmF_bad z2) z2 ⟨rfl, g3.2⟩⟩
  · rw [if_neg z1] at g2
    rw [if_pos g2.1]
    have e1 : nmF B L 20 99 (nmP B L p1) (nmF B L 1 9 p1 0) = nmF B L 1 9 p1 0 := nmF_bad z1
    exact ⟨0, σ2, rfl, (q1.trans q2).q, ok3_bad (f := nmF B L 1 9 p1 0) (by show nmF B L 1 999 _ (nmF B L 20 99 _ _) = _; rw [e1]; exact nmF_bad z1) z1 ⟨rfl, g2.2⟩⟩
/-- the rows of the reference's reading, when a cell behind all is changed -/
theorem partHere_r {F : Nat} {B : Nat → Int} {L i p1 : Nat} {P : Dat} {q : Nat} {σ : Mem} (hT : Txt B L) (hF : 1000 ≤ F) (h : RT B L q 0 σ) (hq : q ≤ 1000) (hp1 : p1 = q + rn B L 97 122 q) (hpl : p1 ≤ 1000) (hi : 0 < i) (hC : DC P) (hR : RQ i P (gI σ 489)) : ∃ y σ', m12_isPartHere F σ = some (y, σ') ∧ Frq σ σ' ∧ OK3 B L i (nmP B L (nmP B L p1), nmF B L 0 999 (nmP B L p1) (nmF B L 0 2 p1 0), up P 8 (nmR B L 0 2 p1 0).toNat (nmR B L 0 999 (nmP B L p1) (nmF B L 0 2 p1 0))) y σ' ∧ (y = 0 ∨ y = 1) := by
  have hL := hT.1
  obtain ⟨dc1, dc2, dc3, dc4⟩ := hC
  have p2 := nmP_rg (B := B) (L := L) (p := p1)
  obtain ⟨σ1, m1, t1, q1⟩ := passWord_r (F := F) hT h (by omega) hF
  rw [← hp1] at t1
  unfold m12_isPartHere
  rw [m1, Option.bind_some]
  obtain ⟨y2, σ2, m2, q2, g2⟩ := nmb_r (F := F) (lo := 0) (hi := 2) hT t1 (by omega) hF (by decide) (by decide)
  have m2 : m12_numberHere F (0 : Int32) (2 : Int32) σ1 = _ := m2
  unfold NR at g2
  rw [m2, Option.bind_some]
  dsimp only
  by_cases z1 : nmF B L 0 2 p1 0 = 0
  · rw [if_pos z1] at g2
    have r1 := nmR_ok z1
    rw [if_neg (by rw [g2.1]; decide), z1, g2.2.2, show (95 : Int32) + w32 (nmR B L 0 2 p1 0) = w32 ((95 + (nmR B L 0 2 p1 0).toNat : Nat) : Int) by rw [wl_95, w_add]; congr 1; omega]
    obtain ⟨y3, σ3, m3, s3, f3, k3, g3⟩ := cell_r (F := F) (c := 95 + (nmR B L 0 2 p1 0).toNat) (lo := 0) (hi := 999) hT g2.2.1 (by omega) hF (by omega) (by decide) (by decide)
    have m3 : m12_cellHere F (w32 ((95 + (nmR B L 0 2 p1 0).toNat : Nat) : Int)) (0 : Int32) (999 : Int32) σ2 = _ := m3
    have hy : y3 = 0 ∨ y3 = 1 := by
      by_cases z2 : nmF B L 0 999 (nmP B L p1) 0 = 0
      · rw [if_pos z2] at g3; exact Or.inr g3.1
      · rw [if_neg z2] at g3; exact Or.inl g3.1
    rw [m3, Option.bind_some]
    dsimp only
    rw [gd_pos hy]
    refine ⟨y3, σ3, rfl, (q1.trans q2).q.trans ⟨f3, s3⟩, ?_, hy⟩
    by_cases z2 : nmF B L 0 999 (nmP B L p1) 0 = 0
    · rw [if_pos z2] at g3
      refine ok3_good z2 ⟨g3.1, g3.2.1, ?_⟩
      have e : ∀ j, j ≠ 95 + (nmR B L 0 2 p1 0).toNat → gI σ3 489 j = gI σ 489 j := fun j h0 => by
        rw [k3 j h0, (q1.trans q2).c (by decide)]
      obtain ⟨a1, a2, a3, a4, a5, a6, a7, a8⟩ := hR
      show RQ (i + 1) (up P 8 (nmR B L 0 2 p1 0).toNat (nmR B L 0 999 (nmP B L p1) 0)) (gI σ3 489)
      have u0 : ∀ (a b : Nat), a ≠ 8 → up P 8 (nmR B L 0 2 p1 0).toNat (nmR B L 0 999 (nmP B L p1) 0) a b = P a b := fun a b hab => up_ne (Or.inl hab)
      refine ⟨fun _ => ?_, fun z => absurd z (by omega), ?_, ?_, fun j h1 h2 => ?_, fun p hp => ?_, fun j hj => ?_, fun k hk => ?_⟩
      · rw [u0 0 1 (by decide), u0 0 2 (by decide), u0 0 3 (by decide), e 0 (by omega), e 1 (by omega), e 2 (by omega)]
        exact a1 hi
      · rw [u0 0 4 (by decide), e 3 (by omega)]; exact a3
      · rw [u0 0 5 (by decide), e 4 (by omega)]; exact a4
      · rw [e j (by omega)]; exact a5 j h1 h2
      · rw [u0 0 4 (by decide)] at hp
        obtain ⟨b1, b2⟩ := a6 p hp
        refine ⟨?_, fun k hk h5 => ?_⟩
        · rw [u0 1 p (by decide), e _ (by omega)]; exact b1
        · rw [e _ (by omega)]; exact b2 k hk h5
      · rw [u0 0 5 (by decide)] at hj
        rw [u0 2 j (by omega), u0 3 j (by omega), u0 5 j (by omega), u0 6 j (by omega), u0 7 j (by omega), e (31 + 8 * j) (by omega), e (32 + 8 * j) (by omega), e (33 + 8 * j) (by omega), e (34 + 8 * j) (by omega), e (35 + 8 * j) (by omega), e (36 + 8 * j) (by omega), e (37 + 8 * j) (by omega), e (38 + 8 * j) (by omega)]
        exact a7 j hj
      · by_cases zk : k = (nmR B L 0 2 p1 0).toNat
        · rw [zk, g3.2.2, up_eq]
        · rw [e _ (by omega), up_ne (by omega)]; exact a8 k hk
    · rw [if_neg z2] at g3
      exact ok3_bad rfl z2 g3
  · rw [if_neg z1] at g2
    rw [if_pos g2.1]
    exact ⟨0, σ2, rfl, (q1.trans q2).q, ok3_bad (nmF_bad z1) z1 ⟨rfl, g2.2⟩, Or.inl rfl⟩
theorem smithHere_r {F : Nat} {B : Nat → Int} {L i p1 : Nat} {P : Dat} {q : Nat} {σ : Mem} (hT : Txt B L) (hF : 1000 ≤ F) (h : RT B L q 0 σ) (hq : q ≤ 1000) (hp1 : p1 = q + rn B L 97 122 q) (hpl : p1 ≤ 1000) (hi : 0 < i) (hC : DC P) (h3 : P 0 4 < 3) (hR : RQ i P (gI σ 489)) (i1 : Int32) : ∃ y σ', m12_isSmithHere F i1 σ = some (y, σ') ∧ Frq σ σ' ∧ OK3 B L i (nmP B L p1, nmF B L 1 20 p1 0, up (up P 1 (P 0 4).toNat (nmR B L 1 20 p1 0)) 0 4 (P 0 4 + 1)) y σ' ∧ (y = 0 ∨ y = 1) := by
  have hL := hT.1
  obtain ⟨dc1, dc2, dc3, dc4⟩ := hC
  obtain ⟨a1, a2, a3, a4, a5, a6, a7, a8⟩ := hR
  have p2 := nmP_rg (B := B) (L := L) (p := p1)
  obtain ⟨σ1, m1, t1, q1⟩ := passWord_r (F := F) hT h (by omega) hF
  rw [← hp1] at t1
  obtain ⟨s, hs⟩ : ∃ s : Nat, P 0 4 = (s : Int) := ⟨(P 0 4).toNat, by omega⟩
  have e3 : gI σ1 489 3 = w32 (s : Int) := by rw [q1.c (by decide), a3, hs]
  unfold m12_isSmithHere
  rw [gd_pos (by decide), show (3 : Int32).toNatClampNeg = 3 from rfl, a3, if_neg (by rw [wl_3, w_eq (by omega) (by omega) (by omega) (by omega)]; omega), m1, Option.bind_some, gd_pos (by decide), e3, show (10 : Int32) + (7 : Int32) * w32 (s : Int) = w32 ((10 + 7 * s : Nat) : Int) by rw [wl_10, wl_7, w_mul, w_add]; congr 1 <;> omega, show w32 ((10 + 7 * s : Nat) : Int) + (5 : Int32) = w32 ((10 + 7 * s + 5 : Nat) : Int) by rw [wl_5, w_add]; congr 1]
  obtain ⟨y3, σ3, m3, s3, f3, k3, g3⟩ := cell_r (F := F) (c := 10 + 7 * s + 5) (lo := 1) (hi := 20) hT t1 (by omega) hF (by omega) (by decide) (by decide)
  have m3 : m12_cellHere F (w32 ((10 + 7 * s + 5 : Nat) : Int)) (1 : Int32) (20 : Int32) σ1 = _ := m3
  rw [m3, Option.bind_some]
  dsimp only
  have Q3 : Frq σ σ3 := q1.q.trans ⟨f3, s3⟩
  by_cases z1 : nmF B L 1 20 p1 0 = 0
  · rw [if_pos z1] at g3
    rw [if_neg (by rw [g3.1]; decide)]
    -- the other cells of the smith
    have loop : ∀ (d n k : Nat) (τ : Mem), k + d = 7 → d < n → RT B L (nmP B L p1) 0 τ → Frq σ τ → (∀ j, (j < 10 + 7 * s ∨ 10 + 7 * s + 7 ≤ j ∨ j = 10 + 7 * s + 5) → gI τ 489 j = gI σ3 489 j) → (∀ k', k' < k → k' ≠ 5 → gI τ 489 (10 + 7 * s + k') = w32 0) → ∃ σ', m12_isSmithHere_51 F i1 n (w32 ((10 + 7 * s : Nat) : Int)) (w32 (k : Int)) τ = some (1, σ') ∧ Frq σ σ' ∧ RT B L (nmP B L p1) 0 σ' ∧ gI σ' 489 3 = w32 ((s + 1 : Nat) : Int) ∧ (∀ j, j ≠ 3 → (j < 10 + 7 * s ∨ 10 + 7 * s + 7 ≤ j ∨ j = 10 + 7 * s + 5) → gI σ' 489 j = gI σ3 489 j) ∧ (∀ k', k' < 7 → k' ≠ 5 → gI σ' 489 (10 + 7 * s + k') = w32 0) := by
      intro d
      induction d with
      | zero =>
        intro n k τ e1 e2 hr hf hj hk
        obtain ⟨n, rfl⟩ : ∃ k, n = k + 1 := ⟨n - 1, by omega⟩
        unfold m12_isSmithHere_51
        rw [if_pos (by rw [wl_7, w_le (by omega) (by omega) (by omega) (by omega)]; omega), gd_pos (by decide), gd_pos (by decide), show (3 : Int32).toNatClampNeg = 3 from rfl, hj 3 (by omega), k3 3 (by omega), e3, w_succ]
        refine ⟨_, rfl, hf.s, hr.n9, gI_eq .., fun j h1 h2 => by rw [gI_nej h1]; exact hj j h2, fun k' h1 h2 => ?_⟩
        rw [gI_nej (by omega)]
        exact hk k' (by omega) h2
      | succ d ih =>
        intro n k τ e1 e2 hr hf hj hk
        obtain ⟨n, rfl⟩ : ∃ k, n = k + 1 := ⟨n - 1, by omega⟩
        unfold m12_isSmithHere_51
        rw [if_neg (by rw [wl_7, w_le (by omega) (by omega) (by omega) (by omega)]; omega), w_succ]
        by_cases z5 : k = 5
        · rw [if_pos (by rw [z5]; rfl)]
          exact ih n (k + 1) τ (by omega) (by omega) hr hf hj (fun k' h1 h2 => hk k' (by omega) h2)
        · rw [if_neg (by rw [wl_5, w_eq (by omega) (by omega) (by omega) (by omega)]; omega), show w32 ((10 + 7 * s : Nat) : Int) + w32 (k : Int) = w32 ((10 + 7 * s + k : Nat) : Int) by rw [w_add]; congr 1, gd_pos (w_inB (by omega) (by omega) (by omega)), w_natk (by omega)]
          refine ih n (k + 1) _ (by omega) (by omega) hr.n9 hf.s (fun j h1 => ?_) (fun k' h1 h2 => ?_)
          · rw [gI_nej (by omega)]; exact hj j h1
          · by_cases zk : k' = k
            · rw [zk, gI_eq]; rfl
            · rw [gI_nej (by omega)]; exact hk k' (by omega) h2
    obtain ⟨σ4, m4, f4, t4, c4, j4, k4⟩ := loop 7 F 0 σ3 (by omega) (by omega) g3.2.1 Q3 (fun j _ => rfl) (fun k' hk _ => absurd hk (Nat.not_lt_zero k'))
    refine ⟨1, σ4, m4, f4, ok3_good z1 ⟨rfl, t4, ?_⟩, Or.inr rfl⟩
    have e : ∀ j, j ≠ 3 → (j < 10 + 7 * s ∨ 10 + 7 * s + 7 ≤ j) → gI σ4 489 j = gI σ 489 j := fun j h0 h1 => by
      rw [j4 j h0 (by omega), k3 j (by omega), q1.c (by decide)]
    have es : (P 0 4).toNat = s := by omega
    show RQ (i + 1) (up (up P 1 (P 0 4).toNat (nmR B L 1 20 p1 0)) 0 4 (P 0 4 + 1)) (gI σ4 489)
    rw [es]
    have u0 : ∀ (a b : Nat), (a ≠ 1 ∧ (a ≠ 0 ∨ b ≠ 4)) → up (up P 1 s (nmR B L 1 20 p1 0)) 0 4 (P 0 4 + 1) a b = P a b := fun a b hab => by rw [up_ne (by omega), up_ne (by omega)]
    refine ⟨fun _ => ?_, fun z => absurd z (by omega), ?_, ?_, fun j h1 h2 => ?_, fun p hp => ?_, fun j hj => ?_, fun k hk => ?_⟩
    · rw [u0 0 1 (by omega), u0 0 2 (by omega), u0 0 3 (by omega), e 0 (by omega) (by omega), e 1 (by omega) (by omega), e 2 (by omega) (by omega)]
      exact a1 hi
    · rw [up_eq, c4, hs]; rfl
    · rw [u0 0 5 (by omega), e 4 (by omega) (by omega)]; exact a4
    · rw [e j (by omega) (by omega)]; exact a5 j h1 h2
    · rw [up_eq] at hp
      by_cases zp : p = s
      · refine ⟨?_, fun k hk h5 => ?_⟩
        · rw [zp, up_ne (by omega), up_eq, show 15 + 7 * s = 10 + 7 * s + 5 by omega, j4 _ (by omega) (by omega), g3.2.2]
        · rw [zp]; exact k4 k hk h5
      · obtain ⟨b1, b2⟩ := a6 p (by omega)
        refine ⟨?_, fun k hk h5 => ?_⟩
        · rw [up_ne (by omega), up_ne (by omega), e _ (by omega) (by omega)]; exact b1
        · rw [e _ (by omega) (by omega)]; exact b2 k hk h5
    · rw [u0 0 5 (by omega)] at hj
      rw [u0 2 j (by omega), u0 3 j (by omega), u0 5 j (by omega), u0 6 j (by omega), u0 7 j (by omega), e (31 + 8 * j) (by omega) (by omega), e (32 + 8 * j) (by omega) (by omega), e (33 + 8 * j) (by omega) (by omega), e (34 + 8 * j) (by omega) (by omega), e (35 + 8 * j) (by omega) (by omega), e (36 + 8 * j) (by omega) (by omega), e (37 + 8 * j) (by omega) (by omega), e (38 + 8 * j) (by omega) (by omega)]
      exact a7 j hj
    · rw [u0 8 k (by omega), e _ (by omega) (by omega)]; exact a8 k hk
  · rw [if_neg z1] at g3
    rw [if_pos g3.1]
    exact ⟨0, σ3, rfl, Q3, ok3_bad rfl z1 ⟨rfl, g3.2⟩, Or.inl rfl⟩
