/-! guards -/
def gd {α : Type} (c : Prop) [Decidable c] (x : Option α) : Option α := if c then x else none
def inB (i : Int32) (n : Nat) : Bool := decide (¬ (i < 0 ∨ n ≤ i.toNatClampNeg))
theorem inB_of {i : Int32} {n : Nat} (h : inB i n = true) : vp_in i n := by
  unfold vp_in
  exact of_decide_eq_true h
theorem g_gd {α : Type} {c : Prop} {d : Decidable c} {x : Option α} {z : α} (h : @gd α c d x = some z) : c ∧ x = some z := by
  unfold gd at h
  by_cases hc : c
  · rw [if_pos hc] at h; exact ⟨hc, h⟩
  · rw [if_neg hc] at h; cases h
theorem g_ifn {α : Type} {c : Prop} {d : Decidable c} {x : Option α} {z : α} (h : (@ite _ c d none x) = some z) : ¬ c ∧ x = some z := by
  by_cases hc : c
  · rw [if_pos hc] at h; cases h
  · rw [if_neg hc] at h; exact ⟨hc, h⟩
theorem i_pos {α : Type} {c : Prop} {d : Decidable c} {x y z : α} (hc : c) (h : (@ite _ c d x y) = z) : x = z := by rwa [if_pos hc] at h
theorem i_neg {α : Type} {c : Prop} {d : Decidable c} {x y z : α} (hc : ¬ c) (h : (@ite _ c d x y) = z) : y = z := by rwa [if_neg hc] at h
theorem b_some {α β : Type} {x : Option α} {f : α → Option β} {z : β} (h : Option.bind x f = some z) : ∃ a, x = some a ∧ f a = some z := by
  cases x with
  | none => cases h
  | some a => exact ⟨a, rfl, h⟩
def m0_keepRow_2 (F : Nat) : Nat → Int32 → Mem → Option (Mem)
  | 0, _, _ => none
  | n + 1, x1, σ =>
    if (5 : Int32) ≤ x1 then (
      some σ
      ) else (
      gd (inB x1 5 = true) <|
      gd (inB x1 5 = true) <|
      let σ1 : Mem := sI σ 59 (x1).toNatClampNeg ((gI σ 58 (x1).toNatClampNeg))
      m0_keepRow_2 F n ((x1 + (1 : Int32))) σ1
      )
def m0_keepRow (F : Nat)  (σ : Mem) : Option (Mem) :=
  m0_keepRow_2 F F (0 : Int32) σ
def m7_copyFrom_133 (F : Nat) (c0 : Nat) (c1 : Nat) : Nat → Int32 → Mem → Option (Mem)
  | 0, _, _ => none
  | n + 1, x2, σ =>
    if (3 : Int32) < x2 then (
      some σ
      ) else (
      gd (inB x2 4 = true) <|
      gd (inB x2 4 = true) <|
      let σ1 : Mem := sI σ (c0 + 9) (x2).toNatClampNeg ((gI σ (c1 + 9) (x2).toNatClampNeg))
      m7_copyFrom_133 F c0 c1 n ((x2 + (1 : Int32))) σ1
      )
def m7_copyFrom_83 (F : Nat) (c0 : Nat) (c1 : Nat) : Nat → Int32 → Mem → Option (Mem)
  | 0, _, _ => none
  | n + 1, x2, σ =>
    if (8 : Int32) ≤ x2 then (
      m7_copyFrom_133 F c0 c1 F (0 : Int32) σ
      ) else (
      gd (inB x2 8 = true) <|
      gd (inB x2 8 = true) <|
      let σ1 : Mem := sI σ (c0 + 6) (x2).toNatClampNeg ((gI σ (c1 + 6) (x2).toNatClampNeg))
      gd (inB x2 8 = true) <|
      gd (inB x2 8 = true) <|
      let σ2 : Mem := sI σ1 (c0 + 7) (x2).toNatClampNeg ((gI σ1 (c1 + 7) (x2).toNatClampNeg))
      gd (inB x2 8 = true) <|
      gd (inB x2 8 = true) <|
      let σ3 : Mem := sI σ2 (c0 + 8) (x2).toNatClampNeg ((gI σ2 (c1 + 8) (x2).toNatClampNeg))
      m7_copyFrom_83 F c0 c1 n ((x2 + (1 : Int32))) σ3
      )
def m7_copyFrom_10 (F : Nat) (c0 : Nat) (c1 : Nat) : Nat → Int32 → Mem → Option (Mem)
  | 0, _, _ => none
  | n + 1, x2, σ =>
    if (3 : Int32) ≤ x2 then (
      m7_copyFrom_83 F c0 c1 F (0 : Int32) σ
      ) else (
      gd (inB x2 3 = true) <|
      gd (inB x2 3 = true) <|
      let σ1 : Mem := sI σ (c0 + 1) (x2).toNatClampNeg ((gI σ (c1 + 1) (x2).toNatClampNeg))
      gd (inB x2 3 = true) <|
      gd (inB x2 3 = true) <|
      let σ2 : Mem := sI σ1 (c0 + 2) (x2).toNatClampNeg ((gI σ1 (c1 + 2) (x2).toNatClampNeg))
      gd (inB x2 3 = true) <|
      gd (inB x2 3 = true) <|
      let σ3 : Mem := sI σ2 (c0 + 3) (x2).toNatClampNeg ((gI σ2 (c1 + 3) (x2).toNatClampNeg))
      gd (inB x2 3 = true) <|
      gd (inB x2 3 = true) <|
      let σ4 : Mem := sI σ3 (c0 + 4) (x2).toNatClampNeg ((gI σ3 (c1 + 4) (x2).toNatClampNeg))
      gd (inB x2 3 = true) <|
      gd (inB x2 3 = true) <|
      let σ5 : Mem := sI σ4 (c0 + 5) (x2).toNatClampNeg ((gI σ4 (c1 + 5) (x2).toNatClampNeg))
      m7_copyFrom_10 F c0 c1 n ((x2 + (1 : Int32))) σ5
      )
def m7_copyFrom (F : Nat) (c0 : Nat) (c1 : Nat) (σ : Mem) : Option (Mem) :=
  let σ1 : Mem := sI σ c0 0 (gI σ c1 0)
  m7_copyFrom_10 F c0 c1 F (0 : Int32) σ1
def m7_isToDo (F : Nat) (c0 : Nat) (c1 : Nat) (i2 : Int32) (i3 : Int32) (σ : Mem) : Option (Int32) :=
  gd (inB i3 8 = true) <|
  if (gI σ (c1 + 2) (i3).toNatClampNeg) = i2 then (
    gd (inB i3 8 = true) <|
    if (gI σ (c0 + 6) (i3).toNatClampNeg) ≤ (0 : Int32) then (
      some (0 : Int32)
      ) else (
      some (1 : Int32)
      )
    ) else (
    some (0 : Int32)
    )
def m7_toDo_5 (F : Nat) (c0 : Nat) (c1 : Nat) (i2 : Int32) (σ : Mem) : Nat → Int32 → Int32 → Option (Int32)
  | 0, _, _ => none
  | n + 1, x3, x4 =>
    if (gI σ c1 5) ≤ x4 then (
      some x3
      ) else (
      Option.bind (m7_isToDo F c0 c1 i2 x4 σ) fun p1 =>
      if p1 = (0 : Int32) then (
        m7_toDo_5 F c0 c1 i2 σ n ((x3 + (0 : Int32))) ((x4 + (1 : Int32)))
        ) else (
        m7_toDo_5 F c0 c1 i2 σ n ((x3 + (1 : Int32))) ((x4 + (1 : Int32)))
        )
      )
def m7_toDo (F : Nat) (c0 : Nat) (c1 : Nat) (i2 : Int32) (σ : Mem) : Option (Int32) :=
  m7_toDo_5 F c0 c1 i2 σ F (0 : Int32) (0 : Int32)
def m0_workers_4 (F : Nat) (c1 : Nat) (σ : Mem) : Nat → Int32 → Int32 → Option (Int32)
  | 0, _, _ => none
  | n + 1, x2, x3 =>
    if (gI σ 17 4) ≤ x3 then (
      some x2
      ) else (
      Option.bind (m7_toDo F c1 17 x3 σ) fun p1 =>
      if p1 ≤ (0 : Int32) then (
        m0_workers_4 F c1 σ n ((x2 ||| (0 : Int32))) ((x3 + (1 : Int32)))
        ) else (
        m0_workers_4 F c1 σ n ((x2 ||| ((1 : Int32) <<< (x3 &&& (31 : Int32))))) ((x3 + (1 : Int32)))
        )
      )
def m0_workers (F : Nat) (c1 : Nat) (σ : Mem) : Option (Int32) :=
  m0_workers_4 F c1 σ F (0 : Int32) (0 : Int32)
def m7_jobOf_5 (F : Nat) (c0 : Nat) (c1 : Nat) (i2 : Int32) (σ : Mem) : Nat → Int32 → Int32 → Option (Int32)
  | 0, _, _ => none
  | n + 1, x3, x4 =>
    if (gI σ c1 5) ≤ x4 then (
      some x3
      ) else (
      Option.bind (m7_isToDo F c0 c1 i2 x4 σ) fun p1 =>
      if p1 = (0 : Int32) then (
        m7_jobOf_5 F c0 c1 i2 σ n x3 ((x4 + (1 : Int32)))
        ) else (
        if x3 = (-1 : Int32) then (
          m7_jobOf_5 F c0 c1 i2 σ n x4 ((x4 + (1 : Int32)))
          ) else (
          gd (inB x4 8 = true) <|
          gd (inB x3 8 = true) <|
          if (gI σ (c0 + 8) (x3).toNatClampNeg) ≤ (gI σ (c0 + 8) (x4).toNatClampNeg) then (
            m7_jobOf_5 F c0 c1 i2 σ n x3 ((x4 + (1 : Int32)))
            ) else (
            m7_jobOf_5 F c0 c1 i2 σ n x4 ((x4 + (1 : Int32)))
            )
          )
        )
      )
def m7_jobOf (F : Nat) (c0 : Nat) (c1 : Nat) (i2 : Int32) (σ : Mem) : Option (Int32) :=
  m7_jobOf_5 F c0 c1 i2 σ F (-1 : Int32) (0 : Int32)
def m2_assign_2 (F : Nat) (c1 : Nat) : Nat → Int32 → Mem → Option (Mem)
  | 0, _, _ => none
  | n + 1, x2, σ =>
    if (3 : Int32) ≤ x2 then (
      some σ
      ) else (
      if x2 = (gI σ 40 2) then (
        gd (inB x2 3 = true) <|
        let σ1 : Mem := sI σ 41 (x2).toNatClampNeg (-1 : Int32)
        m2_assign_2 F c1 n ((x2 + (1 : Int32))) σ1
        ) else (
        Option.bind (m7_jobOf F c1 17 x2 σ) fun p2 =>
        gd (inB x2 3 = true) <|
        let σ3 : Mem := sI σ 41 (x2).toNatClampNeg p2
        m2_assign_2 F c1 n ((x2 + (1 : Int32))) σ3
        )
      )
def m2_assign (F : Nat) (c1 : Nat) (σ : Mem) : Option (Mem) :=
  m2_assign_2 F c1 F (0 : Int32) σ
def m2_isHot (F : Nat) (c1 : Nat) (i2 : Int32) (σ : Mem) : Option (Int32) :=
  gd (inB i2 3 = true) <|
  gd (inB i2 3 = true) <|
  gd (inB (gI σ 41 (i2).toNatClampNeg) 8 = true) <|
  if (gI σ (c1 + 1) (i2).toNatClampNeg) < (gI σ 23 ((gI σ 41 (i2).toNatClampNeg)).toNatClampNeg) then (
    some (0 : Int32)
    ) else (
    some (1 : Int32)
    )
def m2_rivals_4 (F : Nat) (i1 : Int32) (σ : Mem) : Nat → Int32 → Int32 → Option (Int32)
  | 0, _, _ => none
  | n + 1, x2, x3 =>
    if (3 : Int32) ≤ x3 then (
      some x2
      ) else (
      if x3 = i1 then (
        m2_rivals_4 F i1 σ n x2 ((x3 + (1 : Int32)))
        ) else (
        gd (inB x3 3 = true) <|
        if (gI σ 41 (x3).toNatClampNeg) = (-1 : Int32) then (
          m2_rivals_4 F i1 σ n x2 ((x3 + (1 : Int32)))
          ) else (
          gd (inB x3 3 = true) <|
          gd (inB (gI σ 41 (x3).toNatClampNeg) 8 = true) <|
          gd (inB i1 3 = true) <|
          gd (inB (gI σ 41 (i1).toNatClampNeg) 8 = true) <|
          if ((gI σ 21 ((gI σ 41 (x3).toNatClampNeg)).toNatClampNeg) &&& (gI σ 21 ((gI σ 41 (i1).toNatClampNeg)).toNatClampNeg)) = (0 : Int32) then (
            m2_rivals_4 F i1 σ n ((x2 + (0 : Int32))) ((x3 + (1 : Int32)))
            ) else (
            m2_rivals_4 F i1 σ n ((x2 + (1 : Int32))) ((x3 + (1 : Int32)))
            )
          )
        )
      )
def m2_rivals (F : Nat) (i1 : Int32) (σ : Mem) : Option (Int32) :=
  m2_rivals_4 F i1 σ F (0 : Int32) (0 : Int32)
def m2_fillWords_175 (F : Nat) (c1 : Nat) (i2 : Int32) (s1 : Int32) (s2 : Int64) (σ : Mem) : Option (Mem) :=
  gd (inB s1 13 = true) <|
  let σ1 : Mem := sL σ 44 (s1).toNatClampNeg s2
  Option.bind (m2_rivals F i2 σ1) fun p2 =>
  gd (inB (9 : Int32) 13 = true) <|
  let σ3 : Mem := sL σ1 44 ((9 : Int32)).toNatClampNeg ((p2).toInt64)
  gd (inB i2 3 = true) <|
  gd (inB (10 : Int32) 13 = true) <|
  let σ4 : Mem := sL σ3 44 ((10 : Int32)).toNatClampNeg (((gI σ3 (c1 + 2) (i2).toNatClampNeg)).toInt64)
  gd (inB i2 3 = true) <|
  gd (inB (11 : Int32) 13 = true) <|
  let σ5 : Mem := sL σ4 44 ((11 : Int32)).toNatClampNeg ((((gI σ4 17 2) - (gI σ4 (c1 + 1) (i2).toNatClampNeg))).toInt64)
  gd (inB i2 3 = true) <|
  gd (inB (12 : Int32) 13 = true) <|
  let σ6 : Mem := sL σ5 44 ((12 : Int32)).toNatClampNeg (((gI σ5 (c1 + 3) (i2).toNatClampNeg)).toInt64)
  some σ6
def m2_fillWords_47 (F : Nat) (c1 : Nat) (i2 : Int32) (x3 : Int32) (s1 : Int32) (s2 : Int64) (σ : Mem) : Option (Mem) :=
  gd (inB s1 13 = true) <|
  let σ1 : Mem := sL σ 44 (s1).toNatClampNeg s2
  gd (inB x3 8 = true) <|
  gd (inB (3 : Int32) 13 = true) <|
  let σ2 : Mem := sL σ1 44 ((3 : Int32)).toNatClampNeg (((gI σ1 23 (x3).toNatClampNeg)).toInt64)
  gd (inB x3 8 = true) <|
  gd (inB (4 : Int32) 13 = true) <|
  let σ3 : Mem := sL σ2 44 ((4 : Int32)).toNatClampNeg (((gI σ2 (c1 + 6) (x3).toNatClampNeg)).toInt64)
  gd (inB x3 8 = true) <|
  gd (inB (5 : Int32) 13 = true) <|
  let σ4 : Mem := sL σ3 44 ((5 : Int32)).toNatClampNeg (((gI σ3 24 (x3).toNatClampNeg)).toInt64)
  gd (inB i2 3 = true) <|
  gd (inB (6 : Int32) 13 = true) <|
  let σ5 : Mem := sL σ4 44 ((6 : Int32)).toNatClampNeg (((gI σ4 18 (i2).toNatClampNeg)).toInt64)
  gd (inB (7 : Int32) 13 = true) <|
  let σ6 : Mem := sL σ5 44 ((7 : Int32)).toNatClampNeg (((gI σ5 c1 0)).toInt64)
  gd (inB x3 8 = true) <|
  if (gI σ6 20 (x3).toNatClampNeg) = (3 : Int32) then (
    gd (inB (0 : Int32) 4 = true) <|
    gd (inB (1 : Int32) 4 = true) <|
    m2_fillWords_175 F c1 i2 (8 : Int32) (((mxI (gI σ6 (c1 + 9) ((0 : Int32)).toNatClampNeg) (gI σ6 (c1 + 9) ((1 : Int32)).toNatClampNeg))).toInt64) σ6
    ) else (
    gd (inB x3 8 = true) <|
    gd (inB (gI σ6 20 (x3).toNatClampNeg) 4 = true) <|
    m2_fillWords_175 F c1 i2 (8 : Int32) (((gI σ6 (c1 + 9) ((gI σ6 20 (x3).toNatClampNeg)).toNatClampNeg)).toInt64) σ6
    )
def m2_fillWords (F : Nat) (c1 : Nat) (i2 : Int32) (σ : Mem) : Option (Mem) :=
  gd (inB i2 3 = true) <|
  gd (inB (0 : Int32) 13 = true) <|
  let σ1 : Mem := sL σ 44 ((0 : Int32)).toNatClampNeg ((i2).toInt64)
  gd (inB i2 3 = true) <|
  gd (inB (1 : Int32) 13 = true) <|
  let σ2 : Mem := sL σ1 44 ((1 : Int32)).toNatClampNeg (((gI σ1 (c1 + 1) (i2).toNatClampNeg)).toInt64)
  Option.bind (m2_isHot F c1 i2 σ2) fun p3 =>
  if p3 = (0 : Int32) then (
    m2_fillWords_47 F c1 i2 ((gI σ 41 (i2).toNatClampNeg)) (2 : Int32) (0 : Int64) σ2
    ) else (
    m2_fillWords_47 F c1 i2 ((gI σ 41 (i2).toNatClampNeg)) (2 : Int32) (1 : Int64) σ2
    )
def m5_worked_383 (F : Nat) (c0 : Nat) (i1 : Int32) (i2 : Int32) (k6 : Int32 → Int32 → Mem → Option (Int64 × Mem)) (x4 : Int32) (x5 : Int32) (x7 : Int64) (σ : Mem) : Option (Int64 × Mem) :=
  gd (inB (x4 - (1 : Int32)) 61 = true) <|
  let σ1 : Mem := sL σ (c0 + 5) ((x4 - (1 : Int32))).toNatClampNeg x7
  k6 x4 ((x5 + (1 : Int32))) σ1
def m5_worked_361 (F : Nat) (c0 : Nat) (i1 : Int32) (i2 : Int32) (k383 : Int32 → Int32 → Int64 → Mem → Option (Int64 × Mem)) (x4 : Int32) (x5 : Int32) (s0 : Int64) (σ : Mem) : Option (Int64 × Mem) :=
  k383 x4 x5 s0 σ
def m5_worked_343 (F : Nat) (c0 : Nat) (i1 : Int32) (i2 : Int32) (k383 : Int32 → Int32 → Int64 → Mem → Option (Int64 × Mem)) (x4 : Int32) (x5 : Int32) (s0 : Int64) (σ : Mem) : Option (Int64 × Mem) :=
  k383 x4 x5 s0 σ
def m5_worked_325 (F : Nat) (c0 : Nat) (i1 : Int32) (i2 : Int32) (k383 : Int32 → Int32 → Int64 → Mem → Option (Int64 × Mem)) (x4 : Int32) (x5 : Int32) (s0 : Int64) (σ : Mem) : Option (Int64 × Mem) :=
  k383 x4 x5 s0 σ
def m5_worked_307 (F : Nat) (c0 : Nat) (i1 : Int32) (i2 : Int32) (k383 : Int32 → Int32 → Int64 → Mem → Option (Int64 × Mem)) (x4 : Int32) (x5 : Int32) (s0 : Int64) (σ : Mem) : Option (Int64 × Mem) :=
  k383 x4 x5 s0 σ
def m5_worked_289 (F : Nat) (c0 : Nat) (i1 : Int32) (i2 : Int32) (k383 : Int32 → Int32 → Int64 → Mem → Option (Int64 × Mem)) (x4 : Int32) (x5 : Int32) (s0 : Int64) (σ : Mem) : Option (Int64 × Mem) :=
  k383 x4 x5 s0 σ
def m5_worked_271 (F : Nat) (c0 : Nat) (i1 : Int32) (i2 : Int32) (k383 : Int32 → Int32 → Int64 → Mem → Option (Int64 × Mem)) (x4 : Int32) (x5 : Int32) (s0 : Int64) (σ : Mem) : Option (Int64 × Mem) :=
  k383 x4 x5 s0 σ
def m5_worked_250 (F : Nat) (c0 : Nat) (i1 : Int32) (i2 : Int32) (k383 : Int32 → Int32 → Int64 → Mem → Option (Int64 × Mem)) (x4 : Int32) (x5 : Int32) (s0 : Int64) (σ : Mem) : Option (Int64 × Mem) :=
  k383 x4 x5 s0 σ
def m5_worked_6 (F : Nat) (c0 : Nat) (i1 : Int32) (i2 : Int32) : Nat → Int32 → Int32 → Mem → Option (Int64 × Mem)
  | 0, _, _, _ => none
  | n + 1, x4, x5, σ =>
    if i2 ≤ x5 then (
      if x4 ≤ (0 : Int32) then (
        some ((0 : Int64), σ)
        ) else (
        gd (inB (0 : Int32) 61 = true) <|
        some ((gL σ (c0 + 5) ((0 : Int32)).toNatClampNeg), σ)
        )
      ) else (
      gd (inB x5 400 = true) <|
      if (gI σ (c0 + 1) (x5).toNatClampNeg) ≤ (-20 : Int32) then (
        if (gI σ (c0 + 1) (x5).toNatClampNeg) = (-30 : Int32) then (
          if x4 ≤ (0 : Int32) then (
            m5_worked_6 F c0 i1 i2 n x4 ((x5 + (1 : Int32))) σ
            ) else (
            gd (inB (x4 - (1 : Int32)) 61 = true) <|
            gd (inB (x4 - (1 : Int32)) 61 = true) <|
            let σ1 : Mem := sL σ (c0 + 5) ((x4 - (1 : Int32))).toNatClampNeg (((1 : Int64) - (gL σ (c0 + 5) ((x4 - (1 : Int32))).toNatClampNeg)))
            m5_worked_6 F c0 i1 i2 n x4 ((x5 + (1 : Int32))) σ1
            )
          ) else (
          if x4 ≤ (1 : Int32) then (
            m5_worked_6 F c0 i1 i2 n x4 ((x5 + (1 : Int32))) σ
            ) else (
            gd (inB ((x4 + (-1 : Int32)) - (1 : Int32)) 61 = true) <|
            gd (inB (x4 + (-1 : Int32)) 61 = true) <|
            if (gI σ (c0 + 1) (x5).toNatClampNeg) = (-31 : Int32) then (
              m5_worked_383 F c0 i1 i2 (fun x4 x5 σ => m5_worked_6 F c0 i1 i2 n x4 x5 σ) ((x4 + (-1 : Int32))) x5 (((gL σ (c0 + 5) (((x4 + (-1 : Int32)) - (1 : Int32))).toNatClampNeg) &&& (gL σ (c0 + 5) ((x4 + (-1 : Int32))).toNatClampNeg))) σ
              ) else (
            if (gI σ (c0 + 1) (x5).toNatClampNeg) = (-30 : Int32) then (
              m5_worked_383 F c0 i1 i2 (fun x4 x5 σ => m5_worked_6 F c0 i1 i2 n x4 x5 σ) ((x4 + (-1 : Int32))) x5 (((gL σ (c0 + 5) (((x4 + (-1 : Int32)) - (1 : Int32))).toNatClampNeg) ||| (gL σ (c0 + 5) ((x4 + (-1 : Int32))).toNatClampNeg))) σ
              ) else (
            if (gI σ (c0 + 1) (x5).toNatClampNeg) = (-29 : Int32) then (
              if (lg_cmp (gL σ (c0 + 5) (((x4 + (-1 : Int32)) - (1 : Int32))).toNatClampNeg) (gL σ (c0 + 5) ((x4 + (-1 : Int32))).toNatClampNeg)) ≤ (0 : Int32) then (
                m5_worked_361 F c0 i1 i2 (fun x4 x5 x7 σ => m5_worked_383 F c0 i1 i2 (fun x4 x5 σ => m5_worked_6 F c0 i1 i2 n x4 x5 σ) x4 x5 x7 σ) ((x4 + (-1 : Int32))) x5 (0 : Int64) σ
                ) else (
                m5_worked_361 F c0 i1 i2 (fun x4 x5 x7 σ => m5_worked_383 F c0 i1 i2 (fun x4 x5 σ => m5_worked_6 F c0 i1 i2 n x4 x5 σ) x4 x5 x7 σ) ((x4 + (-1 : Int32))) x5 (1 : Int64) σ
                )
              ) else (
            if (gI σ (c0 + 1) (x5).toNatClampNeg) = (-28 : Int32) then (
              if (lg_cmp (gL σ (c0 + 5) (((x4 + (-1 : Int32)) - (1 : Int32))).toNatClampNeg) (gL σ (c0 + 5) ((x4 + (-1 : Int32))).toNatClampNeg)) < (0 : Int32) then (
                m5_worked_343 F c0 i1 i2 (fun x4 x5 x7 σ => m5_worked_383 F c0 i1 i2 (fun x4 x5 σ => m5_worked_6 F c0 i1 i2 n x4 x5 σ) x4 x5 x7 σ) ((x4 + (-1 : Int32))) x5 (0 : Int64) σ
                ) else (
                m5_worked_343 F c0 i1 i2 (fun x4 x5 x7 σ => m5_worked_383 F c0 i1 i2 (fun x4 x5 σ => m5_worked_6 F c0 i1 i2 n x4 x5 σ) x4 x5 x7 σ) ((x4 + (-1 : Int32))) x5 (1 : Int64) σ
                )
              ) else (
            if (gI σ (c0 + 1) (x5).toNatClampNeg) = (-27 : Int32) then (
              if (lg_cmp (gL σ (c0 + 5) (((x4 + (-1 : Int32)) - (1 : Int32))).toNatClampNeg) (gL σ (c0 + 5) ((x4 + (-1 : Int32))).toNatClampNeg)) = (0 : Int32) then (
                m5_worked_325 F c0 i1 i2 (fun x4 x5 x7 σ => m5_worked_383 F c0 i1 i2 (fun x4 x5 σ => m5_worked_6 F c0 i1 i2 n x4 x5 σ) x4 x5 x7 σ) ((x4 + (-1 : Int32))) x5 (1 : Int64) σ
                ) else (
                m5_worked_325 F c0 i1 i2 (fun x4 x5 x7 σ => m5_worked_383 F c0 i1 i2 (fun x4 x5 σ => m5_worked_6 F c0 i1 i2 n x4 x5 σ) x4 x5 x7 σ) ((x4 + (-1 : Int32))) x5 (0 : Int64) σ
                )
              ) else (
            if (gI σ (c0 + 1) (x5).toNatClampNeg) = (-26 : Int32) then (
              if (0 : Int32) < (lg_cmp (gL σ (c0 + 5) (((x4 + (-1 : Int32)) - (1 : Int32))).toNatClampNeg) (gL σ (c0 + 5) ((x4 + (-1 : Int32))).toNatClampNeg)) then (
                m5_worked_307 F c0 i1 i2 (fun x4 x5 x7 σ => m5_worked_383 F c0 i1 i2 (fun x4 x5 σ => m5_worked_6 F c0 i1 i2 n x4 x5 σ) x4 x5 x7 σ) ((x4 + (-1 : Int32))) x5 (0 : Int64) σ
                ) else (
                m5_worked_307 F c0 i1 i2 (fun x4 x5 x7 σ => m5_worked_383 F c0 i1 i2 (fun x4 x5 σ => m5_worked_6 F c0 i1 i2 n x4 x5 σ) x4 x5 x7 σ) ((x4 + (-1 : Int32))) x5 (1 : Int64) σ
                )
              ) else (
            if (gI σ (c0 + 1) (x5).toNatClampNeg) = (-25 : Int32) then (
              if (0 : Int32) ≤ (lg_cmp (gL σ (c0 + 5) (((x4 + (-1 : Int32)) - (1 : Int32))).toNatClampNeg) (gL σ (c0 + 5) ((x4 + (-1 : Int32))).toNatClampNeg)) then (
                m5_worked_289 F c0 i1 i2 (fun x4 x5 x7 σ => m5_worked_383 F c0 i1 i2 (fun x4 x5 σ => m5_worked_6 F c0 i1 i2 n x4 x5 σ) x4 x5 x7 σ) ((x4 + (-1 : Int32))) x5 (0 : Int64) σ
                ) else (
                m5_worked_289 F c0 i1 i2 (fun x4 x5 x7 σ => m5_worked_383 F c0 i1 i2 (fun x4 x5 σ => m5_worked_6 F c0 i1 i2 n x4 x5 σ) x4 x5 x7 σ) ((x4 + (-1 : Int32))) x5 (1 : Int64) σ
                )
              ) else (
            if (gI σ (c0 + 1) (x5).toNatClampNeg) = (-24 : Int32) then (
              if (lg_cmp (gL σ (c0 + 5) ((x4 + (-1 : Int32))).toNatClampNeg) (0 : Int64)) = (0 : Int32) then (
                m5_worked_271 F c0 i1 i2 (fun x4 x5 x7 σ => m5_worked_383 F c0 i1 i2 (fun x4 x5 σ => m5_worked_6 F c0 i1 i2 n x4 x5 σ) x4 x5 x7 σ) ((x4 + (-1 : Int32))) x5 (0 : Int64) σ
                ) else (
                gd (¬ (gL σ (c0 + 5) ((x4 + (-1 : Int32))).toNatClampNeg) = 0) <|
                m5_worked_271 F c0 i1 i2 (fun x4 x5 x7 σ => m5_worked_383 F c0 i1 i2 (fun x4 x5 σ => m5_worked_6 F c0 i1 i2 n x4 x5 σ) x4 x5 x7 σ) ((x4 + (-1 : Int32))) x5 ((remL (gL σ (c0 + 5) (((x4 + (-1 : Int32)) - (1 : Int32))).toNatClampNeg) (gL σ (c0 + 5) ((x4 + (-1 : Int32))).toNatClampNeg))) σ
                )
              ) else (
            if (gI σ (c0 + 1) (x5).toNatClampNeg) = (-23 : Int32) then (
              if (lg_cmp (gL σ (c0 + 5) ((x4 + (-1 : Int32))).toNatClampNeg) (0 : Int64)) = (0 : Int32) then (
                m5_worked_250 F c0 i1 i2 (fun x4 x5 x7 σ => m5_worked_383 F c0 i1 i2 (fun x4 x5 σ => m5_worked_6 F c0 i1 i2 n x4 x5 σ) x4 x5 x7 σ) ((x4 + (-1 : Int32))) x5 (0 : Int64) σ
                ) else (
                gd (¬ (gL σ (c0 + 5) ((x4 + (-1 : Int32))).toNatClampNeg) = 0) <|
                m5_worked_250 F c0 i1 i2 (fun x4 x5 x7 σ => m5_worked_383 F c0 i1 i2 (fun x4 x5 σ => m5_worked_6 F c0 i1 i2 n x4 x5 σ) x4 x5 x7 σ) ((x4 + (-1 : Int32))) x5 (((gL σ (c0 + 5) (((x4 + (-1 : Int32)) - (1 : Int32))).toNatClampNeg) / (gL σ (c0 + 5) ((x4 + (-1 : Int32))).toNatClampNeg))) σ
                )
              ) else (
            if (gI σ (c0 + 1) (x5).toNatClampNeg) = (-22 : Int32) then (
              m5_worked_383 F c0 i1 i2 (fun x4 x5 σ => m5_worked_6 F c0 i1 i2 n x4 x5 σ) ((x4 + (-1 : Int32))) x5 (((gL σ (c0 + 5) (((x4 + (-1 : Int32)) - (1 : Int32))).toNatClampNeg) * (gL σ (c0 + 5) ((x4 + (-1 : Int32))).toNatClampNeg))) σ
              ) else (
            if (gI σ (c0 + 1) (x5).toNatClampNeg) = (-21 : Int32) then (
              m5_worked_383 F c0 i1 i2 (fun x4 x5 σ => m5_worked_6 F c0 i1 i2 n x4 x5 σ) ((x4 + (-1 : Int32))) x5 (((gL σ (c0 + 5) (((x4 + (-1 : Int32)) - (1 : Int32))).toNatClampNeg) - (gL σ (c0 + 5) ((x4 + (-1 : Int32))).toNatClampNeg))) σ
              ) else (
            if (gI σ (c0 + 1) (x5).toNatClampNeg) = (-20 : Int32) then (
              m5_worked_383 F c0 i1 i2 (fun x4 x5 σ => m5_worked_6 F c0 i1 i2 n x4 x5 σ) ((x4 + (-1 : Int32))) x5 (((gL σ (c0 + 5) (((x4 + (-1 : Int32)) - (1 : Int32))).toNatClampNeg) + (gL σ (c0 + 5) ((x4 + (-1 : Int32))).toNatClampNeg))) σ
              ) else (
              m5_worked_383 F c0 i1 i2 (fun x4 x5 σ => m5_worked_6 F c0 i1 i2 n x4 x5 σ) ((x4 + (-1 : Int32))) x5 (((gL σ (c0 + 5) (((x4 + (-1 : Int32)) - (1 : Int32))).toNatClampNeg) ||| (gL σ (c0 + 5) ((x4 + (-1 : Int32))).toNatClampNeg))) σ
              ))))))))))))
            )
          )
        ) else (
        if (nI 61) ≤ x4 then (
          m5_worked_6 F c0 i1 i2 n x4 ((x5 + (1 : Int32))) σ
          ) else (
          if (nI 13) ≤ ((-1 : Int32) - (gI σ (c0 + 1) (x5).toNatClampNeg)) then (
            m5_worked_6 F c0 i1 i2 n x4 ((x5 + (1 : Int32))) σ
            ) else (
            if (gI σ (c0 + 1) (x5).toNatClampNeg) < (0 : Int32) then (
              gd (inB ((-1 : Int32) - (gI σ (c0 + 1) (x5).toNatClampNeg)) 13 = true) <|
              gd (inB x4 61 = true) <|
              let σ2 : Mem := sL σ (c0 + 5) (x4).toNatClampNeg ((gL σ 44 (((-1 : Int32) - (gI σ (c0 + 1) (x5).toNatClampNeg))).toNatClampNeg))
              m5_worked_6 F c0 i1 i2 n ((x4 + (1 : Int32))) ((x5 + (1 : Int32))) σ2
              ) else (
              gd (inB x4 61 = true) <|
              let σ3 : Mem := sL σ (c0 + 5) (x4).toNatClampNeg (((gI σ (c0 + 1) (x5).toNatClampNeg)).toInt64)
              m5_worked_6 F c0 i1 i2 n ((x4 + (1 : Int32))) ((x5 + (1 : Int32))) σ3
              )
            )
          )
        )
      )
def m5_worked (F : Nat) (c0 : Nat) (i1 : Int32) (i2 : Int32) (σ : Mem) : Option (Int64 × Mem) :=
  m5_worked_6 F c0 i1 i2 F (0 : Int32) i1 σ
def m5_strikes_53 (F : Nat) (c0 : Nat) (x2 : Int32) (σ : Mem) : Option (Int32 × Mem) :=
  gd (inB x2 12 = true) <|
  gd (inB x2 12 = true) <|
  Option.bind (m5_worked F c0 ((gI σ (c0 + 2) (x2).toNatClampNeg)) ((gI σ (c0 + 3) (x2).toNatClampNeg)) σ) fun p1 =>
  if (lg_cmp p1.1 (0 : Int64)) ≤ (0 : Int32) then (
    some ((0 : Int32), p1.2)
    ) else (
    some ((1 : Int32), p1.2)
    )
def m5_strikes_2 (F : Nat) (c0 : Nat) : Nat → Int32 → Mem → Option (Int32 × Mem)
  | 0, _, _ => none
  | n + 1, x2, σ =>
    if (gI σ c0 3) ≤ x2 then (
      some ((0 : Int32), σ)
      ) else (
      if (12 : Int32) ≤ x2 then (
        some ((0 : Int32), σ)
        ) else (
        gd (inB x2 12 = true) <|
        gd (inB x2 12 = true) <|
        if (gI σ (c0 + 3) (x2).toNatClampNeg) = (gI σ (c0 + 4) (x2).toNatClampNeg) then (
          m5_strikes_53 F c0 x2 σ
          ) else (
          gd (inB x2 12 = true) <|
          gd (inB x2 12 = true) <|
          Option.bind (m5_worked F c0 ((gI σ (c0 + 3) (x2).toNatClampNeg)) ((gI σ (c0 + 4) (x2).toNatClampNeg)) σ) fun p1 =>
          if (lg_cmp p1.1 (0 : Int64)) = (0 : Int32) then (
            m5_strikes_2 F c0 n ((x2 + (1 : Int32))) p1.2
            ) else (
            m5_strikes_53 F c0 x2 p1.2
            )
          )
        )
      )
def m5_strikes (F : Nat) (c0 : Nat) (σ : Mem) : Option (Int32 × Mem) :=
  m5_strikes_2 F c0 F (0 : Int32) σ
def m2_willsToStrike (F : Nat) (c1 : Nat) (i2 : Int32) (σ : Mem) : Option (Int32 × Mem) :=
  if (gI σ 40 3) = (-1 : Int32) then (
    gd (gR σ = 0 ∨ kd (gR σ) = 5) <|
    if (gR σ) = 0 then (
      Option.bind (m2_isHot F c1 i2 σ) fun p1 =>
      gd (p1 = (0 : Int32) ∨ p1 = (1 : Int32)) <|
      some (p1, σ)
      ) else (
      Option.bind (m2_fillWords F c1 i2 σ) fun p2 =>
      gd (gR p2 = 0 ∨ kd (gR p2) = 5) <|
      if (gR p2) = 0 then none else
      Option.bind (m5_strikes F (gR p2) p2) fun p3 =>
      gd (p3.1 = (0 : Int32) ∨ p3.1 = (1 : Int32)) <|
      some (p3.1, p3.2)
      )
    ) else (
    if (((gI σ 40 3) >>> (i2 &&& (31 : Int32))) &&& (1 : Int32)) = (1 : Int32) then (
      some ((1 : Int32), σ)
      ) else (
      some ((0 : Int32), σ)
      )
    )
def m2_heatUp_32 (F : Nat) (c1 : Nat) (i2 : Int32) (σ : Mem) : Option (Mem) :=
  gd (inB i2 3 = true) <|
  if (gI σ (c1 + 1) (i2).toNatClampNeg) ≤ (gI σ 17 2) then (
    some σ
    ) else (
    gd (inB i2 3 = true) <|
    let σ1 : Mem := sI σ (c1 + 1) (i2).toNatClampNeg (0 : Int32)
    gd (inB i2 3 = true) <|
    gd (inB i2 3 = true) <|
    gd (inB (gI σ1 41 (i2).toNatClampNeg) 8 = true) <|
    gd (inB (gI σ1 41 (i2).toNatClampNeg) 8 = true) <|
    let σ2 : Mem := sI σ1 (c1 + 6) ((gI σ1 41 (i2).toNatClampNeg)).toNatClampNeg ((gI σ1 22 ((gI σ1 41 (i2).toNatClampNeg)).toNatClampNeg))
    gd (inB i2 3 = true) <|
    gd (inB i2 3 = true) <|
    let σ3 : Mem := sI σ2 (c1 + 4) (i2).toNatClampNeg (((gI σ2 (c1 + 4) (i2).toNatClampNeg) + (1 : Int32)))
    let σ4 : Mem := sI σ3 40 13 (((gI σ3 40 13) + (1 : Int32)))
    some σ4
    )
def m2_heatUp (F : Nat) (c1 : Nat) (i2 : Int32) (σ : Mem) : Option (Mem) :=
  gd (inB i2 3 = true) <|
  let σ1 : Mem := sI σ (c1 + 2) (i2).toNatClampNeg (0 : Int32)
  if (gI σ1 40 5) = (0 : Int32) then (
    gd (inB i2 3 = true) <|
    gd (inB i2 3 = true) <|
    gd (inB i2 3 = true) <|
    let σ2 : Mem := sI σ1 (c1 + 1) (i2).toNatClampNeg (((gI σ1 (c1 + 1) (i2).toNatClampNeg) + (gI σ1 18 (i2).toNatClampNeg)))
    m2_heatUp_32 F c1 i2 σ2
    ) else (
    m2_heatUp_32 F c1 i2 σ1
    )
def m2_isFree (F : Nat) (c1 : Nat) (i2 : Int32) (σ : Mem) : Option (Int32) :=
  gd (inB i2 4 = true) <|
  if (gI σ 43 (i2).toNatClampNeg) = (-1 : Int32) then (
    gd (inB i2 4 = true) <|
    if (gI σ 17 3) ≤ (gI σ (c1 + 9) (i2).toNatClampNeg) then (
      some (0 : Int32)
      ) else (
      some (1 : Int32)
      )
    ) else (
    some (0 : Int32)
    )
def m2_takes_79 (F : Nat) (c1 : Nat) (i2 : Int32) : Nat → Int32 → Int32 → Mem → Option (Int32 × Mem)
  | 0, _, _, _ => none
  | n + 1, x3, x4, σ =>
    if (3 : Int32) < x4 then (
      some ((1 : Int32), σ)
      ) else (
      if ((x3 >>> (x4 &&& (31 : Int32))) &&& (1 : Int32)) = (1 : Int32) then (
        gd (inB x4 4 = true) <|
        let σ1 : Mem := sI σ 43 (x4).toNatClampNeg i2
        m2_takes_79 F c1 i2 n x3 ((x4 + (1 : Int32))) σ1
        ) else (
        m2_takes_79 F c1 i2 n x3 ((x4 + (1 : Int32))) σ
        )
      )
def m2_takes_42 (F : Nat) (c1 : Nat) (i2 : Int32) : Nat → Int32 → Int32 → Mem → Option (Int32 × Mem)
  | 0, _, _, _ => none
  | n + 1, x3, x4, σ =>
    if (3 : Int32) < x4 then (
      m2_takes_79 F c1 i2 F x3 (0 : Int32) σ
      ) else (
      if ((x3 >>> (x4 &&& (31 : Int32))) &&& (1 : Int32)) = (1 : Int32) then (
        Option.bind (m2_isFree F c1 x4 σ) fun p1 =>
        if p1 = (0 : Int32) then (
          some ((0 : Int32), σ)
          ) else (
          m2_takes_42 F c1 i2 n x3 ((x4 + (1 : Int32))) σ
          )
        ) else (
        m2_takes_42 F c1 i2 n x3 ((x4 + (1 : Int32))) σ
        )
      )
def m2_takes (F : Nat) (c1 : Nat) (i2 : Int32) (σ : Mem) : Option (Int32 × Mem) :=
  gd (inB i2 3 = true) <|
  gd (inB (gI σ 41 (i2).toNatClampNeg) 8 = true) <|
  if (gI σ 40 4) = (0 : Int32) then (
    m2_takes_42 F c1 i2 F ((gI σ 21 ((gI σ 41 (i2).toNatClampNeg)).toNatClampNeg)) (0 : Int32) σ
    ) else (
    if (gI σ 21 ((gI σ 41 (i2).toNatClampNeg)).toNatClampNeg) = (1 : Int32) then (
      Option.bind (m2_isFree F c1 (0 : Int32) σ) fun p1 =>
      if p1 = (0 : Int32) then (
        m2_takes_42 F c1 i2 F (8 : Int32) (0 : Int32) σ
        ) else (
        m2_takes_42 F c1 i2 F ((gI σ 21 ((gI σ 41 (i2).toNatClampNeg)).toNatClampNeg)) (0 : Int32) σ
        )
      ) else (
      m2_takes_42 F c1 i2 F ((gI σ 21 ((gI σ 41 (i2).toNatClampNeg)).toNatClampNeg)) (0 : Int32) σ
      )
    )
def m2_strikeOnce (F : Nat) (c1 : Nat) (i2 : Int32) (σ : Mem) : Option (Mem) :=
  gd (inB i2 3 = true) <|
  Option.bind (m2_isHot F c1 i2 σ) fun p1 =>
  gd (inB i2 3 = true) <|
  let σ2 : Mem := sI σ (c1 + 2) (i2).toNatClampNeg (0 : Int32)
  gd (inB i2 3 = true) <|
  gd (inB i2 3 = true) <|
  let σ3 : Mem := sI σ2 (c1 + 1) (i2).toNatClampNeg ((mxI (0 : Int32) ((gI σ2 (c1 + 1) (i2).toNatClampNeg) - (gI σ2 17 1))))
  if p1 = (0 : Int32) then (
    gd (inB i2 3 = true) <|
    gd (inB i2 3 = true) <|
    let σ4 : Mem := sI σ3 (c1 + 5) (i2).toNatClampNeg (((gI σ3 (c1 + 5) (i2).toNatClampNeg) + (1 : Int32)))
    some σ4
    ) else (
    let σ5 : Mem := sI σ3 40 11 (((gI σ3 40 11) + (1 : Int32)))
    let σ6 : Mem := sI σ5 40 12 (((gI σ5 40 12) ||| ((1 : Int32) <<< (i2 &&& (31 : Int32)))))
    if (gI σ6 40 6) = (0 : Int32) then (
      gd (inB (gI σ 41 (i2).toNatClampNeg) 8 = true) <|
      gd (inB (gI σ 41 (i2).toNatClampNeg) 8 = true) <|
      let σ7 : Mem := sI σ6 (c1 + 6) ((gI σ 41 (i2).toNatClampNeg)).toNatClampNeg (((gI σ6 (c1 + 6) ((gI σ 41 (i2).toNatClampNeg)).toNatClampNeg) - (1 : Int32)))
      gd (inB (gI σ 41 (i2).toNatClampNeg) 8 = true) <|
      if (gI σ7 (c1 + 6) ((gI σ 41 (i2).toNatClampNeg)).toNatClampNeg) = (0 : Int32) then (
        gd (inB i2 3 = true) <|
        let σ8 : Mem := sI σ7 (c1 + 1) (i2).toNatClampNeg (0 : Int32)
        gd (inB i2 3 = true) <|
        gd (inB i2 3 = true) <|
        let σ9 : Mem := sI σ8 (c1 + 3) (i2).toNatClampNeg (((gI σ8 (c1 + 3) (i2).toNatClampNeg) + (1 : Int32)))
        gd (inB (gI σ 41 (i2).toNatClampNeg) 8 = true) <|
        let σ10 : Mem := sI σ9 (c1 + 7) ((gI σ 41 (i2).toNatClampNeg)).toNatClampNeg ((mnI (9999 : Int32) ((gI σ9 c1 0) + (1 : Int32))))
        some σ10
        ) else (
        some σ7
        )
      ) else (
      some σ6
      )
    )
def m2_work_37 (F : Nat) (c1 : Nat) : Nat → Int32 → Mem → Option (Mem)
  | 0, _, _ => none
  | n + 1, x2, σ =>
    if (3 : Int32) ≤ x2 then (
      some σ
      ) else (
      gd (inB x2 3 = true) <|
      if (gI σ 41 (x2).toNatClampNeg) = (-1 : Int32) then (
        m2_work_37 F c1 n ((x2 + (1 : Int32))) σ
        ) else (
        gd (inB x2 3 = true) <|
        if (gI σ 42 (x2).toNatClampNeg) = (0 : Int32) then (
          Option.bind (m2_heatUp F c1 x2 σ) fun p1 =>
          m2_work_37 F c1 n ((x2 + (1 : Int32))) p1
          ) else (
          Option.bind (m2_takes F c1 x2 σ) fun p2 =>
          if p2.1 = (0 : Int32) then (
            gd (inB x2 3 = true) <|
            gd (inB x2 3 = true) <|
            let σ3 : Mem := sI p2.2 (c1 + 2) (x2).toNatClampNeg (((gI p2.2 (c1 + 2) (x2).toNatClampNeg) + (1 : Int32)))
            gd (inB x2 3 = true) <|
            gd (inB x2 3 = true) <|
            let σ4 : Mem := sI σ3 (c1 + 1) (x2).toNatClampNeg ((mxI (0 : Int32) ((gI σ3 (c1 + 1) (x2).toNatClampNeg) - (gI σ3 17 1))))
            m2_work_37 F c1 n ((x2 + (1 : Int32))) σ4
            ) else (
            Option.bind (m2_strikeOnce F c1 x2 p2.2) fun p5 =>
            m2_work_37 F c1 n ((x2 + (1 : Int32))) p5
            )
          )
        )
      )
def m2_work_17 (F : Nat) (c1 : Nat) : Nat → Int32 → Mem → Option (Mem)
  | 0, _, _ => none
  | n + 1, x2, σ =>
    if (3 : Int32) < x2 then (
      m2_work_37 F c1 F (0 : Int32) σ
      ) else (
      gd (inB x2 4 = true) <|
      let σ1 : Mem := sI σ 43 (x2).toNatClampNeg (-1 : Int32)
      m2_work_17 F c1 n ((x2 + (1 : Int32))) σ1
      )
def m2_work (F : Nat) (c1 : Nat) (σ : Mem) : Option (Mem) :=
  let σ1 : Mem := sI σ 40 11 (0 : Int32)
  let σ2 : Mem := sI σ1 40 12 (0 : Int32)
  let σ3 : Mem := sI σ2 40 13 (0 : Int32)
  m2_work_17 F c1 F (0 : Int32) σ3
def m2_go_55 (F : Nat) (c1 : Nat) : Nat → Int32 → Mem → Option (Mem)
  | 0, _, _ => none
  | n + 1, x2, σ =>
    if (3 : Int32) < x2 then (
      let σ1 : Mem := sI σ c1 0 ((mnI (9999 : Int32) ((gI σ c1 0) + (1 : Int32))))
      some σ1
      ) else (
      gd (inB x2 4 = true) <|
      if (gI σ 43 (x2).toNatClampNeg) = (-1 : Int32) then (
        m2_go_55 F c1 n ((x2 + (1 : Int32))) σ
        ) else (
        gd (inB x2 4 = true) <|
        if (9999 : Int32) ≤ (gI σ (c1 + 9) (x2).toNatClampNeg) then (
          m2_go_55 F c1 n ((x2 + (1 : Int32))) σ
          ) else (
          gd (inB x2 4 = true) <|
          gd (inB x2 4 = true) <|
          let σ2 : Mem := sI σ (c1 + 9) (x2).toNatClampNeg (((gI σ (c1 + 9) (x2).toNatClampNeg) + (1 : Int32)))
          m2_go_55 F c1 n ((x2 + (1 : Int32))) σ2
          )
        )
      )
def m2_go_7 (F : Nat) (c1 : Nat) : Nat → Int32 → Mem → Option (Mem)
  | 0, _, _ => none
  | n + 1, x2, σ =>
    if (3 : Int32) ≤ x2 then (
      Option.bind (m2_work F c1 σ) fun p1 =>
      m2_go_55 F c1 F (0 : Int32) p1
      ) else (
      gd (inB x2 3 = true) <|
      if (gI σ 41 (x2).toNatClampNeg) = (-1 : Int32) then (
        gd (inB x2 3 = true) <|
        let σ2 : Mem := sI σ 42 (x2).toNatClampNeg (((0 : Int32) &&& (1 : Int32)))
        m2_go_7 F c1 n ((x2 + (1 : Int32))) σ2
        ) else (
        Option.bind (m2_willsToStrike F c1 x2 σ) fun p3 =>
        if p3.1 = (0 : Int32) then (
          gd (inB x2 3 = true) <|
          let σ4 : Mem := sI p3.2 42 (x2).toNatClampNeg (((0 : Int32) &&& (1 : Int32)))
          m2_go_7 F c1 n ((x2 + (1 : Int32))) σ4
          ) else (
          gd (inB x2 3 = true) <|
          let σ5 : Mem := sI p3.2 42 (x2).toNatClampNeg (((1 : Int32) &&& (1 : Int32)))
          m2_go_7 F c1 n ((x2 + (1 : Int32))) σ5
          )
        )
      )
def m2_go (F : Nat) (c1 : Nat) (σ : Mem) : Option (Mem) :=
  Option.bind (m2_assign F c1 σ) fun p1 =>
  m2_go_7 F c1 F (0 : Int32) p1
def m0_chooseSets_40 (F : Nat) (rec : Int32 → Int32 → Mem → Option (Mem)) (i1 : Int32) (i2 : Int32) : Nat → Int32 → Int32 → Mem → Option (Mem)
  | 0, _, _, _ => none
  | n + 1, x3, x4, σ =>
    if (8 : Int32) ≤ x4 then (
      some σ
      ) else (
      if (x4 &&& (x3 ^^^ (-1 : Int32))) = (0 : Int32) then (
        gd (inB (i1 + (1 : Int32)) 6 = true) <|
        gd (inB i1 6 = true) <|
        Option.bind (m7_copyFrom F ((61 + 10 * ((i1 + (1 : Int32))).toNatClampNeg)) ((61 + 10 * (i1).toNatClampNeg)) σ) fun p1 =>
        let σ2 : Mem := sI p1 40 3 x4
        Option.bind (m2_go F ((61 + 10 * ((i1 + (1 : Int32))).toNatClampNeg)) σ2) fun p3 =>
        gd (inB i1 5 = true) <|
        let σ4 : Mem := sI p3 58 (i1).toNatClampNeg x4
        Option.bind (rec ((i1 + (1 : Int32))) ((i2 + (gI σ4 40 11))) σ4) fun p5 =>
        m0_chooseSets_40 F rec i1 i2 n x3 ((x4 + (1 : Int32))) p5
        ) else (
        m0_chooseSets_40 F rec i1 i2 n x3 ((x4 + (1 : Int32))) σ
        )
      )
def m0_chooseSets_e (F : Nat) (rec : Int32 → Int32 → Mem → Option (Mem)) (i1 : Int32) (i2 : Int32) (σ : Mem) : Option (Mem) :=
  if i1 < (gI σ 56 6) then (
    gd (inB i1 6 = true) <|
    Option.bind (m0_workers F ((61 + 10 * (i1).toNatClampNeg)) σ) fun p1 =>
    m0_chooseSets_40 F rec i1 i2 F p1 (0 : Int32) σ
    ) else (
    if i2 ≤ (gI σ 56 7) then (
      some σ
      ) else (
      let σ2 : Mem := sI σ 56 7 i2
      Option.bind (m0_keepRow F σ2) fun p3 =>
      some p3
      )
    )
def m0_chooseSets (F : Nat) : Nat → Int32 → Int32 → Mem → Option (Mem)
  | 0 => fun _ _ _ => none
  | D + 1 => fun i1 i2 σ => m0_chooseSets_e F (m0_chooseSets F D) i1 i2 σ
def m0_bestRota (F : Nat) (c1 : Nat) (i2 : Int32) (i3 : Int32) (σ : Mem) : Option (Int32 × Mem) :=
  gd (inB (0 : Int32) 6 = true) <|
  Option.bind (m7_copyFrom F ((61 + 10 * ((0 : Int32)).toNatClampNeg)) c1 σ) fun p1 =>
  let σ2 : Mem := sI p1 56 6 ((mnI i2 (4 : Int32)))
  let σ3 : Mem := sI σ2 56 7 (-1 : Int32)
  Option.bind (m0_chooseSets F 6 (0 : Int32) (0 : Int32) σ3) fun p4 =>
  if i3 < (1 : Int32) then (
    some ((gI p4 56 7), p4)
    ) else (
    if (4 : Int32) < i3 then (
      some ((gI p4 56 7), p4)
      ) else (
      gd (inB (i3 - (1 : Int32)) 5 = true) <|
      some ((gI p4 59 ((i3 - (1 : Int32))).toNatClampNeg), p4)
      )
    )
def m0_putFirst (F : Nat) (c1 : Nat) (i2 : Int32) (i3 : Int32) (σ : Mem) : Option (Mem) :=
  if i3 = (0 : Int32) then (
    gd (inB i2 8 = true) <|
    let σ1 : Mem := sI σ (c1 + 8) (i2).toNatClampNeg (-1 : Int32)
    some σ1
    ) else (
    Option.bind (m7_jobOf F c1 17 (gI σ 56 9) σ) fun p2 =>
    if i2 = p2 then (
      gd (inB i2 8 = true) <|
      let σ3 : Mem := sI σ (c1 + 8) (i2).toNatClampNeg (-1 : Int32)
      some σ3
      ) else (
      gd (inB (gI σ 56 9) 3 = true) <|
      let σ4 : Mem := sI σ (c1 + 1) ((gI σ 56 9)).toNatClampNeg (0 : Int32)
      gd (inB i2 8 = true) <|
      let σ5 : Mem := sI σ4 (c1 + 8) (i2).toNatClampNeg (-1 : Int32)
      some σ5
      )
    )
def m0_chooseJobs_169 (F : Nat) (rec : Int32 → Int32 → Mem → Option (Mem)) (i1 : Int32) (i2 : Int32) (k11 : Int32 → Mem → Option (Mem)) (x3 : Int32) (x4 : Nat) (x5 : Int32) (σ : Mem) : Option (Mem) :=
  gd (inB x3 5 = true) <|
  gd (inB (gI σ 60 (x3).toNatClampNeg) 8 = true) <|
  if (gI σ (x4 + 6) ((gI σ 60 (x3).toNatClampNeg)).toNatClampNeg) = (0 : Int32) then (
    let σ1 : Mem := sI σ 56 7 x5
    Option.bind (m0_keepRow F σ1) fun p2 =>
    k11 ((x3 + (1 : Int32))) p2
    ) else (
    k11 ((x3 + (1 : Int32))) σ
    )
def m0_chooseJobs_132 (F : Nat) (rec : Int32 → Int32 → Mem → Option (Mem)) (i1 : Int32) (i2 : Int32) (k11 : Int32 → Mem → Option (Mem)) (x3 : Int32) (x4 : Nat) (x5 : Int32) (σ : Mem) : Option (Mem) :=
  gd (inB x3 5 = true) <|
  gd (inB (gI σ 60 (x3).toNatClampNeg) 8 = true) <|
  if (gI σ (x4 + 6) ((gI σ 60 (x3).toNatClampNeg)).toNatClampNeg) = (0 : Int32) then (
    if (gI σ 56 6) ≤ (i1 + (1 : Int32)) then (
      m0_chooseJobs_169 F rec i1 i2 (fun x3 σ => k11 x3 σ) x3 x4 x5 σ
      ) else (
      Option.bind (rec ((i1 + (1 : Int32))) x5 σ) fun p1 =>
      k11 ((x3 + (1 : Int32))) p1
      )
    ) else (
    m0_chooseJobs_169 F rec i1 i2 (fun x3 σ => k11 x3 σ) x3 x4 x5 σ
    )
def m0_chooseJobs_91 (F : Nat) (rec : Int32 → Int32 → Mem → Option (Mem)) (i1 : Int32) (i2 : Int32) (k11 : Int32 → Mem → Option (Mem)) : Nat → Int32 → Nat → Int32 → Mem → Option (Mem)
  | 0, _, _, _, _ => none
  | n + 1, x3, x4, x5, σ =>
    if ((gI σ 56 7) - (1 : Int32)) ≤ x5 then (
      m0_chooseJobs_132 F rec i1 i2 (fun x3 σ => k11 x3 σ) x3 x4 x5 σ
      ) else (
      gd (inB x3 5 = true) <|
      gd (inB (gI σ 60 (x3).toNatClampNeg) 8 = true) <|
      if (gI σ (x4 + 6) ((gI σ 60 (x3).toNatClampNeg)).toNatClampNeg) ≤ (0 : Int32) then (
        m0_chooseJobs_132 F rec i1 i2 (fun x3 σ => k11 x3 σ) x3 x4 x5 σ
        ) else (
        Option.bind (m2_go F x4 σ) fun p1 =>
        m0_chooseJobs_91 F rec i1 i2 k11 n x3 x4 ((x5 + (1 : Int32))) p1
        )
      )
def m0_chooseJobs_85 (F : Nat) (rec : Int32 → Int32 → Mem → Option (Mem)) (i1 : Int32) (i2 : Int32) (k11 : Int32 → Mem → Option (Mem)) (x3 : Int32) (x4 : Nat) (s1 : Nat) (s2 : Int32) (s3 : Int32) (σ : Mem) : Option (Mem) :=
  Option.bind (m0_putFirst F s1 s2 s3 σ) fun p1 =>
  m0_chooseJobs_91 F rec i1 i2 (fun x3 σ => k11 x3 σ) F x3 x4 i2 p1
def m0_chooseJobs_11 (F : Nat) (rec : Int32 → Int32 → Mem → Option (Mem)) (i1 : Int32) (i2 : Int32) : Nat → Int32 → Mem → Option (Mem)
  | 0, _, _ => none
  | n + 1, x3, σ =>
    if (gI σ 56 6) ≤ x3 then (
      some σ
      ) else (
      gd (inB (i1 + (1 : Int32)) 6 = true) <|
      gd (inB i1 6 = true) <|
      Option.bind (m7_copyFrom F ((61 + 10 * ((i1 + (1 : Int32))).toNatClampNeg)) ((61 + 10 * (i1).toNatClampNeg)) σ) fun p1 =>
      gd (inB x3 5 = true) <|
      gd (inB (gI p1 60 (x3).toNatClampNeg) 8 = true) <|
      if (gI p1 (((61 + 10 * ((i1 + (1 : Int32))).toNatClampNeg) + 6)) ((gI p1 60 (x3).toNatClampNeg)).toNatClampNeg) ≤ (0 : Int32) then (
        m0_chooseJobs_11 F rec i1 i2 n ((x3 + (1 : Int32))) p1
        ) else (
        gd (inB x3 5 = true) <|
        gd (inB i1 5 = true) <|
        let σ2 : Mem := sI p1 58 (i1).toNatClampNeg ((gI p1 60 (x3).toNatClampNeg))
        gd (inB x3 5 = true) <|
        if i1 = (0 : Int32) then (
          m0_chooseJobs_85 F rec i1 i2 (fun x3 σ => m0_chooseJobs_11 F rec i1 i2 n x3 σ) x3 ((61 + 10 * ((i1 + (1 : Int32))).toNatClampNeg)) ((61 + 10 * ((i1 + (1 : Int32))).toNatClampNeg)) ((gI σ2 60 (x3).toNatClampNeg)) (1 : Int32) σ2
          ) else (
          m0_chooseJobs_85 F rec i1 i2 (fun x3 σ => m0_chooseJobs_11 F rec i1 i2 n x3 σ) x3 ((61 + 10 * ((i1 + (1 : Int32))).toNatClampNeg)) ((61 + 10 * ((i1 + (1 : Int32))).toNatClampNeg)) ((gI σ2 60 (x3).toNatClampNeg)) (0 : Int32) σ2
          )
        )
      )
def m0_chooseJobs_e (F : Nat) (rec : Int32 → Int32 → Mem → Option (Mem)) (i1 : Int32) (i2 : Int32) (σ : Mem) : Option (Mem) :=
  if i1 < (gI σ 56 6) then (
    m0_chooseJobs_11 F rec i1 i2 F (0 : Int32) σ
    ) else (
    some σ
    )
def m0_chooseJobs (F : Nat) : Nat → Int32 → Int32 → Mem → Option (Mem)
  | 0 => fun _ _ _ => none
  | D + 1 => fun i1 i2 σ => m0_chooseJobs_e F (m0_chooseJobs F D) i1 i2 σ
def m0_bestOrder_99 (F : Nat) (c1 : Nat) (i2 : Int32) (i3 : Int32) (s1 : Int32) (σ : Mem) : Option (Int32 × Mem) :=
  let σ1 : Mem := sI σ 56 7 s1
  Option.bind (m0_chooseJobs F 7 (0 : Int32) (0 : Int32) σ1) fun p2 =>
  if (500 : Int32) < (gI p2 56 7) then (
    some ((-2 : Int32), p2)
    ) else (
    if i3 ≤ (gI p2 56 6) then (
      if i3 < (1 : Int32) then (
        some (((gI p2 c1 0) + (gI p2 56 7)), p2)
        ) else (
        if (5 : Int32) < i3 then (
          some (((gI p2 c1 0) + (gI p2 56 7)), p2)
          ) else (
          gd (inB (i3 - (1 : Int32)) 5 = true) <|
          some ((gI p2 59 ((i3 - (1 : Int32))).toNatClampNeg), p2)
          )
        )
      ) else (
      some ((-2 : Int32), p2)
      )
    )
def m0_bestOrder_84 (F : Nat) (c1 : Nat) (i2 : Int32) (i3 : Int32) (σ : Mem) : Option (Int32 × Mem) :=
  if (gI σ 56 6) = (0 : Int32) then (
    m0_bestOrder_99 F c1 i2 i3 (0 : Int32) σ
    ) else (
    m0_bestOrder_99 F c1 i2 i3 (501 : Int32) σ
    )
def m0_bestOrder_23 (F : Nat) (c1 : Nat) (i2 : Int32) (i3 : Int32) : Nat → Int32 → Mem → Option (Int32 × Mem)
  | 0, _, _ => none
  | n + 1, x4, σ =>
    if (gI σ 17 5) ≤ x4 then (
      m0_bestOrder_84 F c1 i2 i3 σ
      ) else (
      if (5 : Int32) ≤ (gI σ 56 6) then (
        m0_bestOrder_84 F c1 i2 i3 σ
        ) else (
        Option.bind (m7_isToDo F c1 17 i2 x4 σ) fun p1 =>
        if p1 = (0 : Int32) then (
          m0_bestOrder_23 F c1 i2 i3 n ((x4 + (1 : Int32))) σ
          ) else (
          gd (inB (gI σ 56 6) 5 = true) <|
          let σ2 : Mem := sI σ 60 ((gI σ 56 6)).toNatClampNeg x4
          let σ3 : Mem := sI σ2 56 6 (((gI σ2 56 6) + (1 : Int32)))
          m0_bestOrder_23 F c1 i2 i3 n ((x4 + (1 : Int32))) σ3
          )
        )
      )
def m0_bestOrder (F : Nat) (c1 : Nat) (i2 : Int32) (i3 : Int32) (σ : Mem) : Option (Int32 × Mem) :=
  gd (inB (0 : Int32) 6 = true) <|
  Option.bind (m7_copyFrom F ((61 + 10 * ((0 : Int32)).toNatClampNeg)) c1 σ) fun p1 =>
  let σ2 : Mem := sI p1 56 9 i2
  let σ3 : Mem := sI σ2 56 6 (0 : Int32)
  m0_bestOrder_23 F c1 i2 i3 F (0 : Int32) σ3
def m0_chooseBeside_73 (F : Nat) (rec : Int32 → Int32 → Int32 → Int32 → Mem → Option (Mem)) (i1 : Int32) (i2 : Int32) (i3 : Int32) (i4 : Int32) : Nat → Int32 → Mem → Option (Mem)
  | 0, _, _ => none
  | n + 1, x5, σ =>
    if (gI σ 17 5) ≤ x5 then (
      some σ
      ) else (
      gd (inB (0 : Int32) 6 = true) <|
      Option.bind (m7_isToDo F ((61 + 10 * ((0 : Int32)).toNatClampNeg)) 17 i1 x5 σ) fun p1 =>
      if p1 = (0 : Int32) then (
        m0_chooseBeside_73 F rec i1 i2 i3 i4 n ((x5 + (1 : Int32))) σ
        ) else (
        gd (inB x5 8 = true) <|
        if ((gI σ 21 (x5).toNatClampNeg) &&& i2) = (0 : Int32) then (
          gd (inB i1 5 = true) <|
          let σ2 : Mem := sI σ 58 (i1).toNatClampNeg x5
          gd (inB x5 8 = true) <|
          gd (inB x5 8 = true) <|
          Option.bind (rec ((i1 + (1 : Int32))) ((i2 ||| (gI σ2 21 (x5).toNatClampNeg))) ((i3 + (1 : Int32))) ((i4 + (gI σ2 24 (x5).toNatClampNeg))) σ2) fun p3 =>
          m0_chooseBeside_73 F rec i1 i2 i3 i4 n ((x5 + (1 : Int32))) p3
          ) else (
          m0_chooseBeside_73 F rec i1 i2 i3 i4 n ((x5 + (1 : Int32))) σ
          )
        )
      )
def m0_chooseBeside_36 (F : Nat) (rec : Int32 → Int32 → Int32 → Int32 → Mem → Option (Mem)) (i1 : Int32) (i2 : Int32) (i3 : Int32) (i4 : Int32) (σ : Mem) : Option (Mem) :=
  let σ1 : Mem := sI σ 56 7 i3
  let σ2 : Mem := sI σ1 56 8 i4
  Option.bind (m0_keepRow F σ2) fun p3 =>
  some p3
def m0_chooseBeside_e (F : Nat) (rec : Int32 → Int32 → Int32 → Int32 → Mem → Option (Mem)) (i1 : Int32) (i2 : Int32) (i3 : Int32) (i4 : Int32) (σ : Mem) : Option (Mem) :=
  if i1 < (gI σ 17 4) then (
    gd (inB i1 5 = true) <|
    let σ1 : Mem := sI σ 58 (i1).toNatClampNeg (-1 : Int32)
    Option.bind (rec ((i1 + (1 : Int32))) i2 i3 i4 σ1) fun p2 =>
    m0_chooseBeside_73 F rec i1 i2 i3 i4 F (0 : Int32) p2
    ) else (
    if (gI σ 56 7) < i3 then (
      m0_chooseBeside_36 F rec i1 i2 i3 i4 σ
      ) else (
      if i3 = (gI σ 56 7) then (
        if i4 ≤ (gI σ 56 8) then (
          some σ
          ) else (
          m0_chooseBeside_36 F rec i1 i2 i3 i4 σ
          )
        ) else (
        some σ
        )
      )
    )
def m0_chooseBeside (F : Nat) : Nat → Int32 → Int32 → Int32 → Int32 → Mem → Option (Mem)
  | 0 => fun _ _ _ _ _ => none
  | D + 1 => fun i1 i2 i3 i4 σ => m0_chooseBeside_e F (m0_chooseBeside F D) i1 i2 i3 i4 σ
def m0_bestBeside_22 (F : Nat) (c1 : Nat) (i2 : Int32) : Nat → Int32 → Mem → Option (Int32 × Mem)
  | 0, _, _ => none
  | n + 1, x3, σ =>
    if (5 : Int32) ≤ x3 then (
      Option.bind (m0_chooseBeside F 5 (0 : Int32) (0 : Int32) (0 : Int32) (0 : Int32) σ) fun p1 =>
      if i2 = (0 : Int32) then (
        some ((gI p1 56 7), p1)
        ) else (
        if i2 < (2 : Int32) then (
          some ((gI p1 56 8), p1)
          ) else (
          if (3 : Int32) ≤ (i2 - (2 : Int32)) then (
            some ((gI p1 56 8), p1)
            ) else (
            gd (inB (i2 - (2 : Int32)) 5 = true) <|
            some ((gI p1 59 ((i2 - (2 : Int32))).toNatClampNeg), p1)
            )
          )
        )
      ) else (
      gd (inB x3 5 = true) <|
      let σ2 : Mem := sI σ 58 (x3).toNatClampNeg (-1 : Int32)
      m0_bestBeside_22 F c1 i2 n ((x3 + (1 : Int32))) σ2
      )
def m0_bestBeside (F : Nat) (c1 : Nat) (i2 : Int32) (σ : Mem) : Option (Int32 × Mem) :=
  gd (inB (0 : Int32) 6 = true) <|
  Option.bind (m7_copyFrom F ((61 + 10 * ((0 : Int32)).toNatClampNeg)) c1 σ) fun p1 =>
  let σ2 : Mem := sI p1 56 7 (-1 : Int32)
  let σ3 : Mem := sI σ2 56 8 (-1 : Int32)
  m0_bestBeside_22 F c1 i2 F (0 : Int32) σ3
def m2_plain (F : Nat) (c1 : Nat) (σ : Mem) : Option (Mem) :=
  let σ1 : Mem := sR σ c1
  let σ2 : Mem := sI σ1 40 2 (-1 : Int32)
  let σ3 : Mem := sI σ2 40 3 (-1 : Int32)
  let σ4 : Mem := sI σ3 40 4 (0 : Int32)
  let σ5 : Mem := sI σ4 40 5 (0 : Int32)
  let σ6 : Mem := sI σ5 40 6 (0 : Int32)
  some σ6
def m3_latest_4 (F : Nat) (c0 : Nat) (σ : Mem) : Nat → Int32 → Int32 → Option (Int32)
  | 0, _, _ => none
  | n + 1, x1, x2 =>
    if (gI σ c0 0) ≤ x2 then (
      some x1
      ) else (
      gd (inB x2 10 = true) <|
      m3_latest_4 F c0 σ n ((mxI x1 (gI σ (c0 + 1) (x2).toNatClampNeg))) ((x2 + (1 : Int32)))
      )
def m3_latest (F : Nat) (c0 : Nat) (σ : Mem) : Option (Int32) :=
  m3_latest_4 F c0 σ F (-1 : Int32) (0 : Int32)
def m7_begin_95 (F : Nat) (c0 : Nat) (c1 : Nat) : Nat → Int32 → Mem → Option (Mem)
  | 0, _, _ => none
  | n + 1, x2, σ =>
    if (3 : Int32) ≤ x2 then (
      gd (inB (3 : Int32) 4 = true) <|
      let σ1 : Mem := sI σ (c0 + 9) ((3 : Int32)).toNatClampNeg (0 : Int32)
      some σ1
      ) else (
      gd (inB x2 3 = true) <|
      gd (inB x2 4 = true) <|
      let σ2 : Mem := sI σ (c0 + 9) (x2).toNatClampNeg ((gI σ (c1 + 8) (x2).toNatClampNeg))
      m7_begin_95 F c0 c1 n ((x2 + (1 : Int32))) σ2
      )
def m7_begin_55 (F : Nat) (c0 : Nat) (c1 : Nat) : Nat → Int32 → Mem → Option (Mem)
  | 0, _, _ => none
  | n + 1, x2, σ =>
    if (8 : Int32) ≤ x2 then (
      m7_begin_95 F c0 c1 F (0 : Int32) σ
      ) else (
      gd (inB x2 8 = true) <|
      gd (inB x2 8 = true) <|
      let σ1 : Mem := sI σ (c0 + 6) (x2).toNatClampNeg ((gI σ (c1 + 5) (x2).toNatClampNeg))
      gd (inB x2 8 = true) <|
      let σ2 : Mem := sI σ1 (c0 + 7) (x2).toNatClampNeg (-1 : Int32)
      gd (inB x2 8 = true) <|
      let σ3 : Mem := sI σ2 (c0 + 8) (x2).toNatClampNeg x2
      m7_begin_55 F c0 c1 n ((x2 + (1 : Int32))) σ3
      )
def m7_begin_7 (F : Nat) (c0 : Nat) (c1 : Nat) : Nat → Int32 → Mem → Option (Mem)
  | 0, _, _ => none
  | n + 1, x2, σ =>
    if (3 : Int32) ≤ x2 then (
      m7_begin_55 F c0 c1 F (0 : Int32) σ
      ) else (
      gd (inB x2 3 = true) <|
      let σ1 : Mem := sI σ (c0 + 1) (x2).toNatClampNeg (0 : Int32)
      gd (inB x2 3 = true) <|
      let σ2 : Mem := sI σ1 (c0 + 2) (x2).toNatClampNeg (0 : Int32)
      gd (inB x2 3 = true) <|
      let σ3 : Mem := sI σ2 (c0 + 3) (x2).toNatClampNeg (0 : Int32)
      gd (inB x2 3 = true) <|
      let σ4 : Mem := sI σ3 (c0 + 4) (x2).toNatClampNeg (0 : Int32)
      gd (inB x2 3 = true) <|
      let σ5 : Mem := sI σ4 (c0 + 5) (x2).toNatClampNeg (0 : Int32)
      m7_begin_7 F c0 c1 n ((x2 + (1 : Int32))) σ5
      )
def m7_begin (F : Nat) (c0 : Nat) (c1 : Nat) (σ : Mem) : Option (Mem) :=
  let σ1 : Mem := sI σ c0 0 (0 : Int32)
  m7_begin_7 F c0 c1 F (0 : Int32) σ1
def m3_agree_2 (F : Nat) (c0 : Nat) (i1 : Int32) (c2 : Nat) (σ : Mem) : Nat → Int32 → Option (Int32)
  | 0, _ => none
  | n + 1, x3 =>
    if (gI σ c0 0) ≤ x3 then (
      some (1 : Int32)
      ) else (
      gd (inB x3 10 = true) <|
      if (gI σ (c0 + 1) (x3).toNatClampNeg) = i1 then (
        gd (inB x3 10 = true) <|
        gd (inB (gI σ (c0 + 2) (x3).toNatClampNeg) 4 = true) <|
        gd (inB x3 10 = true) <|
        if (gI σ (c2 + 9) ((gI σ (c0 + 2) (x3).toNatClampNeg)).toNatClampNeg) = (gI σ (c0 + 3) (x3).toNatClampNeg) then (
          m3_agree_2 F c0 i1 c2 σ n ((x3 + (1 : Int32)))
          ) else (
          some (0 : Int32)
          )
        ) else (
        m3_agree_2 F c0 i1 c2 σ n ((x3 + (1 : Int32)))
        )
      )
def m3_agree (F : Nat) (c0 : Nat) (i1 : Int32) (c2 : Nat) (σ : Mem) : Option (Int32) :=
  m3_agree_2 F c0 i1 c2 σ F (0 : Int32)
def m1_fits_82 (F : Nat) (c1 : Nat) (i2 : Int32) (k23 : Int32 → Int32 → Mem → Option (Int32 × Mem)) (x3 : Int32) (x4 : Int32) (σ : Mem) : Option (Int32 × Mem) :=
  Option.bind (m2_go F 136 σ) fun p1 =>
  k23 x3 ((x4 + (1 : Int32))) p1
def m1_fits_53 (F : Nat) (c1 : Nat) (i2 : Int32) (k82 : Int32 → Int32 → Mem → Option (Int32 × Mem)) : Nat → Int32 → Int32 → Int32 → Mem → Option (Int32 × Mem)
  | 0, _, _, _, _ => none
  | n + 1, x3, x4, x5, σ =>
    if (3 : Int32) ≤ x5 then (
      k82 x3 x4 σ
      ) else (
      gd (inB x5 4 = true) <|
      gd (inB x5 3 = true) <|
      let σ1 : Mem := sI σ 146 (x5).toNatClampNeg ((gI σ 145 (x5).toNatClampNeg))
      m1_fits_53 F c1 i2 k82 n x3 x4 ((x5 + (1 : Int32))) σ1
      )
def m1_fits_23 (F : Nat) (c1 : Nat) (i2 : Int32) : Nat → Int32 → Int32 → Mem → Option (Int32 × Mem)
  | 0, _, _, _ => none
  | n + 1, x3, x4, σ =>
    if x3 < x4 then (
      some ((1 : Int32), σ)
      ) else (
      Option.bind (m3_agree F c1 x4 136 σ) fun p1 =>
      if p1 = (0 : Int32) then (
        some ((0 : Int32), σ)
        ) else (
        if x4 = i2 then (
          m1_fits_53 F c1 i2 (fun x3 x4 σ => m1_fits_82 F c1 i2 (fun x3 x4 σ => m1_fits_23 F c1 i2 n x3 x4 σ) x3 x4 σ) F x3 x4 (0 : Int32) σ
          ) else (
          m1_fits_82 F c1 i2 (fun x3 x4 σ => m1_fits_23 F c1 i2 n x3 x4 σ) x3 x4 σ
          )
        )
      )
def m1_fits (F : Nat) (c1 : Nat) (i2 : Int32) (σ : Mem) : Option (Int32 × Mem) :=
  Option.bind (m3_latest F c1 σ) fun p1 =>
  Option.bind (m7_begin F 136 17 σ) fun p2 =>
  m1_fits_23 F c1 i2 F (mxI i2 p1) (0 : Int32) p2
def m1_weigh_89 (F : Nat) (i2 : Int32) (c3 : Nat) (i4 : Int32) (k13 : Int32 → Mem → Option (Mem)) : Nat → Int32 → Int32 → Mem → Option (Mem)
  | 0, _, _, _ => none
  | n + 1, x5, x6, σ =>
    if (3 : Int32) ≤ x6 then (
      let σ1 : Mem := sI σ 135 5 (((gI σ 135 5) + (1 : Int32)))
      k13 ((x5 + (1 : Int32))) σ1
      ) else (
      gd (inB x6 3 = true) <|
      gd (inB x6 3 = true) <|
      gd (inB (gI σ 135 5) 7 = true) <|
      let σ2 : Mem := sI σ ((148 + 1 * (x6).toNatClampNeg)) ((gI σ 135 5)).toNatClampNeg ((gI σ 146 (x6).toNatClampNeg))
      m1_weigh_89 F i2 c3 i4 k13 n x5 ((x6 + (1 : Int32))) σ2
      )
def m1_weigh_44 (F : Nat) (i2 : Int32) (c3 : Nat) (i4 : Int32) (k13 : Int32 → Mem → Option (Mem)) (x5 : Int32) (s1 : Nat) (σ : Mem) : Option (Mem) :=
  Option.bind (m2_plain F s1 σ) fun p1 =>
  if (6 : Int32) < (gI p1 135 5) then (
    k13 ((x5 + (1 : Int32))) p1
    ) else (
    Option.bind (m1_fits F c3 i4 p1) fun p2 =>
    if p2.1 = (0 : Int32) then (
      k13 ((x5 + (1 : Int32))) p2.2
      ) else (
      if (gI p2.2 135 5) = (0 : Int32) then (
        let σ3 : Mem := sI p2.2 135 6 x5
        m1_weigh_89 F i2 c3 i4 (fun x5 σ => k13 x5 σ) F x5 (0 : Int32) σ3
        ) else (
        let σ4 : Mem := sI p2.2 135 6 (gI p2.2 135 6)
        m1_weigh_89 F i2 c3 i4 (fun x5 σ => k13 x5 σ) F x5 (0 : Int32) σ4
        )
      )
    )
def m1_weigh_13 (F : Nat) (i2 : Int32) (c3 : Nat) (i4 : Int32) : Nat → Int32 → Mem → Option (Mem)
  | 0, _, _ => none
  | n + 1, x5, σ =>
    if i2 ≤ x5 then (
      some σ
      ) else (
      if (nI 6) ≤ x5 then (
        some σ
        ) else (
        if x5 = (-1 : Int32) then (
          m1_weigh_44 F i2 c3 i4 (fun x5 σ => m1_weigh_13 F i2 c3 i4 n x5 σ) x5 0 σ
          ) else (
          gd (inB x5 6 = true) <|
          m1_weigh_44 F i2 c3 i4 (fun x5 σ => m1_weigh_13 F i2 c3 i4 n x5 σ) x5 ((151 + 6 * (x5).toNatClampNeg)) σ
          )
        )
      )
def m1_weigh (F : Nat) (i2 : Int32) (c3 : Nat) (i4 : Int32) (σ : Mem) : Option (Mem) :=
  let σ1 : Mem := sI σ 135 5 (0 : Int32)
  let σ2 : Mem := sI σ1 135 6 (-1 : Int32)
  m1_weigh_13 F i2 c3 i4 F (-1 : Int32) σ2
def m1_mostAlike_18 (F : Nat) (i1 : Int32) (σ : Mem) (k4 : Int32 → Int32 → Option (Int32)) : Nat → Int32 → Int32 → Int32 → Int32 → Option (Int32)
  | 0, _, _, _, _ => none
  | n + 1, x2, x3, x4, x5 =>
    if (gI σ 135 5) ≤ x5 then (
      k4 (mxI x2 x4) ((x3 + (1 : Int32)))
      ) else (
      gd (inB i1 3 = true) <|
      gd (inB x3 7 = true) <|
      gd (inB i1 3 = true) <|
      gd (inB x5 7 = true) <|
      if (gI σ ((148 + 1 * (i1).toNatClampNeg)) (x3).toNatClampNeg) = (gI σ ((148 + 1 * (i1).toNatClampNeg)) (x5).toNatClampNeg) then (
        m1_mostAlike_18 F i1 σ k4 n x2 x3 ((x4 + (1 : Int32))) ((x5 + (1 : Int32)))
        ) else (
        m1_mostAlike_18 F i1 σ k4 n x2 x3 ((x4 + (0 : Int32))) ((x5 + (1 : Int32)))
        )
      )
def m1_mostAlike_4 (F : Nat) (i1 : Int32) (σ : Mem) : Nat → Int32 → Int32 → Option (Int32)
  | 0, _, _ => none
  | n + 1, x2, x3 =>
    if (gI σ 135 5) ≤ x3 then (
      some x2
      ) else (
      m1_mostAlike_18 F i1 σ (fun x2 x3 => m1_mostAlike_4 F i1 σ n x2 x3) F x2 x3 (0 : Int32) (0 : Int32)
      )
def m1_mostAlike (F : Nat) (i1 : Int32) (σ : Mem) : Option (Int32) :=
  m1_mostAlike_4 F i1 σ F (0 : Int32) (0 : Int32)
def m1_partingPart_4 (F : Nat) (σ : Mem) : Nat → Int32 → Int32 → Option (Int32)
  | 0, _, _ => none
  | n + 1, x1, x2 =>
    if (3 : Int32) ≤ x2 then (
      some x1
      ) else (
      Option.bind (m1_mostAlike F x2 σ) fun p1 =>
      Option.bind (m1_mostAlike F x1 σ) fun p2 =>
      if p2 ≤ p1 then (
        m1_partingPart_4 F σ n x1 ((x2 + (1 : Int32)))
        ) else (
        m1_partingPart_4 F σ n x2 ((x2 + (1 : Int32)))
        )
      )
def m1_partingPart (F : Nat)  (σ : Mem) : Option (Int32) :=
  m1_partingPart_4 F σ F (0 : Int32) (1 : Int32)
def m3_copyFrom_10 (F : Nat) (c0 : Nat) (c1 : Nat) : Nat → Int32 → Mem → Option (Mem)
  | 0, _, _ => none
  | n + 1, x2, σ =>
    if (10 : Int32) ≤ x2 then (
      some σ
      ) else (
      gd (inB x2 10 = true) <|
      gd (inB x2 10 = true) <|
      let σ1 : Mem := sI σ (c0 + 1) (x2).toNatClampNeg ((gI σ (c1 + 1) (x2).toNatClampNeg))
      gd (inB x2 10 = true) <|
      gd (inB x2 10 = true) <|
      let σ2 : Mem := sI σ1 (c0 + 2) (x2).toNatClampNeg ((gI σ1 (c1 + 2) (x2).toNatClampNeg))
      gd (inB x2 10 = true) <|
      gd (inB x2 10 = true) <|
      let σ3 : Mem := sI σ2 (c0 + 3) (x2).toNatClampNeg ((gI σ2 (c1 + 3) (x2).toNatClampNeg))
      m3_copyFrom_10 F c0 c1 n ((x2 + (1 : Int32))) σ3
      )
def m3_copyFrom (F : Nat) (c0 : Nat) (c1 : Nat) (σ : Mem) : Option (Mem) :=
  let σ1 : Mem := sI σ c0 0 (gI σ c1 0)
  m3_copyFrom_10 F c0 c1 F (0 : Int32) σ1
def m3_add (F : Nat) (c0 : Nat) (i1 : Int32) (i2 : Int32) (i3 : Int32) (σ : Mem) : Option (Mem) :=
  if (10 : Int32) ≤ (gI σ c0 0) then (
    some σ
    ) else (
    gd (inB (gI σ c0 0) 10 = true) <|
    let σ1 : Mem := sI σ (c0 + 1) ((gI σ c0 0)).toNatClampNeg i1
    gd (inB (gI σ1 c0 0) 10 = true) <|
    let σ2 : Mem := sI σ1 (c0 + 2) ((gI σ1 c0 0)).toNatClampNeg i2
    gd (inB (gI σ2 c0 0) 10 = true) <|
    let σ3 : Mem := sI σ2 (c0 + 3) ((gI σ2 c0 0)).toNatClampNeg i3
    let σ4 : Mem := sI σ3 c0 0 (((gI σ3 c0 0) + (1 : Int32)))
    some σ4
    )
def m4_copyFrom_161 (F : Nat) (c0 : Nat) (c1 : Nat) : Nat → Int32 → Mem → Option (Mem)
  | 0, _, _ => none
  | n + 1, x2, σ =>
    if (3 : Int32) ≤ x2 then (
      some σ
      ) else (
      gd (inB x2 3 = true) <|
      gd (inB x2 3 = true) <|
      let σ1 : Mem := sI σ (c0 + 8) (x2).toNatClampNeg ((gI σ (c1 + 8) (x2).toNatClampNeg))
      m4_copyFrom_161 F c0 c1 n ((x2 + (1 : Int32))) σ1
      )
def m4_copyFrom_75 (F : Nat) (c0 : Nat) (c1 : Nat) : Nat → Int32 → Mem → Option (Mem)
  | 0, _, _ => none
  | n + 1, x2, σ =>
    if (8 : Int32) ≤ x2 then (
      m4_copyFrom_161 F c0 c1 F (0 : Int32) σ
      ) else (
      gd (inB x2 8 = true) <|
      gd (inB x2 8 = true) <|
      let σ1 : Mem := sI σ (c0 + 2) (x2).toNatClampNeg ((gI σ (c1 + 2) (x2).toNatClampNeg))
      gd (inB x2 8 = true) <|
      gd (inB x2 8 = true) <|
      let σ2 : Mem := sI σ1 (c0 + 3) (x2).toNatClampNeg ((gI σ1 (c1 + 3) (x2).toNatClampNeg))
      gd (inB x2 8 = true) <|
      gd (inB x2 8 = true) <|
      let σ3 : Mem := sI σ2 (c0 + 4) (x2).toNatClampNeg ((gI σ2 (c1 + 4) (x2).toNatClampNeg))
      gd (inB x2 8 = true) <|
      gd (inB x2 8 = true) <|
      let σ4 : Mem := sI σ3 (c0 + 5) (x2).toNatClampNeg ((gI σ3 (c1 + 5) (x2).toNatClampNeg))
      gd (inB x2 8 = true) <|
      gd (inB x2 8 = true) <|
      let σ5 : Mem := sI σ4 (c0 + 6) (x2).toNatClampNeg ((gI σ4 (c1 + 6) (x2).toNatClampNeg))
      gd (inB x2 8 = true) <|
      gd (inB x2 8 = true) <|
      let σ6 : Mem := sI σ5 (c0 + 7) (x2).toNatClampNeg ((gI σ5 (c1 + 7) (x2).toNatClampNeg))
      m4_copyFrom_75 F c0 c1 n ((x2 + (1 : Int32))) σ6
      )
def m4_copyFrom_50 (F : Nat) (c0 : Nat) (c1 : Nat) : Nat → Int32 → Mem → Option (Mem)
  | 0, _, _ => none
  | n + 1, x2, σ =>
    if (3 : Int32) ≤ x2 then (
      m4_copyFrom_75 F c0 c1 F (0 : Int32) σ
      ) else (
      gd (inB x2 3 = true) <|
      gd (inB x2 3 = true) <|
      let σ1 : Mem := sI σ (c0 + 1) (x2).toNatClampNeg ((gI σ (c1 + 1) (x2).toNatClampNeg))
      m4_copyFrom_50 F c0 c1 n ((x2 + (1 : Int32))) σ1
      )
def m4_copyFrom (F : Nat) (c0 : Nat) (c1 : Nat) (σ : Mem) : Option (Mem) :=
  gd ((gI σ c1 0) = (0 : Int32) ∨ (gI σ c1 0) = (1 : Int32)) <|
  let σ1 : Mem := sI σ c0 0 (gI σ c1 0)
  let σ2 : Mem := sI σ1 c0 1 (gI σ1 c1 1)
  let σ3 : Mem := sI σ2 c0 2 (gI σ2 c1 2)
  let σ4 : Mem := sI σ3 c0 3 (gI σ3 c1 3)
  let σ5 : Mem := sI σ4 c0 4 (gI σ4 c1 4)
  let σ6 : Mem := sI σ5 c0 5 (gI σ5 c1 5)
  m4_copyFrom_50 F c0 c1 F (0 : Int32) σ6
def m8_rewind (F : Nat)  (σ : Mem) : Option (Mem) :=
  let σ1 : Mem := sI σ 1 2 (0 : Int32)
  let σ2 : Mem := sI σ1 1 3 (0 : Int32)
  some σ2
def m8_next_38 (F : Nat) (σ : Mem) : Option (Int32 × Mem) :=
  if (gI σ 1 1) ≤ (gI σ 1 2) then (
    some ((-1 : Int32), σ)
    ) else (
    gd (inB (gI σ 1 2) 400 = true) <|
    some ((gI σ 2 ((gI σ 1 2)).toNatClampNeg), σ)
    )
def m8_next_0 (F : Nat) : Nat → Mem → Option (Int32 × Mem)
  | 0, _ => none
  | n + 1, σ =>
    if (gI σ 1 1) ≤ (gI σ 1 2) then (
      m8_next_38 F σ
      ) else (
      gd (inB (gI σ 1 2) 400 = true) <|
      if (gI σ 2 ((gI σ 1 2)).toNatClampNeg) = (32 : Int32) then (
        let σ1 : Mem := sI σ 1 2 (((gI σ 1 2) + (1 : Int32)))
        m8_next_0 F n σ1
        ) else (
        m8_next_38 F σ
        )
      )
def m8_next (F : Nat)  (σ : Mem) : Option (Int32 × Mem) :=
  m8_next_0 F F σ
def m8_run_5 (F : Nat) (i1 : Int32) (i2 : Int32) (σ : Mem) : Nat → Int32 → Option (Int32)
  | 0, _ => none
  | n + 1, x3 =>
    if (gI σ 1 1) ≤ x3 then (
      some ((x3 - (gI σ 1 2)))
      ) else (
      gd (inB x3 400 = true) <|
      if (gI σ 2 (x3).toNatClampNeg) < i1 then (
        some ((x3 - (gI σ 1 2)))
        ) else (
        gd (inB x3 400 = true) <|
        if i2 < (gI σ 2 (x3).toNatClampNeg) then (
          some ((x3 - (gI σ 1 2)))
          ) else (
          m8_run_5 F i1 i2 σ n ((x3 + (1 : Int32)))
          )
        )
      )
def m8_run (F : Nat) (i1 : Int32) (i2 : Int32) (σ : Mem) : Option (Int32) :=
  m8_run_5 F i1 i2 σ F (gI σ 1 2)
def m8_word_49 (F : Nat) (c1 : Nat) (σ : Mem) (k20 : Int32 → Int32 → Int32 → Int32 → Int32 → Option (Int32)) (x2 : Int32) (x3 : Int32) (x4 : Int32) (x5 : Int32) (x6 : Int32) (s0 : Int32) : Option (Int32) :=
  if s0 = (32 : Int32) then (
    if x5 = x2 then (
      if x4 = x2 then (
        if x2 ≤ (0 : Int32) then (
          k20 x2 ((x3 + (1 : Int32))) (0 : Int32) (0 : Int32) ((x6 + (1 : Int32)))
          ) else (
          some x3
          )
        ) else (
        k20 x2 ((x3 + (1 : Int32))) (0 : Int32) (0 : Int32) ((x6 + (1 : Int32)))
        )
      ) else (
      k20 x2 ((x3 + (1 : Int32))) (0 : Int32) (0 : Int32) ((x6 + (1 : Int32)))
      )
    ) else (
    if x2 ≤ x5 then (
      k20 x2 x3 ((x4 + (0 : Int32))) ((x5 + (1 : Int32))) ((x6 + (1 : Int32)))
      ) else (
      gd (inB ((gI σ 1 2) + x5) 400 = true) <|
      if (gI σ 2 (((gI σ 1 2) + x5)).toNatClampNeg) = s0 then (
        k20 x2 x3 ((x4 + (1 : Int32))) ((x5 + (1 : Int32))) ((x6 + (1 : Int32)))
        ) else (
        k20 x2 x3 ((x4 + (0 : Int32))) ((x5 + (1 : Int32))) ((x6 + (1 : Int32)))
        )
      )
    )
def m8_word_20 (F : Nat) (c1 : Nat) (σ : Mem) : Nat → Int32 → Int32 → Int32 → Int32 → Int32 → Option (Int32)
  | 0, _, _, _, _, _ => none
  | n + 1, x2, x3, x4, x5, x6 =>
    if (nI (lenS.getD c1 0)) < x6 then (
      some (-1 : Int32)
      ) else (
      if (nI (lenS.getD c1 0)) ≤ x6 then (
        m8_word_49 F c1 σ (fun x2 x3 x4 x5 x6 => m8_word_20 F c1 σ n x2 x3 x4 x5 x6) x2 x3 x4 x5 x6 (32 : Int32)
        ) else (
        gd (inB x6 (lenS.getD c1 0) = true) <|
        m8_word_49 F c1 σ (fun x2 x3 x4 x5 x6 => m8_word_20 F c1 σ n x2 x3 x4 x5 x6) x2 x3 x4 x5 x6 (((bytS.getD c1 []).getD (x6).toNatClampNeg 0))
        )
      )
def m8_word (F : Nat) (c1 : Nat) (σ : Mem) : Option (Int32) :=
  Option.bind (m8_run F (97 : Int32) (122 : Int32) σ) fun p1 =>
  m8_word_20 F c1 σ F p1 (0 : Int32) (0 : Int32) (0 : Int32) (0 : Int32)
def m8_fail (F : Nat) (i1 : Int32) (i2 : Int32) (σ : Mem) : Option (Mem) :=
  if (gI σ 1 3) = (0 : Int32) then (
    let σ1 : Mem := sI σ 1 3 ((((1 : Int32) + ((8 : Int32) * i1)) + i2))
    some σ1
    ) else (
    some σ
    )
def m8_passWord (F : Nat)  (σ : Mem) : Option (Mem) :=
  Option.bind (m8_run F (97 : Int32) (122 : Int32) σ) fun p1 =>
  let σ2 : Mem := sI σ 1 2 (((gI σ 1 2) + p1))
  some σ2
def m8_number_103 (F : Nat) (i1 : Int32) (i2 : Int32) (x3 : Int32) (x4 : Int32) (σ : Mem) : Option (Int32 × Mem) :=
  let σ1 : Mem := sI σ 1 2 (((gI σ 1 2) + x3))
  if (gI σ1 1 3) = (0 : Int32) then (
    some (x4, σ1)
    ) else (
    some (i1, σ1)
    )
def m8_number_94 (F : Nat) (i1 : Int32) (i2 : Int32) (k103 : Int32 → Int32 → Mem → Option (Int32 × Mem)) (x3 : Int32) (x4 : Int32) (σ : Mem) : Option (Int32 × Mem) :=
  Option.bind (m8_fail F (gI σ 1 2) (1 : Int32) σ) fun p1 =>
  k103 x3 x4 p1
def m8_number_61 (F : Nat) (i1 : Int32) (i2 : Int32) (x3 : Int32) (x4 : Int32) (σ : Mem) : Option (Int32 × Mem) :=
  if x3 = (0 : Int32) then (
    Option.bind (m8_fail F (gI σ 1 2) (0 : Int32) σ) fun p1 =>
    m8_number_103 F i1 i2 x3 x4 p1
    ) else (
    if (5 : Int32) < x3 then (
      m8_number_94 F i1 i2 (fun x3 x4 σ => m8_number_103 F i1 i2 x3 x4 σ) x3 x4 σ
      ) else (
      if x4 < i1 then (
        m8_number_94 F i1 i2 (fun x3 x4 σ => m8_number_103 F i1 i2 x3 x4 σ) x3 x4 σ
        ) else (
        if x4 ≤ i2 then (
          m8_number_103 F i1 i2 x3 x4 σ
          ) else (
          m8_number_94 F i1 i2 (fun x3 x4 σ => m8_number_103 F i1 i2 x3 x4 σ) x3 x4 σ
          )
        )
      )
    )
def m8_number_20 (F : Nat) (i1 : Int32) (i2 : Int32) : Nat → Int32 → Int32 → Int32 → Mem → Option (Int32 × Mem)
  | 0, _, _, _, _ => none
  | n + 1, x3, x4, x5, σ =>
    if x3 ≤ x5 then (
      m8_number_61 F i1 i2 x3 x4 σ
      ) else (
      if (5 : Int32) ≤ x5 then (
        m8_number_61 F i1 i2 x3 x4 σ
        ) else (
        gd (inB ((gI σ 1 2) + x5) 400 = true) <|
        m8_number_20 F i1 i2 n x3 ((((x4 * (10 : Int32)) + (gI σ 2 (((gI σ 1 2) + x5)).toNatClampNeg)) - (48 : Int32))) ((x5 + (1 : Int32))) σ
        )
      )
def m8_number (F : Nat) (i1 : Int32) (i2 : Int32) (σ : Mem) : Option (Int32 × Mem) :=
  Option.bind (m8_next F σ) fun p1 =>
  Option.bind (m8_run F (48 : Int32) (57 : Int32) p1.2) fun p2 =>
  m8_number_20 F i1 i2 F p2 (0 : Int32) (0 : Int32) p1.2
def m4_readJob_81 (F : Nat) (c0 : Nat) (s0 : Nat) (s1 : Int32) (s2 : Int32) (σ : Mem) : Option (Mem) :=
  gd (inB s1 8 = true) <|
  let σ1 : Mem := sI σ s0 (s1).toNatClampNeg s2
  Option.bind (m8_number F (1 : Int32) (30 : Int32) σ1) fun p2 =>
  gd (inB (gI σ1 c0 5) 8 = true) <|
  let σ3 : Mem := sI p2.2 (c0 + 5) ((gI σ1 c0 5)).toNatClampNeg p2.1
  Option.bind (m8_number F (1 : Int32) (50 : Int32) σ3) fun p4 =>
  gd (inB (gI σ3 c0 5) 8 = true) <|
  let σ5 : Mem := sI p4.2 (c0 + 6) ((gI σ3 c0 5)).toNatClampNeg p4.1
  Option.bind (m8_number F (0 : Int32) (50 : Int32) σ5) fun p6 =>
  gd (inB (gI σ5 c0 5) 8 = true) <|
  let σ7 : Mem := sI p6.2 (c0 + 7) ((gI σ5 c0 5)).toNatClampNeg p6.1
  let σ8 : Mem := sI σ7 c0 5 (((gI σ7 c0 5) + (1 : Int32)))
  some σ8
def m4_readJob (F : Nat) (c0 : Nat) (σ : Mem) : Option (Mem) :=
  Option.bind (m8_number F (0 : Int32) (((gI σ c0 4) - (1 : Int32))) σ) fun p1 =>
  gd (inB (gI σ c0 5) 8 = true) <|
  let σ2 : Mem := sI p1.2 (c0 + 2) ((gI σ c0 5)).toNatClampNeg p1.1
  Option.bind (m8_next F σ2) fun p3 =>
  Option.bind (m8_word F 1 p3.2) fun p4 =>
  if p4 = (-1 : Int32) then (
    Option.bind (m8_fail F (gI p3.2 1 2) (0 : Int32) p3.2) fun p5 =>
    some p5
    ) else (
    Option.bind (m8_passWord F p3.2) fun p6 =>
    gd (inB (gI p6 c0 5) 8 = true) <|
    let σ7 : Mem := sI p6 (c0 + 3) ((gI p6 c0 5)).toNatClampNeg p4
    if p4 = (3 : Int32) then (
      m4_readJob_81 F c0 (c0 + 4) (gI σ7 c0 5) (3 : Int32) σ7
      ) else (
      m4_readJob_81 F c0 (c0 + 4) (gI σ7 c0 5) (((1 : Int32) <<< (p4 &&& (31 : Int32)))) σ7
      )
    )
def m4_readClause_90 (F : Nat) (c0 : Nat) (i2 : Int32) (k93 : Mem → Option (Mem)) (x3 : Int32) (s0 : Int32) (s1 : Int32) (σ : Mem) : Option (Mem) :=
  if s0 = s1 then (
    Option.bind (m8_passWord F σ) fun p1 =>
    if x3 = (0 : Int32) then (
      Option.bind (m8_number F (1 : Int32) (9 : Int32) p1) fun p2 =>
      let σ3 : Mem := sI p2.2 c0 1 p2.1
      Option.bind (m8_number F (20 : Int32) (99 : Int32) σ3) fun p4 =>
      let σ5 : Mem := sI p4.2 c0 2 p4.1
      Option.bind (m8_number F (1 : Int32) (999 : Int32) σ5) fun p6 =>
      let σ7 : Mem := sI p6.2 c0 3 p6.1
      some σ7
      ) else (
      if x3 = (1 : Int32) then (
        Option.bind (m8_number F (1 : Int32) (20 : Int32) p1) fun p8 =>
        gd (inB (gI p1 c0 4) 3 = true) <|
        let σ9 : Mem := sI p8.2 (c0 + 1) ((gI p1 c0 4)).toNatClampNeg p8.1
        let σ10 : Mem := sI σ9 c0 4 (((gI σ9 c0 4) + (1 : Int32)))
        some σ10
        ) else (
        if x3 = (2 : Int32) then (
          Option.bind (m4_readJob F c0 p1) fun p11 =>
          some p11
          ) else (
          Option.bind (m8_number F (0 : Int32) (2 : Int32) p1) fun p12 =>
          Option.bind (m8_number F (0 : Int32) (999 : Int32) p12.2) fun p13 =>
          gd (inB p12.1 3 = true) <|
          let σ14 : Mem := sI p13.2 (c0 + 8) (p12.1).toNatClampNeg p13.1
          some σ14
          )
        )
      )
    ) else (
    k93 σ
    )
def m4_readClause_93 (F : Nat) (c0 : Nat) (i2 : Int32) (σ : Mem) : Option (Mem) :=
  Option.bind (m8_fail F (gI σ 1 2) (4 : Int32) σ) fun p1 =>
  some p1
def m4_readClause_81 (F : Nat) (c0 : Nat) (i2 : Int32) (k93 : Mem → Option (Mem)) (x3 : Int32) (s0 : Int32) (σ : Mem) : Option (Mem) :=
  if i2 = (0 : Int32) then (
    m4_readClause_90 F c0 i2 (fun σ => k93 σ) x3 s0 (1 : Int32) σ
    ) else (
    m4_readClause_90 F c0 i2 (fun σ => k93 σ) x3 s0 (0 : Int32) σ
    )
def m4_readClause_64 (F : Nat) (c0 : Nat) (i2 : Int32) (k65 : Int32 → Int32 → Mem → Option (Mem)) (x3 : Int32) (σ : Mem) : Option (Mem) :=
  k65 x3 (0 : Int32) σ
def m4_readClause_65 (F : Nat) (c0 : Nat) (i2 : Int32) (x3 : Int32) (s0 : Int32) (σ : Mem) : Option (Mem) :=
  if s0 = (0 : Int32) then (
    if x3 = (0 : Int32) then (
      m4_readClause_81 F c0 i2 (fun σ => m4_readClause_93 F c0 i2 σ) x3 (1 : Int32) σ
      ) else (
      m4_readClause_81 F c0 i2 (fun σ => m4_readClause_93 F c0 i2 σ) x3 (0 : Int32) σ
      )
    ) else (
    m4_readClause_93 F c0 i2 σ
    )
def m4_readClause_60 (F : Nat) (c0 : Nat) (i2 : Int32) (k65 : Int32 → Int32 → Mem → Option (Mem)) (x3 : Int32) (σ : Mem) : Option (Mem) :=
  k65 x3 (1 : Int32) σ
def m4_readClause_46 (F : Nat) (c0 : Nat) (i2 : Int32) (k60 : Int32 → Mem → Option (Mem)) (k65 : Int32 → Int32 → Mem → Option (Mem)) (x3 : Int32) (σ : Mem) : Option (Mem) :=
  if x3 = (2 : Int32) then (
    if (gI σ c0 5) < (8 : Int32) then (
      m4_readClause_64 F c0 i2 (fun x3 s0 σ => k65 x3 s0 σ) x3 σ
      ) else (
      k60 x3 σ
      )
    ) else (
    m4_readClause_64 F c0 i2 (fun x3 s0 σ => k65 x3 s0 σ) x3 σ
    )
def m4_readClause (F : Nat) (c0 : Nat) (i2 : Int32) (σ : Mem) : Option (Mem) :=
  Option.bind (m8_next F σ) fun p1 =>
  Option.bind (m8_word F 0 p1.2) fun p2 =>
  if p2 = (-1 : Int32) then (
    Option.bind (m8_fail F (gI p1.2 1 2) (0 : Int32) p1.2) fun p3 =>
    some p3
    ) else (
    if (40 : Int32) ≤ i2 then (
      m4_readClause_60 F c0 i2 (fun x3 s0 σ => m4_readClause_65 F c0 i2 x3 s0 σ) p2 p1.2
      ) else (
      if p2 = (1 : Int32) then (
        if (3 : Int32) ≤ (gI p1.2 c0 4) then (
          m4_readClause_60 F c0 i2 (fun x3 s0 σ => m4_readClause_65 F c0 i2 x3 s0 σ) p2 p1.2
          ) else (
          m4_readClause_46 F c0 i2 (fun x3 σ => m4_readClause_60 F c0 i2 (fun x3 s0 σ => m4_readClause_65 F c0 i2 x3 s0 σ) x3 σ) (fun x3 s0 σ => m4_readClause_65 F c0 i2 x3 s0 σ) p2 p1.2
          )
        ) else (
        m4_readClause_46 F c0 i2 (fun x3 σ => m4_readClause_60 F c0 i2 (fun x3 s0 σ => m4_readClause_65 F c0 i2 x3 s0 σ) x3 σ) (fun x3 s0 σ => m4_readClause_65 F c0 i2 x3 s0 σ) p2 p1.2
        )
      )
    )
def m4_read_94 (F : Nat) (c0 : Nat) (k41 : Int32 → Mem → Option (Int32 × Mem)) (x2 : Int32) (σ : Mem) : Option (Int32 × Mem) :=
  let σ1 : Mem := sI σ 1 2 (((gI σ 1 2) + (1 : Int32)))
  k41 ((x2 + (1 : Int32))) σ1
def m4_read_79 (F : Nat) (c0 : Nat) (k41 : Int32 → Mem → Option (Int32 × Mem)) (x2 : Int32) (x3 : Int32) (σ : Mem) : Option (Int32 × Mem) :=
  if x3 = (59 : Int32) then (
    m4_read_94 F c0 (fun x2 σ => k41 x2 σ) x2 σ
    ) else (
    Option.bind (m8_fail F (gI σ 1 2) (0 : Int32) σ) fun p1 =>
    m4_read_94 F c0 (fun x2 σ => k41 x2 σ) x2 p1
    )
def m4_read_41 (F : Nat) (c0 : Nat) : Nat → Int32 → Mem → Option (Int32 × Mem)
  | 0, _, _ => none
  | n + 1, x2, σ =>
    if (40 : Int32) < x2 then (
      some ((gI σ 1 3), σ)
      ) else (
      if (gI σ 1 3) = (0 : Int32) then (
        Option.bind (m4_readClause F c0 x2 σ) fun p1 =>
        Option.bind (m8_next F p1) fun p2 =>
        if (gI p2.2 1 3) = (0 : Int32) then (
          if p2.1 = (-1 : Int32) then (
            some ((0 : Int32), p2.2)
            ) else (
            m4_read_79 F c0 (fun x2 σ => m4_read_41 F c0 n x2 σ) x2 p2.1 p2.2
            )
          ) else (
          m4_read_79 F c0 (fun x2 σ => m4_read_41 F c0 n x2 σ) x2 p2.1 p2.2
          )
        ) else (
        some ((gI σ 1 3), σ)
        )
      )
def m4_read_17 (F : Nat) (c0 : Nat) : Nat → Int32 → Mem → Option (Int32 × Mem)
  | 0, _, _ => none
  | n + 1, x2, σ =>
    if (3 : Int32) ≤ x2 then (
      Option.bind (m8_rewind F σ) fun p1 =>
      m4_read_41 F c0 F (0 : Int32) p1
      ) else (
      gd (inB x2 3 = true) <|
      let σ2 : Mem := sI σ (c0 + 8) (x2).toNatClampNeg (0 : Int32)
      m4_read_17 F c0 n ((x2 + (1 : Int32))) σ2
      )
def m4_read (F : Nat) (c0 : Nat) (σ : Mem) : Option (Int32 × Mem) :=
  let σ1 : Mem := sI σ c0 0 (1 : Int32)
  let σ2 : Mem := sI σ1 c0 4 (0 : Int32)
  let σ3 : Mem := sI σ2 c0 5 (0 : Int32)
  m4_read_17 F c0 F (0 : Int32) σ3
def m5_passStrike_40 (F : Nat) (i1 : Int32) (σ : Mem) : Option (Mem) :=
  Option.bind (m8_passWord F σ) fun p1 =>
  some p1
def m5_passStrike (F : Nat) (i1 : Int32) (σ : Mem) : Option (Mem) :=
  Option.bind (m8_next F σ) fun p1 =>
  Option.bind (m8_word F 2 p1.2) fun p2 =>
  if p2 = (-1 : Int32) then (
    Option.bind (m8_fail F (gI p1.2 1 2) (0 : Int32) p1.2) fun p3 =>
    m5_passStrike_40 F i1 p3
    ) else (
    if i1 = (0 : Int32) then (
      m5_passStrike_40 F i1 p1.2
      ) else (
      Option.bind (m8_fail F (gI p1.2 1 2) (4 : Int32) p1.2) fun p4 =>
      m5_passStrike_40 F i1 p4
      )
    )
def m5_put (F : Nat) (c0 : Nat) (i1 : Int32) (σ : Mem) : Option (Mem) :=
  if (nI 400) ≤ (gI σ c0 1) then (
    some σ
    ) else (
    gd (inB (gI σ c0 1) 400 = true) <|
    let σ1 : Mem := sI σ (c0 + 1) ((gI σ c0 1)).toNatClampNeg i1
    let σ2 : Mem := sI σ1 c0 1 (((gI σ1 c0 1) + (1 : Int32)))
    some σ2
    )
def m5_readValue_79 (F : Nat) (c0 : Nat) (x4 : Int32) (σ : Mem) : Option (Mem) :=
  let σ1 : Mem := sI σ c0 2 (((gI σ c0 2) + (1 : Int32)))
  Option.bind (m5_put F c0 x4 σ1) fun p2 =>
  some p2
def m5_readValue_64 (F : Nat) (c0 : Nat) (x3 : Int32) (x4 : Int32) (σ : Mem) : Option (Mem) :=
  if (gI σ c0 2) < (60 : Int32) then (
    m5_readValue_79 F c0 x4 σ
    ) else (
    Option.bind (m8_fail F x3 (3 : Int32) σ) fun p1 =>
    m5_readValue_79 F c0 x4 p1
    )
def m5_readValue_55 (F : Nat) (c0 : Nat) (k64 : Int32 → Int32 → Mem → Option (Mem)) (x3 : Int32) (σ : Mem) : Option (Mem) :=
  Option.bind (m8_number F (0 : Int32) (99999 : Int32) σ) fun p1 =>
  k64 x3 p1.1 p1.2
def m5_readValue_42 (F : Nat) (c0 : Nat) (k64 : Int32 → Int32 → Mem → Option (Mem)) (x3 : Int32) (x5 : Int32) (σ : Mem) : Option (Mem) :=
  Option.bind (m8_passWord F σ) fun p1 =>
  k64 x3 (((-1 : Int32) - x5)) p1
def m5_readValue (F : Nat) (c0 : Nat) (σ : Mem) : Option (Mem) :=
  Option.bind (m8_next F σ) fun p1 =>
  if p1.1 < (97 : Int32) then (
    m5_readValue_55 F c0 (fun x3 x4 σ => m5_readValue_64 F c0 x3 x4 σ) (gI p1.2 1 2) p1.2
    ) else (
    if (122 : Int32) < p1.1 then (
      m5_readValue_55 F c0 (fun x3 x4 σ => m5_readValue_64 F c0 x3 x4 σ) (gI p1.2 1 2) p1.2
      ) else (
      Option.bind (m8_word F 3 p1.2) fun p2 =>
      if p2 = (-1 : Int32) then (
        Option.bind (m8_fail F (gI p1.2 1 2) (0 : Int32) p1.2) fun p3 =>
        m5_readValue_42 F c0 (fun x3 x4 σ => m5_readValue_64 F c0 x3 x4 σ) (gI p1.2 1 2) p2 p3
        ) else (
        m5_readValue_42 F c0 (fun x3 x4 σ => m5_readValue_64 F c0 x3 x4 σ) (gI p1.2 1 2) p2 p1.2
        )
      )
    )
def m5_signOf (F : Nat) (i0 : Int32) (σ : Mem) : Option (Int32) :=
  if i0 = (37 : Int32) then (
    some (-24 : Int32)
    ) else (
  if i0 = (38 : Int32) then (
    some (0 : Int32)
    ) else (
  if i0 = (39 : Int32) then (
    some (0 : Int32)
    ) else (
  if i0 = (40 : Int32) then (
    some (0 : Int32)
    ) else (
  if i0 = (41 : Int32) then (
    some (0 : Int32)
    ) else (
  if i0 = (42 : Int32) then (
    some (-22 : Int32)
    ) else (
  if i0 = (43 : Int32) then (
    some (-20 : Int32)
    ) else (
  if i0 = (44 : Int32) then (
    some (0 : Int32)
    ) else (
  if i0 = (45 : Int32) then (
    some (-21 : Int32)
    ) else (
  if i0 = (46 : Int32) then (
    some (0 : Int32)
    ) else (
  if i0 = (47 : Int32) then (
    some (-23 : Int32)
    ) else (
    some (0 : Int32)
    )))))))))))
def m5_readSum_85 (F : Nat) (c0 : Nat) (k9 : Int32 → Int32 → Mem → Option (Mem)) (x2 : Int32) (x3 : Int32) (x4 : Int32) (x5 : Int32) (σ : Mem) : Option (Mem) :=
  Option.bind (m5_readValue F c0 σ) fun p1 =>
  if x5 = (0 : Int32) then (
    Option.bind (m5_put F c0 x4 p1) fun p2 =>
    k9 x2 ((x3 + (1 : Int32))) p2
    ) else (
    k9 x4 ((x3 + (1 : Int32))) p1
    )
def m5_readSum_113 (F : Nat) (c0 : Nat) (x2 : Int32) (σ : Mem) : Option (Mem) :=
  if x2 = (0 : Int32) then (
    some σ
    ) else (
    Option.bind (m5_put F c0 x2 σ) fun p1 =>
    some p1
    )
def m5_readSum_69 (F : Nat) (c0 : Nat) (k9 : Int32 → Int32 → Mem → Option (Mem)) (x2 : Int32) (x3 : Int32) (x4 : Int32) (s0 : Int32) (σ : Mem) : Option (Mem) :=
  if s0 = (0 : Int32) then (
    m5_readSum_85 F c0 (fun x2 x3 σ => k9 x2 x3 σ) x2 x3 x4 s0 σ
    ) else (
    if x2 = (0 : Int32) then (
      m5_readSum_85 F c0 (fun x2 x3 σ => k9 x2 x3 σ) x2 x3 x4 s0 σ
      ) else (
      Option.bind (m5_put F c0 x2 σ) fun p1 =>
      m5_readSum_85 F c0 (fun x2 x3 σ => k9 x2 x3 σ) x2 x3 x4 s0 p1
      )
    )
def m5_readSum_64 (F : Nat) (c0 : Nat) (k69 : Int32 → Int32 → Int32 → Int32 → Mem → Option (Mem)) (x2 : Int32) (x3 : Int32) (x4 : Int32) (σ : Mem) : Option (Mem) :=
  k69 x2 x3 x4 (1 : Int32) σ
def m5_readSum_9 (F : Nat) (c0 : Nat) : Nat → Int32 → Int32 → Mem → Option (Mem)
  | 0, _, _, _ => none
  | n + 1, x2, x3, σ =>
    if (400 : Int32) ≤ x3 then (
      m5_readSum_113 F c0 x2 σ
      ) else (
      if (gI σ 1 3) = (0 : Int32) then (
        Option.bind (m8_next F σ) fun p1 =>
        Option.bind (m5_signOf F p1.1 p1.2) fun p2 =>
        if p2 = (0 : Int32) then (
          m5_readSum_113 F c0 x2 p1.2
          ) else (
          let σ3 : Mem := sI p1.2 1 2 (((gI p1.2 1 2) + (1 : Int32)))
          if p2 = (-20 : Int32) then (
            m5_readSum_64 F c0 (fun x2 x3 x4 s0 σ => m5_readSum_69 F c0 (fun x2 x3 σ => m5_readSum_9 F c0 n x2 x3 σ) x2 x3 x4 s0 σ) x2 x3 p2 σ3
            ) else (
            if p2 = (-21 : Int32) then (
              m5_readSum_64 F c0 (fun x2 x3 x4 s0 σ => m5_readSum_69 F c0 (fun x2 x3 σ => m5_readSum_9 F c0 n x2 x3 σ) x2 x3 x4 s0 σ) x2 x3 p2 σ3
              ) else (
              m5_readSum_69 F c0 (fun x2 x3 σ => m5_readSum_9 F c0 n x2 x3 σ) x2 x3 p2 (0 : Int32) σ3
              )
            )
          )
        ) else (
        m5_readSum_113 F c0 x2 σ
        )
      )
def m5_readSum (F : Nat) (c0 : Nat) (σ : Mem) : Option (Mem) :=
  Option.bind (m5_readValue F c0 σ) fun p1 =>
  m5_readSum_9 F c0 F (0 : Int32) (0 : Int32) p1
def m5_readSign_127 (F : Nat) (c0 : Nat) (x2 : Int32) (x3 : Int32) (σ : Mem) : Option (Int32 × Mem) :=
  if x2 = (60 : Int32) then (
    if x3 = (0 : Int32) then (
      some ((-25 : Int32), σ)
      ) else (
      some ((-26 : Int32), σ)
      )
    ) else (
    if x3 = (0 : Int32) then (
      some ((-29 : Int32), σ)
      ) else (
      some ((-28 : Int32), σ)
      )
    )
def m5_readSign_112 (F : Nat) (c0 : Nat) (x2 : Int32) (s0 : Int32) (σ : Mem) : Option (Int32 × Mem) :=
  if s0 = (0 : Int32) then (
    m5_readSign_127 F c0 x2 s0 σ
    ) else (
    let σ1 : Mem := sI σ 1 2 (((gI σ 1 2) + (1 : Int32)))
    m5_readSign_127 F c0 x2 s0 σ1
    )
def m5_readSign_111 (F : Nat) (c0 : Nat) (k112 : Int32 → Int32 → Mem → Option (Int32 × Mem)) (x2 : Int32) (σ : Mem) : Option (Int32 × Mem) :=
  k112 x2 (0 : Int32) σ
def m5_readSign_53 (F : Nat) (c0 : Nat) (x2 : Int32) (σ : Mem) : Option (Int32 × Mem) :=
  let σ1 : Mem := sI σ c0 2 (((gI σ c0 2) + (1 : Int32)))
  let σ2 : Mem := sI σ1 1 2 (((gI σ1 1 2) + (1 : Int32)))
  if x2 = (61 : Int32) then (
    some ((-27 : Int32), σ2)
    ) else (
    if (gI σ2 1 1) ≤ (gI σ2 1 2) then (
      m5_readSign_111 F c0 (fun x2 s0 σ => m5_readSign_112 F c0 x2 s0 σ) x2 σ2
      ) else (
      gd (inB (gI σ2 1 2) 400 = true) <|
      if (gI σ2 2 ((gI σ2 1 2)).toNatClampNeg) = (61 : Int32) then (
        m5_readSign_112 F c0 x2 (1 : Int32) σ2
        ) else (
        m5_readSign_111 F c0 (fun x2 s0 σ => m5_readSign_112 F c0 x2 s0 σ) x2 σ2
        )
      )
    )
def m5_readSign_35 (F : Nat) (c0 : Nat) (x2 : Int32) (σ : Mem) : Option (Int32 × Mem) :=
  if (gI σ c0 2) < (60 : Int32) then (
    m5_readSign_53 F c0 x2 σ
    ) else (
    Option.bind (m8_fail F (gI σ 1 2) (3 : Int32) σ) fun p1 =>
    m5_readSign_53 F c0 x2 p1
    )
def m5_readSign (F : Nat) (c0 : Nat) (σ : Mem) : Option (Int32 × Mem) :=
  Option.bind (m8_next F σ) fun p1 =>
  if p1.1 = (60 : Int32) then (
    m5_readSign_35 F c0 p1.1 p1.2
    ) else (
    if p1.1 = (61 : Int32) then (
      m5_readSign_35 F c0 p1.1 p1.2
      ) else (
      if p1.1 = (62 : Int32) then (
        m5_readSign_35 F c0 p1.1 p1.2
        ) else (
        Option.bind (m8_fail F (gI p1.2 1 2) (0 : Int32) p1.2) fun p2 =>
        some ((-27 : Int32), p2)
        )
      )
    )
def m5_readTest_96 (F : Nat) (rec : Nat → Int32 → Mem → Option (Mem)) (c0 : Nat) (i2 : Int32) (x3 : Int32) (σ : Mem) : Option (Mem) :=
  if x3 = (0 : Int32) then (
    some σ
    ) else (
    Option.bind (m5_put F c0 (-32 : Int32) σ) fun p1 =>
    some p1
    )
def m5_readTest_68 (F : Nat) (rec : Nat → Int32 → Mem → Option (Mem)) (c0 : Nat) (i2 : Int32) (k11 : Int32 → Int32 → Mem → Option (Mem)) (x3 : Int32) (x4 : Int32) (x5 : Int32) (σ : Mem) : Option (Mem) :=
  Option.bind (rec c0 i2 σ) fun p1 =>
  if x5 = (0 : Int32) then (
    Option.bind (m5_put F c0 (-31 : Int32) p1) fun p2 =>
    k11 x3 ((x4 + (1 : Int32))) p2
    ) else (
    k11 (1 : Int32) ((x4 + (1 : Int32))) p1
    )
def m5_readTest_11 (F : Nat) (rec : Nat → Int32 → Mem → Option (Mem)) (c0 : Nat) (i2 : Int32) : Nat → Int32 → Int32 → Mem → Option (Mem)
  | 0, _, _, _ => none
  | n + 1, x3, x4, σ =>
    if (400 : Int32) ≤ x4 then (
      m5_readTest_96 F rec c0 i2 x3 σ
      ) else (
      if (gI σ 1 3) = (0 : Int32) then (
        Option.bind (m8_next F σ) fun p1 =>
        Option.bind (m8_word F 6 p1.2) fun p2 =>
        if p2 = (-1 : Int32) then (
          m5_readTest_96 F rec c0 i2 x3 p1.2
          ) else (
          Option.bind (m8_passWord F p1.2) fun p3 =>
          if p2 = (1 : Int32) then (
            if x3 = (0 : Int32) then (
              m5_readTest_68 F rec c0 i2 (fun x3 x4 σ => m5_readTest_11 F rec c0 i2 n x3 x4 σ) x3 x4 p2 p3
              ) else (
              Option.bind (m5_put F c0 (-32 : Int32) p3) fun p4 =>
              m5_readTest_68 F rec c0 i2 (fun x3 x4 σ => m5_readTest_11 F rec c0 i2 n x3 x4 σ) x3 x4 p2 p4
              )
            ) else (
            m5_readTest_68 F rec c0 i2 (fun x3 x4 σ => m5_readTest_11 F rec c0 i2 n x3 x4 σ) x3 x4 p2 p3
            )
          )
        ) else (
        m5_readTest_96 F rec c0 i2 x3 σ
        )
      )
def m5_readTest (F : Nat) (rec : Nat → Int32 → Mem → Option (Mem)) (c0 : Nat) (i2 : Int32) (σ : Mem) : Option (Mem) :=
  Option.bind (rec c0 i2 σ) fun p1 =>
  m5_readTest_11 F rec c0 i2 F (0 : Int32) (0 : Int32) p1
def m5_readFact_67 (F : Nat) (rec : Nat → Int32 → Mem → Option (Mem)) (c0 : Nat) (i2 : Int32) (x4 : Int32) (σ : Mem) : Option (Mem) :=
  if i2 < (10 : Int32) then (
    if x4 = (0 : Int32) then (
      let σ1 : Mem := sI σ 1 2 (((gI σ 1 2) + (1 : Int32)))
      Option.bind (m5_readTest F rec c0 ((i2 + (1 : Int32))) σ1) fun p2 =>
      Option.bind (m8_next F p2) fun p3 =>
      if p3.1 = (93 : Int32) then (
        let σ4 : Mem := sI p3.2 1 2 (((gI p3.2 1 2) + (1 : Int32)))
        some σ4
        ) else (
        Option.bind (m8_fail F (gI p3.2 1 2) (0 : Int32) p3.2) fun p5 =>
        let σ6 : Mem := sI p5 1 2 (((gI p5 1 2) + (1 : Int32)))
        some σ6
        )
      ) else (
      Option.bind (m8_passWord F σ) fun p7 =>
      Option.bind (rec c0 ((i2 + (1 : Int32))) p7) fun p8 =>
      Option.bind (m5_put F c0 (-30 : Int32) p8) fun p9 =>
      some p9
      )
    ) else (
    Option.bind (m8_fail F (gI σ 1 2) (2 : Int32) σ) fun p10 =>
    some p10
    )
def m5_readFact_30 (F : Nat) (rec : Nat → Int32 → Mem → Option (Mem)) (c0 : Nat) (i2 : Int32) (x3 : Int32) (s0 : Int32) (σ : Mem) : Option (Mem) :=
  if x3 = (0 : Int32) then (
    if s0 = (0 : Int32) then (
      Option.bind (m5_readSum F c0 σ) fun p1 =>
      Option.bind (m5_readSign F c0 p1) fun p2 =>
      Option.bind (m5_readSum F c0 p2.2) fun p3 =>
      Option.bind (m5_put F c0 p2.1 p3) fun p4 =>
      some p4
      ) else (
      m5_readFact_67 F rec c0 i2 s0 σ
      )
    ) else (
    m5_readFact_67 F rec c0 i2 s0 σ
    )
def m5_readFact_14 (F : Nat) (rec : Nat → Int32 → Mem → Option (Mem)) (c0 : Nat) (i2 : Int32) (s0 : Int32) (σ : Mem) : Option (Mem) :=
  Option.bind (m8_word F 5 σ) fun p1 =>
  if p1 = (-1 : Int32) then (
    m5_readFact_30 F rec c0 i2 s0 (0 : Int32) σ
    ) else (
    m5_readFact_30 F rec c0 i2 s0 (1 : Int32) σ
    )
def m5_readFact_e (F : Nat) (rec : Nat → Int32 → Mem → Option (Mem)) (c0 : Nat) (i2 : Int32) (σ : Mem) : Option (Mem) :=
  Option.bind (m8_next F σ) fun p1 =>
  if p1.1 = (91 : Int32) then (
    m5_readFact_14 F rec c0 i2 (1 : Int32) p1.2
    ) else (
    m5_readFact_14 F rec c0 i2 (0 : Int32) p1.2
    )
def m5_readFact (F : Nat) : Nat → Nat → Int32 → Mem → Option (Mem)
  | 0 => fun _ _ _ => none
  | D + 1 => fun c0 i2 σ => m5_readFact_e F (m5_readFact F D) c0 i2 σ
def m5_read_136 (F : Nat) (c0 : Nat) (k21 : Int32 → Mem → Option (Int32 × Mem)) (x2 : Int32) (σ : Mem) : Option (Int32 × Mem) :=
  let σ1 : Mem := sI σ 1 2 (((gI σ 1 2) + (1 : Int32)))
  k21 ((x2 + (1 : Int32))) σ1
def m5_read_82 (F : Nat) (c0 : Nat) (k21 : Int32 → Mem → Option (Int32 × Mem)) (x2 : Int32) (σ : Mem) : Option (Int32 × Mem) :=
  gd (inB x2 12 = true) <|
  let σ1 : Mem := sI σ (c0 + 4) (x2).toNatClampNeg (gI σ c0 1)
  let σ2 : Mem := sI σ1 c0 3 ((x2 + (1 : Int32)))
  Option.bind (m8_next F σ2) fun p3 =>
  if (gI p3.2 1 3) = (0 : Int32) then (
    if p3.1 = (-1 : Int32) then (
      some ((gI p3.2 1 3), p3.2)
      ) else (
      if p3.1 = (59 : Int32) then (
        m5_read_136 F c0 (fun x2 σ => k21 x2 σ) x2 p3.2
        ) else (
        Option.bind (m8_fail F (gI p3.2 1 2) (0 : Int32) p3.2) fun p4 =>
        m5_read_136 F c0 (fun x2 σ => k21 x2 σ) x2 p4
        )
      )
    ) else (
    some ((gI p3.2 1 3), p3.2)
    )
def m5_read_21 (F : Nat) (c0 : Nat) : Nat → Int32 → Mem → Option (Int32 × Mem)
  | 0, _, _ => none
  | n + 1, x2, σ =>
    if (12 : Int32) ≤ x2 then (
      Option.bind (m5_passStrike F (1 : Int32) σ) fun p1 =>
      some ((gI p1 1 3), p1)
      ) else (
      Option.bind (m5_passStrike F (0 : Int32) σ) fun p2 =>
      gd (inB x2 12 = true) <|
      let σ3 : Mem := sI p2 (c0 + 2) (x2).toNatClampNeg (gI p2 c0 1)
      Option.bind (m5_readSum F c0 σ3) fun p4 =>
      gd (inB x2 12 = true) <|
      let σ5 : Mem := sI p4 (c0 + 3) (x2).toNatClampNeg (gI p4 c0 1)
      Option.bind (m8_next F σ5) fun p6 =>
      Option.bind (m8_word F 4 p6.2) fun p7 =>
      if p7 = (-1 : Int32) then (
        m5_read_82 F c0 (fun x2 σ => m5_read_21 F c0 n x2 σ) x2 p6.2
        ) else (
        Option.bind (m8_passWord F p6.2) fun p8 =>
        Option.bind (m5_readTest F (m5_readFact F 13) c0 (0 : Int32) p8) fun p9 =>
        m5_read_82 F c0 (fun x2 σ => m5_read_21 F c0 n x2 σ) x2 p9
        )
      )
def m5_read (F : Nat) (c0 : Nat) (σ : Mem) : Option (Int32 × Mem) :=
  let σ1 : Mem := sI σ c0 1 (0 : Int32)
  let σ2 : Mem := sI σ1 c0 2 (0 : Int32)
  let σ3 : Mem := sI σ2 c0 3 (0 : Int32)
  Option.bind (m8_rewind F σ3) fun p4 =>
  m5_read_21 F c0 F (0 : Int32) p4
def m6_goOn_10 (F : Nat) (c1 : Nat) (i2 : Int32) : Nat → Int32 → Mem → Option (Mem)
  | 0, _, _ => none
  | n + 1, x3, σ =>
    if i2 ≤ x3 then (
      some σ
      ) else (
      Option.bind (m2_go F 46 σ) fun p1 =>
      m6_goOn_10 F c1 i2 n ((x3 + (1 : Int32))) p1
      )
def m6_goOn (F : Nat) (c1 : Nat) (i2 : Int32) (σ : Mem) : Option (Mem) :=
  Option.bind (m7_copyFrom F 46 c1 σ) fun p1 =>
  m6_goOn_10 F c1 i2 F (0 : Int32) p1
def m6_readyAt_46 (F : Nat) (c1 : Nat) (i2 : Int32) (σ : Mem) : Option (Int32 × Mem) :=
  gd (inB i2 8 = true) <|
  if (gI σ 52 (i2).toNatClampNeg) ≤ (0 : Int32) then (
    gd (inB i2 8 = true) <|
    some ((gI σ 53 (i2).toNatClampNeg), σ)
    ) else (
    some ((-2 : Int32), σ)
    )
def m6_readyAt_10 (F : Nat) (c1 : Nat) (i2 : Int32) : Nat → Int32 → Mem → Option (Int32 × Mem)
  | 0, _, _ => none
  | n + 1, x3, σ =>
    if (500 : Int32) ≤ x3 then (
      m6_readyAt_46 F c1 i2 σ
      ) else (
      gd (inB i2 8 = true) <|
      if (gI σ 52 (i2).toNatClampNeg) ≤ (0 : Int32) then (
        m6_readyAt_46 F c1 i2 σ
        ) else (
        Option.bind (m2_go F 46 σ) fun p1 =>
        m6_readyAt_10 F c1 i2 n ((x3 + (1 : Int32))) p1
        )
      )
def m6_readyAt (F : Nat) (c1 : Nat) (i2 : Int32) (σ : Mem) : Option (Int32 × Mem) :=
  Option.bind (m7_copyFrom F 46 c1 σ) fun p1 =>
  m6_readyAt_10 F c1 i2 F (0 : Int32) p1
def m7_allDone_2 (F : Nat) (c0 : Nat) (c1 : Nat) (σ : Mem) : Nat → Int32 → Option (Int32)
  | 0, _ => none
  | n + 1, x2 =>
    if (gI σ c1 5) ≤ x2 then (
      some (1 : Int32)
      ) else (
      gd (inB x2 8 = true) <|
      if (gI σ (c0 + 6) (x2).toNatClampNeg) ≤ (0 : Int32) then (
        m7_allDone_2 F c0 c1 σ n ((x2 + (1 : Int32)))
        ) else (
        some (0 : Int32)
        )
      )
def m7_allDone (F : Nat) (c0 : Nat) (c1 : Nat) (σ : Mem) : Option (Int32) :=
  m7_allDone_2 F c0 c1 σ F (0 : Int32)
def m6_untilAll_10 (F : Nat) (c1 : Nat) : Nat → Int32 → Mem → Option (Int32 × Mem)
  | 0, _, _ => none
  | n + 1, x2, σ =>
    if (500 : Int32) < x2 then (
      some ((501 : Int32), σ)
      ) else (
      Option.bind (m7_allDone F 46 17 σ) fun p1 =>
      if p1 = (0 : Int32) then (
        Option.bind (m2_go F 46 σ) fun p2 =>
        m6_untilAll_10 F c1 n ((x2 + (1 : Int32))) p2
        ) else (
        some (x2, σ)
        )
      )
def m6_untilAll (F : Nat) (c1 : Nat) (σ : Mem) : Option (Int32 × Mem) :=
  Option.bind (m7_copyFrom F 46 c1 σ) fun p1 =>
  m6_untilAll_10 F c1 F (0 : Int32) p1
def mJ_bitCount (F : Nat) (i0 : Int32) (σ : Mem) : Option (Int32) :=
  some (((((((((i0 - ((usI i0 (1 : Int32)) &&& (1431655765 : Int32))) &&& (858993459 : Int32)) + ((usI (i0 - ((usI i0 (1 : Int32)) &&& (1431655765 : Int32))) (2 : Int32)) &&& (858993459 : Int32))) + (usI (((i0 - ((usI i0 (1 : Int32)) &&& (1431655765 : Int32))) &&& (858993459 : Int32)) + ((usI (i0 - ((usI i0 (1 : Int32)) &&& (1431655765 : Int32))) (2 : Int32)) &&& (858993459 : Int32))) (4 : Int32))) &&& (252645135 : Int32)) + (usI (((((i0 - ((usI i0 (1 : Int32)) &&& (1431655765 : Int32))) &&& (858993459 : Int32)) + ((usI (i0 - ((usI i0 (1 : Int32)) &&& (1431655765 : Int32))) (2 : Int32)) &&& (858993459 : Int32))) + (usI (((i0 - ((usI i0 (1 : Int32)) &&& (1431655765 : Int32))) &&& (858993459 : Int32)) + ((usI (i0 - ((usI i0 (1 : Int32)) &&& (1431655765 : Int32))) (2 : Int32)) &&& (858993459 : Int32))) (4 : Int32))) &&& (252645135 : Int32)) (8 : Int32))) + (usI ((((((i0 - ((usI i0 (1 : Int32)) &&& (1431655765 : Int32))) &&& (858993459 : Int32)) + ((usI (i0 - ((usI i0 (1 : Int32)) &&& (1431655765 : Int32))) (2 : Int32)) &&& (858993459 : Int32))) + (usI (((i0 - ((usI i0 (1 : Int32)) &&& (1431655765 : Int32))) &&& (858993459 : Int32)) + ((usI (i0 - ((usI i0 (1 : Int32)) &&& (1431655765 : Int32))) (2 : Int32)) &&& (858993459 : Int32))) (4 : Int32))) &&& (252645135 : Int32)) + (usI (((((i0 - ((usI i0 (1 : Int32)) &&& (1431655765 : Int32))) &&& (858993459 : Int32)) + ((usI (i0 - ((usI i0 (1 : Int32)) &&& (1431655765 : Int32))) (2 : Int32)) &&& (858993459 : Int32))) + (usI (((i0 - ((usI i0 (1 : Int32)) &&& (1431655765 : Int32))) &&& (858993459 : Int32)) + ((usI (i0 - ((usI i0 (1 : Int32)) &&& (1431655765 : Int32))) (2 : Int32)) &&& (858993459 : Int32))) (4 : Int32))) &&& (252645135 : Int32)) (8 : Int32))) (16 : Int32))) &&& (63 : Int32)))
def m6_blowsOfOthers_14 (F : Nat) (c1 : Nat) (i2 : Int32) (i3 : Int32) : Nat → Int32 → Int32 → Mem → Option (Int32 × Mem)
  | 0, _, _, _ => none
  | n + 1, x4, x5, σ =>
    if i3 ≤ x5 then (
      some (x4, σ)
      ) else (
      Option.bind (m2_go F 46 σ) fun p1 =>
      Option.bind (mJ_bitCount F (((gI p1 40 12) &&& (((1 : Int32) <<< (i2 &&& (31 : Int32))) ^^^ (-1 : Int32)))) p1) fun p2 =>
      m6_blowsOfOthers_14 F c1 i2 i3 n (x4 + p2) ((x5 + (1 : Int32))) p1
      )
def m6_blowsOfOthers (F : Nat) (c1 : Nat) (i2 : Int32) (i3 : Int32) (σ : Mem) : Option (Int32 × Mem) :=
  Option.bind (m7_copyFrom F 46 c1 σ) fun p1 =>
  m6_blowsOfOthers_14 F c1 i2 i3 F (0 : Int32) (0 : Int32) p1
def m6_splitting_11 (F : Nat) (c1 : Nat) (i2 : Int32) (i3 : Int32) : Nat → Int32 → Mem → Option (Int32 × Mem)
  | 0, _, _ => none
  | n + 1, x4, σ =>
    if (500 : Int32) ≤ x4 then (
      some ((-2 : Int32), σ)
      ) else (
      Option.bind (m2_go F 46 σ) fun p1 =>
      gd (inB i2 4 = true) <|
      if (gI p1 55 (i2).toNatClampNeg) < (gI p1 17 3) then (
        m6_splitting_11 F c1 i2 i3 n ((x4 + (1 : Int32))) p1
        ) else (
        if i3 = (0 : Int32) then (
          some ((gI σ 46 0), p1)
          ) else (
          gd (inB i2 4 = true) <|
          some ((gI p1 43 (i2).toNatClampNeg), p1)
          )
        )
      )
def m6_splitting (F : Nat) (c1 : Nat) (i2 : Int32) (i3 : Int32) (σ : Mem) : Option (Int32 × Mem) :=
  Option.bind (m7_copyFrom F 46 c1 σ) fun p1 =>
  m6_splitting_11 F c1 i2 i3 F (0 : Int32) p1
def m6_live_88 (F : Nat) (c1 : Nat) (i2 : Int32) (i3 : Int32) (i4 : Int32) (k40 : Int64 → Int32 → Int32 → Mem → Option (Mem)) (x5 : Int64) (x7 : Int32) (x8 : Int32) (s1 : Int32) (σ : Mem) : Option (Mem) :=
  gd (s1 = (0 : Int32) ∨ s1 = (1 : Int32)) <|
  let σ1 : Mem := sI σ 40 5 s1
  Option.bind (m2_go F 46 σ1) fun p2 =>
  let σ3 : Mem := sI p2 45 3 (((gI p2 45 3) + (gI p2 40 11)))
  let σ4 : Mem := sI σ3 45 4 (((gI σ3 45 4) + (gI σ3 40 13)))
  k40 x5 x7 ((x8 + (1 : Int32))) σ4
def m6_live_40 (F : Nat) (c1 : Nat) (i2 : Int32) (i3 : Int32) (i4 : Int32) (k20 : Int64 → Int32 → Mem → Option (Mem)) : Nat → Int64 → Int32 → Int32 → Mem → Option (Mem)
  | 0, _, _, _, _ => none
  | n + 1, x5, x7, x8, σ =>
    if i3 ≤ x8 then (
      k20 x5 ((x7 + (1 : Int32))) σ
      ) else (
      if (0 : Int32) ≤ (lg_cmp (remL ((remL ((x5 * (1103515245 : Int64)) + (12345 : Int64)) (2147483648 : Int64)) / (65536 : Int64)) (100 : Int64)) (i4).toInt64) then (
        m6_live_88 F c1 i2 i3 i4 (fun x5 x7 x8 σ => m6_live_40 F c1 i2 i3 i4 k20 n x5 x7 x8 σ) ((remL ((x5 * (1103515245 : Int64)) + (12345 : Int64)) (2147483648 : Int64))) x7 x8 (0 : Int32) σ
        ) else (
        m6_live_88 F c1 i2 i3 i4 (fun x5 x7 x8 σ => m6_live_40 F c1 i2 i3 i4 k20 n x5 x7 x8 σ) ((remL ((x5 * (1103515245 : Int64)) + (12345 : Int64)) (2147483648 : Int64))) x7 x8 (1 : Int32) σ
        )
      )
def m6_live_20 (F : Nat) (c1 : Nat) (i2 : Int32) (i3 : Int32) (i4 : Int32) : Nat → Int64 → Int32 → Mem → Option (Mem)
  | 0, _, _, _ => none
  | n + 1, x5, x7, σ =>
    if i2 ≤ x7 then (
      some σ
      ) else (
      Option.bind (m7_copyFrom F 46 (c1 + 10) σ) fun p1 =>
      m6_live_40 F c1 i2 i3 i4 (fun x5 x7 σ => m6_live_20 F c1 i2 i3 i4 n x5 x7 σ) F x5 x7 (0 : Int32) p1
      )
def m6_live (F : Nat) (c1 : Nat) (i2 : Int32) (i3 : Int32) (i4 : Int32) (σ : Mem) : Option (Mem) :=
  let σ1 : Mem := sI σ 45 3 (0 : Int32)
  let σ2 : Mem := sI σ1 45 4 (0 : Int32)
  m6_live_20 F c1 i2 i3 i4 F (((gI σ c1 4)).toInt64) (0 : Int32) σ2
def m7_putLast_13 (F : Nat) (c0 : Nat) (c1 : Nat) (i2 : Int32) : Nat → Int32 → Int32 → Int32 → Mem → Option (Mem)
  | 0, _, _, _, _ => none
  | n + 1, x3, x4, x5, σ =>
    if (gI σ c1 5) ≤ x5 then (
      if x3 = (-1 : Int32) then (
        some σ
        ) else (
        gd (inB x3 8 = true) <|
        let σ1 : Mem := sI σ (c0 + 8) (x3).toNatClampNeg ((x4 + (1 : Int32)))
        some σ1
        )
      ) else (
      gd (inB x5 8 = true) <|
      m7_putLast_13 F c0 c1 i2 n x3 ((mxI x4 (gI σ (c0 + 8) (x5).toNatClampNeg))) ((x5 + (1 : Int32))) σ
      )
def m7_putLast (F : Nat) (c0 : Nat) (c1 : Nat) (i2 : Int32) (σ : Mem) : Option (Mem) :=
  Option.bind (m7_jobOf F c0 c1 i2 σ) fun p1 =>
  m7_putLast_13 F c0 c1 i2 F p1 (0 : Int32) (0 : Int32) σ
def m7_doneBits_4 (F : Nat) (c0 : Nat) (c1 : Nat) (σ : Mem) : Nat → Int32 → Int32 → Option (Int32)
  | 0, _, _ => none
  | n + 1, x2, x3 =>
    if (gI σ c1 5) ≤ x3 then (
      some x2
      ) else (
      gd (inB x3 8 = true) <|
      if (gI σ (c0 + 6) (x3).toNatClampNeg) = (0 : Int32) then (
        m7_doneBits_4 F c0 c1 σ n ((x2 ||| ((1 : Int32) <<< (x3 &&& (31 : Int32))))) ((x3 + (1 : Int32)))
        ) else (
        m7_doneBits_4 F c0 c1 σ n ((x2 ||| (0 : Int32))) ((x3 + (1 : Int32)))
        )
      )
def m7_doneBits (F : Nat) (c0 : Nat) (c1 : Nat) (σ : Mem) : Option (Int32) :=
  m7_doneBits_4 F c0 c1 σ F (0 : Int32) (0 : Int32)
def m7_earnedBy_5 (F : Nat) (c0 : Nat) (c1 : Nat) (i2 : Int32) (σ : Mem) : Nat → Int32 → Int32 → Option (Int32)
  | 0, _, _ => none
  | n + 1, x3, x4 =>
    if (gI σ c1 5) ≤ x4 then (
      some x3
      ) else (
      gd (inB x4 8 = true) <|
      if (gI σ (c1 + 2) (x4).toNatClampNeg) = i2 then (
        gd (inB x4 8 = true) <|
        if (gI σ (c0 + 6) (x4).toNatClampNeg) = (0 : Int32) then (
          gd (inB x4 8 = true) <|
          m7_earnedBy_5 F c0 c1 i2 σ n ((x3 + (gI σ (c1 + 7) (x4).toNatClampNeg))) ((x4 + (1 : Int32)))
          ) else (
          m7_earnedBy_5 F c0 c1 i2 σ n ((x3 + (0 : Int32))) ((x4 + (1 : Int32)))
          )
        ) else (
        m7_earnedBy_5 F c0 c1 i2 σ n ((x3 + (0 : Int32))) ((x4 + (1 : Int32)))
        )
      )
def m7_earnedBy (F : Nat) (c0 : Nat) (c1 : Nat) (i2 : Int32) (σ : Mem) : Option (Int32) :=
  m7_earnedBy_5 F c0 c1 i2 σ F (0 : Int32) (0 : Int32)
def m8_add_3 (F : Nat) (i1 : Int32) : Nat → Int32 → Mem → Option (Mem)
  | 0, _, _ => none
  | n + 1, x2, σ =>
    if x2 < (0 : Int32) then (
      some σ
      ) else (
      if (400 : Int32) ≤ (gI σ 1 1) then (
        m8_add_3 F i1 n ((x2 + (-8 : Int32))) σ
        ) else (
        gd (inB (gI σ 1 1) 400 = true) <|
        let σ1 : Mem := sI σ 2 ((gI σ 1 1)).toNatClampNeg (((usI i1 x2) &&& (255 : Int32)))
        let σ2 : Mem := sI σ1 1 1 (((gI σ1 1 1) + (1 : Int32)))
        m8_add_3 F i1 n ((x2 + (-8 : Int32))) σ2
        )
      )
def m8_add (F : Nat) (i1 : Int32) (σ : Mem) : Option (Mem) :=
  m8_add_3 F i1 F (24 : Int32) σ
def m9_fillStrikes_9 (F : Nat) (c1 : Nat) (k2 : Int32 → Mem → Option (Mem)) : Nat → Int32 → Int32 → Mem → Option (Mem)
  | 0, _, _, _ => none
  | n + 1, x2, x3, σ =>
    if (100 : Int32) ≤ x3 then (
      gd (inB x2 3 = true) <|
      gd (inB x2 3 = true) <|
      let σ1 : Mem := sI σ 123 (x2).toNatClampNeg ((gI σ (c1 + 1) (x2).toNatClampNeg))
      k2 ((x2 + (1 : Int32))) σ1
      ) else (
      gd (inB x2 3 = true) <|
      let σ2 : Mem := sI σ 123 (x2).toNatClampNeg x3
      gd (inB x2 3 = true) <|
      if (gI σ2 41 (x2).toNatClampNeg) = (-1 : Int32) then (
        gd (inB ((x2 * (100 : Int32)) + x3) 300 = true) <|
        let σ3 : Mem := sI σ2 132 (((x2 * (100 : Int32)) + x3)).toNatClampNeg (((0 : Int32) &&& (1 : Int32)))
        m9_fillStrikes_9 F c1 k2 n x2 ((x3 + (1 : Int32))) σ3
        ) else (
        Option.bind (m2_willsToStrike F 122 x2 σ2) fun p4 =>
        if p4.1 = (0 : Int32) then (
          gd (inB ((x2 * (100 : Int32)) + x3) 300 = true) <|
          let σ5 : Mem := sI p4.2 132 (((x2 * (100 : Int32)) + x3)).toNatClampNeg (((0 : Int32) &&& (1 : Int32)))
          m9_fillStrikes_9 F c1 k2 n x2 ((x3 + (1 : Int32))) σ5
          ) else (
          gd (inB ((x2 * (100 : Int32)) + x3) 300 = true) <|
          let σ6 : Mem := sI p4.2 132 (((x2 * (100 : Int32)) + x3)).toNatClampNeg (((1 : Int32) &&& (1 : Int32)))
          m9_fillStrikes_9 F c1 k2 n x2 ((x3 + (1 : Int32))) σ6
          )
        )
      )
def m9_fillStrikes_2 (F : Nat) (c1 : Nat) : Nat → Int32 → Mem → Option (Mem)
  | 0, _, _ => none
  | n + 1, x2, σ =>
    if (3 : Int32) ≤ x2 then (
      some σ
      ) else (
      m9_fillStrikes_9 F c1 (fun x2 σ => m9_fillStrikes_2 F c1 n x2 σ) F x2 (0 : Int32) σ
      )
def m9_fillStrikes (F : Nat) (c1 : Nat) (σ : Mem) : Option (Mem) :=
  m9_fillStrikes_2 F c1 F (0 : Int32) σ
def m9_setMark_2 (F : Nat) : Nat → Int32 → Mem → Option (Mem)
  | 0, _, _ => none
  | n + 1, x1, σ =>
    if (3 : Int32) ≤ x1 then (
      some σ
      ) else (
      gd (inB x1 3 = true) <|
      gd (inB x1 3 = true) <|
      let σ1 : Mem := sI σ 133 (x1).toNatClampNeg ((gI σ 123 (x1).toNatClampNeg))
      gd (inB x1 3 = true) <|
      let σ2 : Mem := sI σ1 134 (x1).toNatClampNeg (0 : Int32)
      m9_setMark_2 F n ((x1 + (1 : Int32))) σ2
      )
def m9_setMark (F : Nat)  (σ : Mem) : Option (Mem) :=
  m9_setMark_2 F F (0 : Int32) σ
def m9_spinOnce_65 (F : Nat) : Nat → Int32 → Mem → Option (Mem)
  | 0, _, _ => none
  | n + 1, x1, σ =>
    if (3 : Int32) ≤ x1 then (
      some σ
      ) else (
      gd (inB x1 3 = true) <|
      gd (inB x1 3 = true) <|
      let σ1 : Mem := sI σ 134 (x1).toNatClampNeg (((gI σ 134 (x1).toNatClampNeg) + (((gI σ 40 12) >>> (x1 &&& (31 : Int32))) &&& (1 : Int32))))
      m9_spinOnce_65 F n ((x1 + (1 : Int32))) σ1
      )
def m9_spinOnce_2 (F : Nat) : Nat → Int32 → Mem → Option (Mem)
  | 0, _, _ => none
  | n + 1, x1, σ =>
    if (3 : Int32) ≤ x1 then (
      Option.bind (m2_work F 122 σ) fun p1 =>
      m9_spinOnce_65 F F (0 : Int32) p1
      ) else (
      gd (inB x1 3 = true) <|
      gd (inB ((x1 * (100 : Int32)) + (mxI (0 : Int32) (mnI (99 : Int32) (gI σ 123 (x1).toNatClampNeg)))) 300 = true) <|
      gd (inB x1 3 = true) <|
      let σ2 : Mem := sI σ 42 (x1).toNatClampNeg (((gI σ 132 (((x1 * (100 : Int32)) + (mxI (0 : Int32) (mnI (99 : Int32) (gI σ 123 (x1).toNatClampNeg))))).toNatClampNeg) &&& (1 : Int32)))
      m9_spinOnce_2 F n ((x1 + (1 : Int32))) σ2
      )
def m9_spinOnce (F : Nat)  (σ : Mem) : Option (Mem) :=
  m9_spinOnce_2 F F (0 : Int32) σ
def m9_isAtMark_2 (F : Nat) (σ : Mem) : Nat → Int32 → Option (Int32)
  | 0, _ => none
  | n + 1, x1 =>
    if (3 : Int32) ≤ x1 then (
      some (1 : Int32)
      ) else (
      gd (inB x1 3 = true) <|
      gd (inB x1 3 = true) <|
      if (gI σ 133 (x1).toNatClampNeg) = (gI σ 123 (x1).toNatClampNeg) then (
        m9_isAtMark_2 F σ n ((x1 + (1 : Int32)))
        ) else (
        some (0 : Int32)
        )
      )
def m9_isAtMark (F : Nat)  (σ : Mem) : Option (Int32) :=
  m9_isAtMark_2 F σ F (0 : Int32)
def m9_turn_92 (F : Nat) (c1 : Nat) (i2 : Int32) (x3 : Int32) (σ : Mem) : Option (Int32 × Mem) :=
  if i2 < (1 : Int32) then (
    some (x3, σ)
    ) else (
    if (3 : Int32) < i2 then (
      some (x3, σ)
      ) else (
      gd (inB (i2 - (1 : Int32)) 3 = true) <|
      some ((gI σ 134 ((i2 - (1 : Int32))).toNatClampNeg), σ)
      )
    )
def m9_turn_44 (F : Nat) (c1 : Nat) (i2 : Int32) : Nat → Int32 → Int32 → Int32 → Mem → Option (Int32 × Mem)
  | 0, _, _, _, _ => none
  | n + 1, x3, x4, x5, σ =>
    if (4000000 : Int32) ≤ x5 then (
      m9_turn_92 F c1 i2 x3 σ
      ) else (
      Option.bind (m9_spinOnce F σ) fun p1 =>
      Option.bind (m9_isAtMark F p1) fun p2 =>
      if p2 = (0 : Int32) then (
        if (x3 + (1 : Int32)) = x4 then (
          Option.bind (m9_setMark F p1) fun p3 =>
          m9_turn_44 F c1 i2 n (0 : Int32) ((x4 * (2 : Int32))) ((x5 + (1 : Int32))) p3
          ) else (
          m9_turn_44 F c1 i2 n ((x3 + (1 : Int32))) x4 ((x5 + (1 : Int32))) p1
          )
        ) else (
        m9_turn_92 F c1 i2 ((x3 + (1 : Int32))) p1
        )
      )
def m9_turn (F : Nat) (c1 : Nat) (i2 : Int32) (σ : Mem) : Option (Int32 × Mem) :=
  Option.bind (m7_copyFrom F 122 c1 σ) fun p1 =>
  let σ2 : Mem := sI p1 40 6 (1 : Int32)
  Option.bind (m2_assign F 122 σ2) fun p3 =>
  Option.bind (m9_fillStrikes F c1 p3) fun p4 =>
  Option.bind (m9_setMark F p4) fun p5 =>
  m9_turn_44 F c1 i2 F (0 : Int32) (1 : Int32) (0 : Int32) p5
def m10_copyFrom (F : Nat) (c0 : Nat) (c1 : Nat) (σ : Mem) : Option (Mem) :=
  Option.bind (m4_copyFrom F (c0 + 1) (c1 + 1) σ) fun p1 =>
  Option.bind (m7_copyFrom F (c0 + 10) (c1 + 10) p1) fun p2 =>
  Option.bind (m3_copyFrom F (c0 + 20) (c1 + 20) p2) fun p3 =>
  let σ4 : Mem := sI p3 c0 3 (gI p3 c1 3)
  let σ5 : Mem := sI σ4 c0 4 (gI σ4 c1 4)
  some σ5
def m11_feed (F : Nat) (i1 : Int32) (i2 : Int32) (i3 : Int32) (i4 : Int32) (i5 : Int32) (σ : Mem) : Option (Int32 × Mem) :=
  if ((gI σ 1 1) + (20 : Int32)) ≤ (400 : Int32) then (
    Option.bind (m8_add F i1 σ) fun p1 =>
    Option.bind (m8_add F i2 p1) fun p2 =>
    Option.bind (m8_add F i3 p2) fun p3 =>
    Option.bind (m8_add F i4 p3) fun p4 =>
    Option.bind (m8_add F i5 p4) fun p5 =>
    some ((gI p5 1 1), p5)
    ) else (
    some ((-1 : Int32), σ)
    )
def m11_end (F : Nat) (i1 : Int32) (σ : Mem) : Option (Int32 × Mem) :=
  if i1 < (0 : Int32) then (
    some ((-1 : Int32), σ)
    ) else (
    if i1 ≤ (gI σ 1 1) then (
      let σ1 : Mem := sI σ 1 1 i1
      some (i1, σ1)
      ) else (
      some ((-1 : Int32), σ)
      )
    )
def m11_smithy (F : Nat)  (σ : Mem) : Option (Int32 × Mem) :=
  Option.bind (m4_read F 3 σ) fun p1 =>
  let σ2 : Mem := sI p1.2 1 1 (0 : Int32)
  if p1.1 = (0 : Int32) then (
    Option.bind (m4_copyFrom F 17 3 σ2) fun p3 =>
    Option.bind (m7_begin F 26 3 p3) fun p4 =>
    let σ5 : Mem := sI p4 36 0 (0 : Int32)
    let σ6 : Mem := sI σ5 0 6 (0 : Int32)
    some ((gI σ6 3 5), σ6)
    ) else (
    some (((-2 : Int32) - p1.1), σ2)
    )
def m11_rule (F : Nat)  (σ : Mem) : Option (Int32 × Mem) :=
  if (gI σ 0 4) < (6 : Int32) then (
    gd (inB (gI σ 0 4) 6 = true) <|
    if (151 + 6 * ((gI σ 0 4)).toNatClampNeg) = 0 then none else
    Option.bind (m5_read F ((151 + 6 * ((gI σ 0 4)).toNatClampNeg)) σ) fun p1 =>
    let σ2 : Mem := sI p1.2 1 1 (0 : Int32)
    if p1.1 = (0 : Int32) then (
      let σ3 : Mem := sI σ2 0 4 (((gI σ2 0 4) + (1 : Int32)))
      some (((gI σ3 0 4) - (1 : Int32)), σ3)
      ) else (
      some (((-2 : Int32) - p1.1), σ2)
      )
    ) else (
    some ((-1 : Int32), σ)
    )
def m11_force (F : Nat) (i1 : Int32) (σ : Mem) : Option (Int32 × Mem) :=
  if i1 < (-1 : Int32) then (
    some ((-2 : Int32), σ)
    ) else (
    if i1 < (gI σ 0 4) then (
      let σ1 : Mem := sI σ 16 3 i1
      some ((gI σ 16 3), σ1)
      ) else (
      some ((-2 : Int32), σ)
      )
    )
def m11_hasSmith (F : Nat) (i1 : Int32) (σ : Mem) : Option (Int32) :=
  if i1 < (0 : Int32) then (
    some (0 : Int32)
    ) else (
    if (gI σ 17 4) ≤ i1 then (
      some (0 : Int32)
      ) else (
      some (1 : Int32)
      )
    )
def m11_smith (F : Nat) (i1 : Int32) (i2 : Int32) (σ : Mem) : Option (Int32) :=
  Option.bind (m11_hasSmith F i1 σ) fun p1 =>
  if p1 = (0 : Int32) then (
    some (-2 : Int32)
    ) else (
    Option.bind (m7_jobOf F 26 17 i1 σ) fun p2 =>
    if i2 = (0 : Int32) then (
      gd (inB i1 3 = true) <|
      some ((gI σ 27 (i1).toNatClampNeg))
      ) else (
    if i2 = (1 : Int32) then (
      some p2
      ) else (
    if i2 = (2 : Int32) then (
      if p2 = (-1 : Int32) then (
        some (0 : Int32)
        ) else (
        gd (inB i1 3 = true) <|
        gd (inB p2 8 = true) <|
        if (gI σ 27 (i1).toNatClampNeg) < (gI σ 23 (p2).toNatClampNeg) then (
          some (0 : Int32)
          ) else (
          some (1 : Int32)
          )
        )
      ) else (
    if i2 = (3 : Int32) then (
      gd (inB i1 3 = true) <|
      some ((gI σ 28 (i1).toNatClampNeg))
      ) else (
    if i2 = (4 : Int32) then (
      gd (inB i1 3 = true) <|
      some ((gI σ 29 (i1).toNatClampNeg))
      ) else (
    if i2 = (5 : Int32) then (
      Option.bind (m7_earnedBy F 26 17 i1 σ) fun p3 =>
      some p3
      ) else (
    if i2 = (6 : Int32) then (
      gd (inB i1 3 = true) <|
      some ((gI σ 30 (i1).toNatClampNeg))
      ) else (
    if i2 = (7 : Int32) then (
      gd (inB i1 3 = true) <|
      some ((gI σ 18 (i1).toNatClampNeg))
      ) else (
    if i2 = (8 : Int32) then (
      gd (inB i1 3 = true) <|
      some ((gI σ 31 (i1).toNatClampNeg))
      ) else (
      some (-2 : Int32)
      )))))))))
    )
def m11_hasJob (F : Nat) (i1 : Int32) (σ : Mem) : Option (Int32) :=
  if i1 < (0 : Int32) then (
    some (0 : Int32)
    ) else (
    if (gI σ 17 5) ≤ i1 then (
      some (0 : Int32)
      ) else (
      some (1 : Int32)
      )
    )
def m11_job (F : Nat) (i1 : Int32) (i2 : Int32) (σ : Mem) : Option (Int32) :=
  Option.bind (m11_hasJob F i1 σ) fun p1 =>
  if p1 = (0 : Int32) then (
    some (-2 : Int32)
    ) else (
    if i2 = (0 : Int32) then (
      gd (inB i1 8 = true) <|
      some ((gI σ 19 (i1).toNatClampNeg))
      ) else (
    if i2 = (1 : Int32) then (
      gd (inB i1 8 = true) <|
      some ((gI σ 20 (i1).toNatClampNeg))
      ) else (
    if i2 = (2 : Int32) then (
      gd (inB i1 8 = true) <|
      some ((gI σ 32 (i1).toNatClampNeg))
      ) else (
    if i2 = (3 : Int32) then (
      gd (inB i1 8 = true) <|
      some ((gI σ 23 (i1).toNatClampNeg))
      ) else (
    if i2 = (4 : Int32) then (
      gd (inB i1 8 = true) <|
      some ((gI σ 24 (i1).toNatClampNeg))
      ) else (
    if i2 = (5 : Int32) then (
      gd (inB i1 8 = true) <|
      some ((gI σ 33 (i1).toNatClampNeg))
      ) else (
      some (-2 : Int32)
      ))))))
    )
def m11_hasPart (F : Nat) (i1 : Int32) (σ : Mem) : Option (Int32) :=
  if (gI σ 17 0) = (0 : Int32) then (
    some (0 : Int32)
    ) else (
    if i1 < (0 : Int32) then (
      some (0 : Int32)
      ) else (
      if (3 : Int32) ≤ i1 then (
        some (0 : Int32)
        ) else (
        some (1 : Int32)
        )
      )
    )
def m11_worn (F : Nat) (i1 : Int32) (σ : Mem) : Option (Int32) :=
  Option.bind (m11_hasPart F i1 σ) fun p1 =>
  if p1 = (0 : Int32) then (
    some (-1 : Int32)
    ) else (
    gd (inB i1 4 = true) <|
    some ((gI σ 35 (i1).toNatClampNeg))
    )
def m11_earnedByAll_4 (F : Nat) (σ : Mem) : Nat → Int32 → Int32 → Option (Int32)
  | 0, _, _ => none
  | n + 1, x1, x2 =>
    if (gI σ 17 4) ≤ x2 then (
      some x1
      ) else (
      Option.bind (m7_earnedBy F 26 17 x2 σ) fun p1 =>
      m11_earnedByAll_4 F σ n (x1 + p1) ((x2 + (1 : Int32)))
      )
def m11_earnedByAll (F : Nat)  (σ : Mem) : Option (Int32) :=
  m11_earnedByAll_4 F σ F (0 : Int32) (0 : Int32)
def m11_splitBits_4 (F : Nat) (σ : Mem) : Nat → Int32 → Int32 → Option (Int32)
  | 0, _, _ => none
  | n + 1, x1, x2 =>
    if (3 : Int32) ≤ x2 then (
      some x1
      ) else (
      if (gI σ 17 0) = (0 : Int32) then (
        m11_splitBits_4 F σ n x1 ((x2 + (1 : Int32)))
        ) else (
        gd (inB x2 4 = true) <|
        if (gI σ 35 (x2).toNatClampNeg) < (gI σ 17 3) then (
          m11_splitBits_4 F σ n x1 ((x2 + (1 : Int32)))
          ) else (
          m11_splitBits_4 F σ n ((x1 ||| ((1 : Int32) <<< (x2 &&& (31 : Int32))))) ((x2 + (1 : Int32)))
          )
        )
      )
def m11_splitBits (F : Nat)  (σ : Mem) : Option (Int32) :=
  m11_splitBits_4 F σ F (0 : Int32) (0 : Int32)
def m11_count (F : Nat) (i1 : Int32) (σ : Mem) : Option (Int32) :=
  if i1 = (0 : Int32) then (
    some (gI σ 17 1)
    ) else (
  if i1 = (1 : Int32) then (
    some (gI σ 17 2)
    ) else (
  if i1 = (2 : Int32) then (
    some (gI σ 17 3)
    ) else (
  if i1 = (3 : Int32) then (
    some (gI σ 17 4)
    ) else (
  if i1 = (4 : Int32) then (
    some (gI σ 17 5)
    ) else (
  if i1 = (5 : Int32) then (
    some (gI σ 0 4)
    ) else (
  if i1 = (6 : Int32) then (
    some (gI σ 16 3)
    ) else (
  if i1 = (7 : Int32) then (
    some (gI σ 26 0)
    ) else (
  if i1 = (8 : Int32) then (
    Option.bind (m7_doneBits F 26 17 σ) fun p1 =>
    some p1
    ) else (
  if i1 = (9 : Int32) then (
    Option.bind (m11_earnedByAll F σ) fun p2 =>
    some p2
    ) else (
  if i1 = (10 : Int32) then (
    Option.bind (m11_splitBits F σ) fun p3 =>
    some p3
    ) else (
  if i1 = (11 : Int32) then (
    some (gI σ 36 0)
    ) else (
  if i1 = (12 : Int32) then (
    some (gI σ 0 6)
    ) else (
  if i1 = (13 : Int32) then (
    some (gI σ 16 4)
    ) else (
  if i1 = (14 : Int32) then (
    some (gI σ 1 1)
    ) else (
    some (-1 : Int32)
    )))))))))))))))
def m11_remember (F : Nat)  (σ : Mem) : Option (Mem) :=
  gd (inB (gI σ 0 7) 20 = true) <|
  Option.bind (m7_copyFrom F ((187 + 10 * ((gI σ 0 7)).toNatClampNeg)) 26 σ) fun p1 =>
  let σ2 : Mem := sI p1 0 7 ((remI ((gI p1 0 7) + (1 : Int32)) (20 : Int32)))
  let σ3 : Mem := sI σ2 0 6 ((mnI (20 : Int32) ((gI σ2 0 6) + (1 : Int32))))
  some σ3
def m11_ruleInForce (F : Nat)  (σ : Mem) : Option (Nat) :=
  if (gI σ 16 3) < (0 : Int32) then (
    some 0
    ) else (
    if (gI σ 0 4) ≤ (gI σ 16 3) then (
      some 0
      ) else (
      gd (inB (gI σ 16 3) 6 = true) <|
      some ((151 + 6 * ((gI σ 16 3)).toNatClampNeg))
      )
    )
def m11_moment (F : Nat)  (σ : Mem) : Option (Int32 × Mem) :=
  if (gI σ 17 0) = (0 : Int32) then (
    some ((-1 : Int32), σ)
    ) else (
    if (gI σ 26 0) < (9999 : Int32) then (
      Option.bind (m11_remember F σ) fun p1 =>
      Option.bind (m11_ruleInForce F p1) fun p2 =>
      Option.bind (m2_plain F p2 p1) fun p3 =>
      Option.bind (m2_go F 26 p3) fun p4 =>
      some ((gI p4 40 11), p4)
      ) else (
      some ((-1 : Int32), σ)
      )
    )
def m11_quench (F : Nat) (i1 : Int32) (σ : Mem) : Option (Int32 × Mem) :=
  Option.bind (m11_hasSmith F i1 σ) fun p1 =>
  if p1 = (0 : Int32) then (
    some ((-1 : Int32), σ)
    ) else (
    gd (inB i1 3 = true) <|
    if (gI σ 27 (i1).toNatClampNeg) = (0 : Int32) then (
      some ((-1 : Int32), σ)
      ) else (
      Option.bind (m11_remember F σ) fun p2 =>
      gd (inB i1 3 = true) <|
      gd (inB i1 3 = true) <|
      let σ3 : Mem := sI p2 27 (i1).toNatClampNeg (0 : Int32)
      some ((gI p2 27 (i1).toNatClampNeg), σ3)
      )
    )
def m11_mend (F : Nat) (i1 : Int32) (σ : Mem) : Option (Int32 × Mem) :=
  Option.bind (m11_hasPart F i1 σ) fun p1 =>
  if p1 = (0 : Int32) then (
    some ((-1 : Int32), σ)
    ) else (
    gd (inB i1 4 = true) <|
    if (gI σ 35 (i1).toNatClampNeg) = (0 : Int32) then (
      some ((-1 : Int32), σ)
      ) else (
      Option.bind (m11_remember F σ) fun p2 =>
      gd (inB i1 4 = true) <|
      gd (inB i1 4 = true) <|
      let σ3 : Mem := sI p2 35 (i1).toNatClampNeg (((gI p2 35 (i1).toNatClampNeg) / (2 : Int32)))
      gd (inB i1 4 = true) <|
      some ((gI σ3 35 (i1).toNatClampNeg), σ3)
      )
    )
def m11_aside (F : Nat) (i1 : Int32) (σ : Mem) : Option (Int32 × Mem) :=
  Option.bind (m11_hasSmith F i1 σ) fun p1 =>
  if p1 = (0 : Int32) then (
    some ((-1 : Int32), σ)
    ) else (
    Option.bind (m7_toDo F 26 17 i1 σ) fun p2 =>
    if (2 : Int32) ≤ p2 then (
      Option.bind (m11_remember F σ) fun p3 =>
      Option.bind (m7_putLast F 26 17 i1 p3) fun p4 =>
      gd (inB i1 3 = true) <|
      let σ5 : Mem := sI p4 27 (i1).toNatClampNeg (0 : Int32)
      Option.bind (m7_jobOf F 26 17 i1 σ5) fun p6 =>
      some (p6, σ5)
      ) else (
      some ((-1 : Int32), σ)
      )
    )
def m11_undo (F : Nat)  (σ : Mem) : Option (Int32 × Mem) :=
  if (gI σ 0 6) = (0 : Int32) then (
    some ((-1 : Int32), σ)
    ) else (
    let σ1 : Mem := sI σ 0 7 ((remI (((gI σ 0 7) + (20 : Int32)) - (1 : Int32)) (20 : Int32)))
    let σ2 : Mem := sI σ1 0 6 (((gI σ1 0 6) - (1 : Int32)))
    gd (inB (gI σ2 0 7) 20 = true) <|
    Option.bind (m7_copyFrom F 26 ((187 + 10 * ((gI σ2 0 7)).toNatClampNeg)) σ2) fun p3 =>
    some ((gI p3 0 6), p3)
    )
def m11_ahead (F : Nat) (i1 : Int32) (i2 : Int32) (i3 : Int32) (σ : Mem) : Option (Int32 × Mem) :=
  Option.bind (m11_hasSmith F i1 σ) fun p1 =>
  if p1 = (0 : Int32) then (
    some ((-1 : Int32), σ)
    ) else (
    if i2 < (0 : Int32) then (
      some ((-1 : Int32), σ)
      ) else (
      if (200 : Int32) < i2 then (
        some ((-1 : Int32), σ)
        ) else (
        if i3 < (0 : Int32) then (
          some ((-1 : Int32), σ)
          ) else (
          if i3 ≤ (2 : Int32) then (
            Option.bind (m11_ruleInForce F σ) fun p2 =>
            Option.bind (m2_plain F p2 σ) fun p3 =>
            Option.bind (m6_goOn F 26 i2 p3) fun p4 =>
            if i3 = (0 : Int32) then (
              gd (inB i1 3 = true) <|
              some ((gI p4 47 (i1).toNatClampNeg), p4)
              ) else (
              if i3 = (2 : Int32) then (
                gd (inB i1 3 = true) <|
                some ((gI p4 49 (i1).toNatClampNeg), p4)
                ) else (
                Option.bind (m7_jobOf F 46 17 i1 p4) fun p5 =>
                if p5 = (-1 : Int32) then (
                  some ((0 : Int32), p4)
                  ) else (
                  gd (inB p5 8 = true) <|
                  some ((gI p4 52 (p5).toNatClampNeg), p4)
                  )
                )
              )
            ) else (
            some ((-1 : Int32), σ)
            )
          )
        )
      )
    )
def m11_ready (F : Nat) (i1 : Int32) (σ : Mem) : Option (Int32 × Mem) :=
  Option.bind (m11_hasJob F i1 σ) fun p1 =>
  if p1 = (0 : Int32) then (
    some ((-1 : Int32), σ)
    ) else (
    Option.bind (m11_ruleInForce F σ) fun p2 =>
    Option.bind (m2_plain F p2 σ) fun p3 =>
    Option.bind (m6_readyAt F 26 i1 p3) fun p4 =>
    some (p4.1, p4.2)
    )
def m11_all (F : Nat)  (σ : Mem) : Option (Int32 × Mem) :=
  if (gI σ 17 0) = (0 : Int32) then (
    some ((-1 : Int32), σ)
    ) else (
    Option.bind (m11_ruleInForce F σ) fun p1 =>
    Option.bind (m2_plain F p1 σ) fun p2 =>
    Option.bind (m6_untilAll F 26 p2) fun p3 =>
    if p3.1 ≤ (500 : Int32) then (
      some (((gI p3.2 26 0) + p3.1), p3.2)
      ) else (
      some ((-2 : Int32), p3.2)
      )
    )
def m11_rota (F : Nat) (i1 : Int32) (i2 : Int32) (σ : Mem) : Option (Int32 × Mem) :=
  if (gI σ 17 0) = (0 : Int32) then (
    some ((-1 : Int32), σ)
    ) else (
    if i1 < (1 : Int32) then (
      some ((-1 : Int32), σ)
      ) else (
      if (4 : Int32) < i1 then (
        some ((-1 : Int32), σ)
        ) else (
        if i2 < (0 : Int32) then (
          some ((-1 : Int32), σ)
          ) else (
          if i2 ≤ (4 : Int32) then (
            if i2 ≤ i1 then (
              Option.bind (m2_plain F 0 σ) fun p1 =>
              Option.bind (m0_bestRota F 26 i1 i2 p1) fun p2 =>
              some (p2.1, p2.2)
              ) else (
              some ((-2 : Int32), σ)
              )
            ) else (
            some ((-1 : Int32), σ)
            )
          )
        )
      )
    )
def m11_round (F : Nat) (i1 : Int32) (σ : Mem) : Option (Int32 × Mem) :=
  if (gI σ 17 0) = (0 : Int32) then (
    some ((-1 : Int32), σ)
    ) else (
    if i1 < (0 : Int32) then (
      some ((-1 : Int32), σ)
      ) else (
      if i1 ≤ (3 : Int32) then (
        if i1 ≤ (gI σ 17 4) then (
          Option.bind (m11_ruleInForce F σ) fun p1 =>
          Option.bind (m2_plain F p1 σ) fun p2 =>
          Option.bind (m9_turn F 26 i1 p2) fun p3 =>
          some (p3.1, p3.2)
          ) else (
          some ((-2 : Int32), σ)
          )
        ) else (
        some ((-1 : Int32), σ)
        )
      )
    )
def m11_beside (F : Nat) (i1 : Int32) (σ : Mem) : Option (Int32 × Mem) :=
  if (gI σ 17 0) = (0 : Int32) then (
    some ((-3 : Int32), σ)
    ) else (
    if i1 < (0 : Int32) then (
      some ((-3 : Int32), σ)
      ) else (
      if i1 ≤ (4 : Int32) then (
        if (i1 - (2 : Int32)) < (gI σ 17 4) then (
          Option.bind (m0_bestBeside F 26 i1 σ) fun p1 =>
          some (p1.1, p1.2)
          ) else (
          some ((-2 : Int32), σ)
          )
        ) else (
        some ((-3 : Int32), σ)
        )
      )
    )
def m11_worth (F : Nat) (i1 : Int32) (i2 : Int32) (σ : Mem) : Option (Int32 × Mem) :=
  Option.bind (m11_hasSmith F i1 σ) fun p1 =>
  if p1 = (0 : Int32) then (
    some ((-100000 : Int32), σ)
    ) else (
    if i2 < (1 : Int32) then (
      some ((-100000 : Int32), σ)
      ) else (
      if i2 ≤ (60 : Int32) then (
        Option.bind (m11_ruleInForce F σ) fun p2 =>
        Option.bind (m2_plain F p2 σ) fun p3 =>
        Option.bind (m6_blowsOfOthers F 26 i1 i2 p3) fun p4 =>
        let σ5 : Mem := sI p4.2 40 2 i1
        Option.bind (m6_blowsOfOthers F 26 i1 i2 σ5) fun p6 =>
        some ((p6.1 - p4.1), p6.2)
        ) else (
        some ((-100000 : Int32), σ)
        )
      )
    )
def m11_splits (F : Nat) (i1 : Int32) (i2 : Int32) (σ : Mem) : Option (Int32 × Mem) :=
  Option.bind (m11_hasPart F i1 σ) fun p1 =>
  if p1 = (0 : Int32) then (
    some ((-3 : Int32), σ)
    ) else (
    if i2 < (0 : Int32) then (
      some ((-3 : Int32), σ)
      ) else (
      if i2 ≤ (1 : Int32) then (
        gd (inB i1 4 = true) <|
        if (gI σ 35 (i1).toNatClampNeg) < (gI σ 17 3) then (
          Option.bind (m11_ruleInForce F σ) fun p2 =>
          Option.bind (m2_plain F p2 σ) fun p3 =>
          Option.bind (m6_splitting F 26 i1 i2 p3) fun p4 =>
          some (p4.1, p4.2)
          ) else (
          some ((-1 : Int32), σ)
          )
        ) else (
        some ((-3 : Int32), σ)
        )
      )
    )
def m11_order (F : Nat) (i1 : Int32) (i2 : Int32) (σ : Mem) : Option (Int32 × Mem) :=
  Option.bind (m11_hasSmith F i1 σ) fun p1 =>
  if p1 = (0 : Int32) then (
    some ((-1 : Int32), σ)
    ) else (
    if i2 < (0 : Int32) then (
      some ((-1 : Int32), σ)
      ) else (
      if i2 ≤ (5 : Int32) then (
        Option.bind (m7_toDo F 26 17 i1 σ) fun p2 =>
        if p2 ≤ (5 : Int32) then (
          Option.bind (m11_ruleInForce F σ) fun p3 =>
          Option.bind (m2_plain F p3 σ) fun p4 =>
          Option.bind (m0_bestOrder F 26 i1 i2 p4) fun p5 =>
          some (p5.1, p5.2)
          ) else (
          some ((-3 : Int32), σ)
          )
        ) else (
        some ((-1 : Int32), σ)
        )
      )
    )
def m11_second (F : Nat)  (σ : Mem) : Option (Int32 × Mem) :=
  if (gI σ 17 0) = (0 : Int32) then (
    some ((-100000 : Int32), σ)
    ) else (
    Option.bind (m11_ruleInForce F σ) fun p1 =>
    Option.bind (m2_plain F p1 σ) fun p2 =>
    Option.bind (m6_untilAll F 26 p2) fun p3 =>
    let σ4 : Mem := sI p3.2 40 4 (1 : Int32)
    Option.bind (m6_untilAll F 26 σ4) fun p5 =>
    some (((mnI (500 : Int32) p3.1) - (mnI (500 : Int32) p5.1)), p5.2)
    )
def m11_seed (F : Nat) (i1 : Int32) (σ : Mem) : Option (Int32 × Mem) :=
  if (0 : Int32) ≤ i1 then (
    let σ1 : Mem := sI σ 16 4 i1
    some ((gI σ 16 4), σ1)
    ) else (
    some ((-1 : Int32), σ)
    )
def m11_days (F : Nat) (i1 : Int32) (i2 : Int32) (i3 : Int32) (i4 : Int32) (σ : Mem) : Option (Int32 × Mem) :=
  if (gI σ 17 0) = (0 : Int32) then (
    some ((-1 : Int32), σ)
    ) else (
    if i1 < (1 : Int32) then (
      some ((-1 : Int32), σ)
      ) else (
      if (10 : Int32) < i1 then (
        some ((-1 : Int32), σ)
        ) else (
        if i2 < (1 : Int32) then (
          some ((-1 : Int32), σ)
          ) else (
          if i2 ≤ (99 : Int32) then (
            if i3 < (0 : Int32) then (
              some ((-1 : Int32), σ)
              ) else (
              if (100 : Int32) < i3 then (
                some ((-1 : Int32), σ)
                ) else (
                if i4 < (0 : Int32) then (
                  some ((-1 : Int32), σ)
                  ) else (
                  if i4 ≤ (1 : Int32) then (
                    Option.bind (m11_ruleInForce F σ) fun p1 =>
                    Option.bind (m2_plain F p1 σ) fun p2 =>
                    Option.bind (m6_live F 16 i1 i2 i3 p2) fun p3 =>
                    if i4 = (0 : Int32) then (
                      some ((gI p3 45 3), p3)
                      ) else (
                      some ((gI p3 45 4), p3)
                      )
                    ) else (
                    some ((-1 : Int32), σ)
                    )
                  )
                )
              )
            ) else (
            some ((-1 : Int32), σ)
            )
          )
        )
      )
    )
def m11_note (F : Nat) (i1 : Int32) (i2 : Int32) (i3 : Int32) (σ : Mem) : Option (Int32 × Mem) :=
  if i1 = (-1 : Int32) then (
    let σ1 : Mem := sI σ 36 0 (0 : Int32)
    some ((0 : Int32), σ1)
    ) else (
    Option.bind (m11_hasPart F i2 σ) fun p2 =>
    if p2 = (0 : Int32) then (
      some ((-2 : Int32), σ)
      ) else (
      if i1 < (0 : Int32) then (
        some ((-2 : Int32), σ)
        ) else (
        if (100 : Int32) ≤ i1 then (
          some ((-2 : Int32), σ)
          ) else (
          if i3 < (0 : Int32) then (
            some ((-2 : Int32), σ)
            ) else (
            if i3 ≤ (9999 : Int32) then (
              if (gI σ 36 0) < (10 : Int32) then (
                Option.bind (m3_add F 36 i1 i2 i3 σ) fun p3 =>
                some ((gI p3 36 0), p3)
                ) else (
                some ((-2 : Int32), σ)
                )
              ) else (
              some ((-2 : Int32), σ)
              )
            )
          )
        )
      )
    )
def m11_ruled (F : Nat) (i1 : Int32) (σ : Mem) : Option (Int32 × Mem) :=
  if (gI σ 17 0) = (0 : Int32) then (
    some ((-3 : Int32), σ)
    ) else (
    if i1 < (0 : Int32) then (
      some ((-3 : Int32), σ)
      ) else (
      if i1 ≤ (1 : Int32) then (
        Option.bind (m1_weigh F (gI σ 0 4) 36 (-1 : Int32) σ) fun p1 =>
        if i1 = (0 : Int32) then (
          some ((gI p1 135 5), p1)
          ) else (
          if (gI p1 135 5) = (0 : Int32) then (
            some ((-2 : Int32), p1)
            ) else (
            some ((gI p1 135 6), p1)
            )
          )
        ) else (
        some ((-3 : Int32), σ)
        )
      )
    )
def m11_look (F : Nat) (i1 : Int32) (i2 : Int32) (σ : Mem) : Option (Int32 × Mem) :=
  if (gI σ 17 0) = (0 : Int32) then (
    some ((-1 : Int32), σ)
    ) else (
    if i1 < (0 : Int32) then (
      some ((-1 : Int32), σ)
      ) else (
      if (100 : Int32) ≤ i1 then (
        some ((-1 : Int32), σ)
        ) else (
        if i2 < (0 : Int32) then (
          some ((-1 : Int32), σ)
          ) else (
          if i2 ≤ (1 : Int32) then (
            Option.bind (m1_weigh F (gI σ 0 4) 36 i1 σ) fun p1 =>
            if (gI p1 135 5) = (0 : Int32) then (
              some ((-2 : Int32), p1)
              ) else (
              Option.bind (m1_partingPart F p1) fun p2 =>
              if i2 = (0 : Int32) then (
                some (p2, p1)
                ) else (
                Option.bind (m1_mostAlike F p2 p1) fun p3 =>
                some (p3, p1)
                )
              )
            ) else (
            some ((-1 : Int32), σ)
            )
          )
        )
      )
    )
def m11_image (F : Nat) (i1 : Int32) (σ : Mem) : Option (Int32 × Mem) :=
  if i1 < (0 : Int32) then (
    some ((-1 : Int32), σ)
    ) else (
    if i1 < (4 : Int32) then (
      gd (inB i1 4 = true) <|
      Option.bind (m10_copyFrom F ((387 + 24 * (i1).toNatClampNeg)) 16 σ) fun p1 =>
      gd (inB i1 4 = true) <|
      let σ2 : Mem := sI p1 15 (i1).toNatClampNeg (((1 : Int32) &&& (1 : Int32)))
      some ((gI σ2 26 0), σ2)
      ) else (
      some ((-1 : Int32), σ)
      )
    )
def m11_back (F : Nat) (i1 : Int32) (σ : Mem) : Option (Int32 × Mem) :=
  if i1 < (0 : Int32) then (
    some ((-1 : Int32), σ)
    ) else (
    if (4 : Int32) ≤ i1 then (
      some ((-1 : Int32), σ)
      ) else (
      gd (inB i1 4 = true) <|
      if (gI σ 15 (i1).toNatClampNeg) = (0 : Int32) then (
        some ((-1 : Int32), σ)
        ) else (
        gd (inB i1 4 = true) <|
        Option.bind (m10_copyFrom F 16 ((387 + 24 * (i1).toNatClampNeg)) σ) fun p1 =>
        let σ2 : Mem := sI p1 0 6 (0 : Int32)
        some ((gI σ2 26 0), σ2)
        )
      )
    )
def m12_in (F : Nat) (j0 : Int64) (j1 : Int64) (j2 : Int64) (σ : Mem) : Option (Int32) :=
  if (lg_cmp j0 j1) < (0 : Int32) then (
    some (0 : Int32)
    ) else (
    if (0 : Int32) < (lg_cmp j0 j2) then (
      some (0 : Int32)
      ) else (
      some (1 : Int32)
      )
    )
def m12_isOf (F : Nat) (i0 : Int32) (i1 : Int32) (σ : Mem) : Option (Int32) :=
  if ((i0 >>> (i1 &&& (31 : Int32))) &&& (1 : Int32)) = (1 : Int32) then (
    some (1 : Int32)
    ) else (
    some (0 : Int32)
    )
def m12_four_3 (F : Nat) (i1 : Int32) : Nat → Int32 → Mem → Option (Mem)
  | 0, _, _ => none
  | n + 1, x2, σ =>
    if x2 < (0 : Int32) then (
      some σ
      ) else (
      gd (inB (gI σ 483 1) 400 = true) <|
      let σ1 : Mem := sI σ 484 ((gI σ 483 1)).toNatClampNeg ((((i1 >>> (x2 &&& (31 : Int32)))).toInt8.toInt32).toInt8.toInt32)
      let σ2 : Mem := sI σ1 483 1 (((gI σ1 483 1) + (1 : Int32)))
      m12_four_3 F i1 n ((x2 + (-8 : Int32))) σ2
      )
def m12_four (F : Nat) (i1 : Int32) (σ : Mem) : Option (Mem) :=
  m12_four_3 F i1 F (24 : Int32) σ
def m12_feed (F : Nat) (i1 : Int32) (i2 : Int32) (i3 : Int32) (i4 : Int32) (i5 : Int32) (σ : Mem) : Option (Int32 × Mem) :=
  if ((gI σ 483 1) + (20 : Int32)) ≤ (400 : Int32) then (
    Option.bind (m12_four F i1 σ) fun p1 =>
    Option.bind (m12_four F i2 p1) fun p2 =>
    Option.bind (m12_four F i3 p2) fun p3 =>
    Option.bind (m12_four F i4 p3) fun p4 =>
    Option.bind (m12_four F i5 p4) fun p5 =>
    some ((gI p5 483 1), p5)
    ) else (
    some ((-1 : Int32), σ)
    )
def m12_end (F : Nat) (i1 : Int32) (σ : Mem) : Option (Int32 × Mem) :=
  if i1 < (0 : Int32) then (
    some ((-1 : Int32), σ)
    ) else (
    if i1 ≤ (gI σ 483 1) then (
      let σ1 : Mem := sI σ 483 1 i1
      some (i1, σ1)
      ) else (
      some ((-1 : Int32), σ)
      )
    )
def m12_fails (F : Nat) (i1 : Int32) (i2 : Int32) (σ : Mem) : Option (Int32 × Mem) :=
  if (gI σ 483 9) = (0 : Int32) then (
    let σ1 : Mem := sI σ 483 9 ((((1 : Int32) + ((8 : Int32) * i2)) + i1))
    some ((0 : Int32), σ1)
    ) else (
    some ((0 : Int32), σ)
    )
def m12_see_38 (F : Nat) (σ : Mem) : Option (Int32 × Mem) :=
  if (gI σ 483 1) ≤ (gI σ 483 8) then (
    some ((-1 : Int32), σ)
    ) else (
    gd (inB (gI σ 483 8) 400 = true) <|
    some (((gI σ 484 ((gI σ 483 8)).toNatClampNeg) &&& (255 : Int32)), σ)
    )
def m12_see_0 (F : Nat) : Nat → Mem → Option (Int32 × Mem)
  | 0, _ => none
  | n + 1, σ =>
    if (gI σ 483 1) ≤ (gI σ 483 8) then (
      m12_see_38 F σ
      ) else (
      gd (inB (gI σ 483 8) 400 = true) <|
      if (gI σ 484 ((gI σ 483 8)).toNatClampNeg) = (32 : Int32) then (
        let σ1 : Mem := sI σ 483 8 (((gI σ 483 8) + (1 : Int32)))
        m12_see_0 F n σ1
        ) else (
        m12_see_38 F σ
        )
      )
def m12_see (F : Nat)  (σ : Mem) : Option (Int32 × Mem) :=
  m12_see_0 F F σ
def m12_isDigit (F : Nat) (i1 : Int32) (σ : Mem) : Option (Int32) :=
  if (gI σ 483 1) ≤ i1 then (
    some (0 : Int32)
    ) else (
    gd (inB i1 400 = true) <|
    if (gI σ 484 (i1).toNatClampNeg) < (48 : Int32) then (
      some (0 : Int32)
      ) else (
      gd (inB i1 400 = true) <|
      if (57 : Int32) < (gI σ 484 (i1).toNatClampNeg) then (
        some (0 : Int32)
        ) else (
        some (1 : Int32)
        )
      )
    )
def m12_isLetter (F : Nat) (i1 : Int32) (σ : Mem) : Option (Int32) :=
  if (gI σ 483 1) ≤ i1 then (
    some (0 : Int32)
    ) else (
    gd (inB i1 400 = true) <|
    if (gI σ 484 (i1).toNatClampNeg) < (97 : Int32) then (
      some (0 : Int32)
      ) else (
      gd (inB i1 400 = true) <|
      if (122 : Int32) < (gI σ 484 (i1).toNatClampNeg) then (
        some (0 : Int32)
        ) else (
        some (1 : Int32)
        )
      )
    )
def m12_isWord_10 (F : Nat) (j1 : Int64) : Nat → Int64 → Int32 → Mem → Option (Int32 × Mem)
  | 0, _, _, _ => none
  | n + 1, x3, x5, σ =>
    Option.bind (m12_isLetter F (((gI σ 483 8) + x5)) σ) fun p1 =>
    if p1 = (0 : Int32) then (
      if x5 ≤ (0 : Int32) then (
        some ((0 : Int32), σ)
        ) else (
        if (8 : Int32) ≤ x5 then (
          some ((0 : Int32), σ)
          ) else (
          if (lg_cmp x3 j1) = (0 : Int32) then (
            some ((1 : Int32), σ)
            ) else (
            some ((0 : Int32), σ)
            )
          )
        )
      ) else (
      if (8 : Int32) ≤ x5 then (
        m12_isWord_10 F j1 n x3 ((x5 + (1 : Int32))) σ
        ) else (
        gd (inB ((gI σ 483 8) + x5) 400 = true) <|
        m12_isWord_10 F j1 n (((x3 <<< (((8 : Int32)).toInt64 &&& (63 : Int64))) ||| ((gI σ 484 (((gI σ 483 8) + x5)).toNatClampNeg)).toInt64)) ((x5 + (1 : Int32))) σ
        )
      )
def m12_isWord (F : Nat) (j1 : Int64) (σ : Mem) : Option (Int32 × Mem) :=
  Option.bind (m12_see F σ) fun p1 =>
  m12_isWord_10 F j1 F (0 : Int64) (0 : Int32) p1.2
def m12_passWord_0 (F : Nat) : Nat → Mem → Option (Mem)
  | 0, _ => none
  | n + 1, σ =>
    Option.bind (m12_isLetter F (gI σ 483 8) σ) fun p1 =>
    if p1 = (0 : Int32) then (
      some σ
      ) else (
      let σ2 : Mem := sI σ 483 8 (((gI σ 483 8) + (1 : Int32)))
      m12_passWord_0 F n σ2
      )
def m12_passWord (F : Nat)  (σ : Mem) : Option (Mem) :=
  m12_passWord_0 F F σ
def m12_takesWord (F : Nat) (j1 : Int64) (σ : Mem) : Option (Int32 × Mem) :=
  Option.bind (m12_isWord F j1 σ) fun p1 =>
  if p1.1 = (0 : Int32) then (
    some ((0 : Int32), p1.2)
    ) else (
    Option.bind (m12_passWord F p1.2) fun p2 =>
    some ((1 : Int32), p2)
    )
def m12_numberHere_117 (F : Nat) (i1 : Int32) (i2 : Int32) (x3 : Int32) (σ : Mem) : Option (Int32 × Mem) :=
  Option.bind (m12_fails F (1 : Int32) x3 σ) fun p1 =>
  if p1.1 = (0 : Int32) then (
    some ((0 : Int32), p1.2)
    ) else (
    some ((1 : Int32), p1.2)
    )
def m12_numberHere_34 (F : Nat) (i1 : Int32) (i2 : Int32) : Nat → Int32 → Int32 → Mem → Option (Int32 × Mem)
  | 0, _, _, _ => none
  | n + 1, x3, x4, σ =>
    Option.bind (m12_isDigit F (gI σ 483 8) σ) fun p1 =>
    if p1 = (0 : Int32) then (
      let σ2 : Mem := sI σ 483 10 x4
      if (5 : Int32) < ((gI σ2 483 8) - x3) then (
        m12_numberHere_117 F i1 i2 x3 σ2
        ) else (
        Option.bind (m12_in F ((x4).toInt64) ((i1).toInt64) ((i2).toInt64) σ2) fun p3 =>
        if p3 = (0 : Int32) then (
          m12_numberHere_117 F i1 i2 x3 σ2
          ) else (
          some ((1 : Int32), σ2)
          )
        )
      ) else (
      if (5 : Int32) ≤ ((gI σ 483 8) - x3) then (
        let σ4 : Mem := sI σ 483 8 (((gI σ 483 8) + (1 : Int32)))
        m12_numberHere_34 F i1 i2 n x3 x4 σ4
        ) else (
        gd (inB (gI σ 483 8) 400 = true) <|
        let σ5 : Mem := sI σ 483 8 (((gI σ 483 8) + (1 : Int32)))
        m12_numberHere_34 F i1 i2 n x3 (((((10 : Int32) * x4) + (gI σ 484 ((gI σ 483 8)).toNatClampNeg)) - (48 : Int32))) σ5
        )
      )
def m12_numberHere (F : Nat) (i1 : Int32) (i2 : Int32) (σ : Mem) : Option (Int32 × Mem) :=
  Option.bind (m12_see F σ) fun p1 =>
  Option.bind (m12_isDigit F (gI p1.2 483 8) p1.2) fun p2 =>
  if p2 = (0 : Int32) then (
    Option.bind (m12_fails F (0 : Int32) (gI p1.2 483 8) p1.2) fun p3 =>
    gd (p3.1 = (0 : Int32) ∨ p3.1 = (1 : Int32)) <|
    some (p3.1, p3.2)
    ) else (
    m12_numberHere_34 F i1 i2 F (gI p1.2 483 8) (0 : Int32) p1.2
    )
def m12_wordHere (F : Nat)  (σ : Mem) : Option (Int32 × Mem) :=
  Option.bind (m12_isWord F (495756866664 : Int64) σ) fun p1 =>
  if p1.1 = (0 : Int32) then (
    Option.bind (m12_isWord F (1751474548 : Int64) p1.2) fun p2 =>
    if p2.1 = (0 : Int32) then (
      Option.bind (m12_isWord F (6844276 : Int64) p2.2) fun p3 =>
      if p3.1 = (0 : Int32) then (
        Option.bind (m12_isWord F (1852138852 : Int64) p3.2) fun p4 =>
        if p4.1 = (0 : Int32) then (
          Option.bind (m12_isWord F (1818584692 : Int64) p4.2) fun p5 =>
          if p5.1 = (0 : Int32) then (
            Option.bind (m12_isWord F (7364985 : Int64) p5.2) fun p6 =>
            if p6.1 = (0 : Int32) then (
              Option.bind (m12_isWord F (487301145451 : Int64) p6.2) fun p7 =>
              if p7.1 = (0 : Int32) then (
                Option.bind (m12_isWord F (120325344161396 : Int64) p7.2) fun p8 =>
                if p8.1 = (0 : Int32) then (
                  Option.bind (m12_isWord F (2003792494 : Int64) p8.2) fun p9 =>
                  if p9.1 = (0 : Int32) then (
                    Option.bind (m12_isWord F (125797283228787 : Int64) p9.2) fun p10 =>
                    if p10.1 = (0 : Int32) then (
                      Option.bind (m12_isWord F (512735409267 : Int64) p10.2) fun p11 =>
                      if p11.1 = (0 : Int32) then (
                        Option.bind (m12_isWord F (1651864174 : Int64) p11.2) fun p12 =>
                        if p12.1 = (0 : Int32) then (
                          Option.bind (m12_isWord F (1685024357 : Int64) p12.2) fun p13 =>
                          if p13.1 = (0 : Int32) then (
                            some ((-1 : Int32), p13.2)
                            ) else (
                            some ((12 : Int32), p13.2)
                            )
                          ) else (
                          some ((11 : Int32), p12.2)
                          )
                        ) else (
                        some ((10 : Int32), p11.2)
                        )
                      ) else (
                      some ((9 : Int32), p10.2)
                      )
                    ) else (
                    some ((8 : Int32), p9.2)
                    )
                  ) else (
                  some ((7 : Int32), p8.2)
                  )
                ) else (
                some ((6 : Int32), p7.2)
                )
              ) else (
              some ((5 : Int32), p6.2)
              )
            ) else (
            some ((4 : Int32), p5.2)
            )
          ) else (
          some ((3 : Int32), p4.2)
          )
        ) else (
        some ((2 : Int32), p3.2)
        )
      ) else (
      some ((1 : Int32), p2.2)
      )
    ) else (
    some ((0 : Int32), p1.2)
    )
def m12_puts (F : Nat) (i1 : Int32) (i2 : Int32) (σ : Mem) : Option (Mem) :=
  gd (inB (gI σ 483 11) 7 = true) <|
  gd (inB (((400 : Int32) * (gI σ 483 11)) + (gI σ 486 ((gI σ 483 11)).toNatClampNeg)) 2400 = true) <|
  let σ1 : Mem := sI σ 485 ((((400 : Int32) * (gI σ 483 11)) + (gI σ 486 ((gI σ 483 11)).toNatClampNeg))).toNatClampNeg ((i1 + ((16 : Int32) * i2)))
  gd (inB (gI σ1 483 11) 7 = true) <|
  gd (inB (gI σ1 483 11) 7 = true) <|
  let σ2 : Mem := sI σ1 486 ((gI σ1 483 11)).toNatClampNeg (((gI σ1 486 ((gI σ1 483 11)).toNatClampNeg) + (1 : Int32)))
  some σ2
def m12_makes (F : Nat) (i1 : Int32) (σ : Mem) : Option (Int32 × Mem) :=
  if (gI σ 483 12) = (60 : Int32) then (
    Option.bind (m12_fails F (3 : Int32) i1 σ) fun p1 =>
    gd (p1.1 = (0 : Int32) ∨ p1.1 = (1 : Int32)) <|
    some (p1.1, p1.2)
    ) else (
    let σ2 : Mem := sI σ 483 12 (((gI σ 483 12) + (1 : Int32)))
    some ((1 : Int32), σ2)
    )
def m12_opens (F : Nat) (i1 : Int32) (σ : Mem) : Option (Int32 × Mem) :=
  if (gI σ 483 13) = (10 : Int32) then (
    Option.bind (m12_fails F (2 : Int32) (gI σ 483 8) σ) fun p1 =>
    gd (p1.1 = (0 : Int32) ∨ p1.1 = (1 : Int32)) <|
    some (p1.1, p1.2)
    ) else (
    let σ2 : Mem := sI σ 483 13 (((gI σ 483 13) + (1 : Int32)))
    gd (inB (gI σ2 483 16) 400 = true) <|
    let σ3 : Mem := sI σ2 490 ((gI σ2 483 16)).toNatClampNeg i1
    let σ4 : Mem := sI σ3 483 16 (((gI σ3 483 16) + (1 : Int32)))
    some ((1 : Int32), σ4)
    )
def m12_strength (F : Nat) (i0 : Int32) (σ : Mem) : Option (Int32) :=
  if i0 = (13 : Int32) then (
    some (1 : Int32)
    ) else (
    if i0 = (12 : Int32) then (
      some (2 : Int32)
      ) else (
      if i0 = (11 : Int32) then (
        some (3 : Int32)
        ) else (
        some (0 : Int32)
        )
      )
    )
def m12_settles_0 (F : Nat) (i1 : Int32) : Nat → Mem → Option (Mem)
  | 0, _ => none
  | n + 1, σ =>
    if (gI σ 483 16) ≤ (0 : Int32) then (
      some σ
      ) else (
      gd (inB ((gI σ 483 16) - (1 : Int32)) 400 = true) <|
      Option.bind (m12_strength F ((gI σ 490 (((gI σ 483 16) - (1 : Int32))).toNatClampNeg)) σ) fun p1 =>
      if p1 < i1 then (
        some σ
        ) else (
        let σ2 : Mem := sI σ 483 16 (((gI σ 483 16) - (1 : Int32)))
        gd (inB (gI σ2 483 16) 400 = true) <|
        Option.bind (m12_puts F ((gI σ2 490 ((gI σ2 483 16)).toNatClampNeg)) (0 : Int32) σ2) fun p3 =>
        gd (inB (gI p3 483 16) 400 = true) <|
        if (gI p3 490 ((gI p3 483 16)).toNatClampNeg) = (11 : Int32) then (
          let σ4 : Mem := sI p3 483 13 (((gI p3 483 13) - (1 : Int32)))
          m12_settles_0 F i1 n σ4
          ) else (
          m12_settles_0 F i1 n p3
          )
        )
      )
def m12_settles (F : Nat) (i1 : Int32) (σ : Mem) : Option (Mem) :=
  m12_settles_0 F i1 F σ
def m12_value (F : Nat)  (σ : Mem) : Option (Int32 × Mem) :=
  Option.bind (m12_see F σ) fun p1 =>
  Option.bind (m12_isDigit F (gI p1.2 483 8) p1.2) fun p2 =>
  if p2 = (0 : Int32) then (
    Option.bind (m12_wordHere F p1.2) fun p3 =>
    if (0 : Int32) ≤ p3.1 then (
      Option.bind (m12_makes F (gI p1.2 483 8) p3.2) fun p4 =>
      if p4.1 = (0 : Int32) then (
        some ((0 : Int32), p4.2)
        ) else (
        Option.bind (m12_passWord F p4.2) fun p5 =>
        Option.bind (m12_puts F (1 : Int32) p3.1 p5) fun p6 =>
        some ((1 : Int32), p6)
        )
      ) else (
      Option.bind (m12_fails F (0 : Int32) (gI p1.2 483 8) p3.2) fun p7 =>
      gd (p7.1 = (0 : Int32) ∨ p7.1 = (1 : Int32)) <|
      some (p7.1, p7.2)
      )
    ) else (
    Option.bind (m12_numberHere F (0 : Int32) (99999 : Int32) p1.2) fun p8 =>
    if p8.1 = (0 : Int32) then (
      some ((0 : Int32), p8.2)
      ) else (
      Option.bind (m12_makes F (gI p1.2 483 8) p8.2) fun p9 =>
      if p9.1 = (0 : Int32) then (
        some ((0 : Int32), p9.2)
        ) else (
        Option.bind (m12_puts F (0 : Int32) (gI p9.2 483 10) p9.2) fun p10 =>
        some ((1 : Int32), p10)
        )
      )
    )
def m12_term_74 (F : Nat) (k9 : Mem → Option (Int32 × Mem)) (s0 : Int32) (σ : Mem) : Option (Int32 × Mem) :=
  let σ1 : Mem := sI σ 483 8 (((gI σ 483 8) + (1 : Int32)))
  Option.bind (m12_value F σ1) fun p2 =>
  if p2.1 = (0 : Int32) then (
    some ((0 : Int32), p2.2)
    ) else (
    Option.bind (m12_puts F s0 (0 : Int32) p2.2) fun p3 =>
    k9 p3
    )
def m12_term_36 (F : Nat) (k9 : Mem → Option (Int32 × Mem)) (σ : Mem) : Option (Int32 × Mem) :=
  gd (inB (gI σ 483 8) 400 = true) <|
  if (gI σ 484 ((gI σ 483 8)).toNatClampNeg) = (42 : Int32) then (
    m12_term_74 F (fun σ => k9 σ) (4 : Int32) σ
    ) else (
    gd (inB (gI σ 483 8) 400 = true) <|
    if (gI σ 484 ((gI σ 483 8)).toNatClampNeg) = (47 : Int32) then (
      m12_term_74 F (fun σ => k9 σ) (5 : Int32) σ
      ) else (
      m12_term_74 F (fun σ => k9 σ) (14 : Int32) σ
      )
    )
def m12_term_9 (F : Nat) : Nat → Mem → Option (Int32 × Mem)
  | 0, _ => none
  | n + 1, σ =>
    Option.bind (m12_see F σ) fun p1 =>
    if p1.1 = (42 : Int32) then (
      m12_term_36 F (fun σ => m12_term_9 F n σ) p1.2
      ) else (
      Option.bind (m12_see F p1.2) fun p2 =>
      if p2.1 = (47 : Int32) then (
        m12_term_36 F (fun σ => m12_term_9 F n σ) p2.2
        ) else (
        Option.bind (m12_see F p2.2) fun p3 =>
        if p3.1 = (37 : Int32) then (
          m12_term_36 F (fun σ => m12_term_9 F n σ) p3.2
          ) else (
          some ((1 : Int32), p3.2)
          )
        )
      )
def m12_term (F : Nat)  (σ : Mem) : Option (Int32 × Mem) :=
  Option.bind (m12_value F σ) fun p1 =>
  if p1.1 = (0 : Int32) then (
    some ((0 : Int32), p1.2)
    ) else (
    m12_term_9 F F p1.2
    )
def m12_sum_46 (F : Nat) (k9 : Mem → Option (Int32 × Mem)) (s0 : Int32) (σ : Mem) : Option (Int32 × Mem) :=
  let σ1 : Mem := sI σ 483 8 (((gI σ 483 8) + (1 : Int32)))
  Option.bind (m12_term F σ1) fun p2 =>
  if p2.1 = (0 : Int32) then (
    some ((0 : Int32), p2.2)
    ) else (
    Option.bind (m12_puts F s0 (0 : Int32) p2.2) fun p3 =>
    k9 p3
    )
def m12_sum_27 (F : Nat) (k9 : Mem → Option (Int32 × Mem)) (σ : Mem) : Option (Int32 × Mem) :=
  gd (inB (gI σ 483 8) 400 = true) <|
  if (gI σ 484 ((gI σ 483 8)).toNatClampNeg) = (43 : Int32) then (
    m12_sum_46 F (fun σ => k9 σ) (2 : Int32) σ
    ) else (
    m12_sum_46 F (fun σ => k9 σ) (3 : Int32) σ
    )
def m12_sum_9 (F : Nat) : Nat → Mem → Option (Int32 × Mem)
  | 0, _ => none
  | n + 1, σ =>
    Option.bind (m12_see F σ) fun p1 =>
    if p1.1 = (43 : Int32) then (
      m12_sum_27 F (fun σ => m12_sum_9 F n σ) p1.2
      ) else (
      Option.bind (m12_see F p1.2) fun p2 =>
      if p2.1 = (45 : Int32) then (
        m12_sum_27 F (fun σ => m12_sum_9 F n σ) p2.2
        ) else (
        some ((1 : Int32), p2.2)
        )
      )
def m12_sum (F : Nat)  (σ : Mem) : Option (Int32 × Mem) :=
  Option.bind (m12_term F σ) fun p1 =>
  if p1.1 = (0 : Int32) then (
    some ((0 : Int32), p1.2)
    ) else (
    m12_sum_9 F F p1.2
    )
def m12_compare_152 (F : Nat) (s0 : Int32) (σ : Mem) : Option (Int32 × Mem) :=
  Option.bind (m12_sum F σ) fun p1 =>
  if p1.1 = (0 : Int32) then (
    some ((0 : Int32), p1.2)
    ) else (
    Option.bind (m12_puts F (((6 : Int32) + s0)) (0 : Int32) p1.2) fun p2 =>
    some ((1 : Int32), p2)
    )
def m12_compare_105 (F : Nat) (x1 : Int32) (x2 : Int32) (x3 : Int32) (σ : Mem) : Option (Int32 × Mem) :=
  Option.bind (m12_makes F x2 σ) fun p1 =>
  if p1.1 = (0 : Int32) then (
    some ((0 : Int32), p1.2)
    ) else (
    if x1 = (60 : Int32) then (
      if x3 = (0 : Int32) then (
        m12_compare_152 F (0 : Int32) p1.2
        ) else (
        m12_compare_152 F (1 : Int32) p1.2
        )
      ) else (
      if x1 = (61 : Int32) then (
        m12_compare_152 F (2 : Int32) p1.2
        ) else (
        if x3 = (0 : Int32) then (
          m12_compare_152 F (4 : Int32) p1.2
          ) else (
          m12_compare_152 F (3 : Int32) p1.2
          )
        )
      )
    )
def m12_compare_90 (F : Nat) (x1 : Int32) (x2 : Int32) (s0 : Int32) (σ : Mem) : Option (Int32 × Mem) :=
  if s0 = (0 : Int32) then (
    m12_compare_105 F x1 x2 s0 σ
    ) else (
    let σ1 : Mem := sI σ 483 8 (((gI σ 483 8) + (1 : Int32)))
    m12_compare_105 F x1 x2 s0 σ1
    )
def m12_compare_89 (F : Nat) (k90 : Int32 → Int32 → Int32 → Mem → Option (Int32 × Mem)) (x1 : Int32) (x2 : Int32) (σ : Mem) : Option (Int32 × Mem) :=
  k90 x1 x2 (0 : Int32) σ
def m12_compare_44 (F : Nat) (x1 : Int32) (x2 : Int32) (σ : Mem) : Option (Int32 × Mem) :=
  let σ1 : Mem := sI σ 483 8 (((gI σ 483 8) + (1 : Int32)))
  if x1 = (61 : Int32) then (
    m12_compare_89 F (fun x1 x2 s0 σ => m12_compare_90 F x1 x2 s0 σ) x1 x2 σ1
    ) else (
    if (gI σ1 483 1) ≤ (gI σ1 483 8) then (
      m12_compare_89 F (fun x1 x2 s0 σ => m12_compare_90 F x1 x2 s0 σ) x1 x2 σ1
      ) else (
      gd (inB (gI σ1 483 8) 400 = true) <|
      if (gI σ1 484 ((gI σ1 483 8)).toNatClampNeg) = (61 : Int32) then (
        m12_compare_90 F x1 x2 (1 : Int32) σ1
        ) else (
        m12_compare_89 F (fun x1 x2 s0 σ => m12_compare_90 F x1 x2 s0 σ) x1 x2 σ1
        )
      )
    )
def m12_compare (F : Nat)  (σ : Mem) : Option (Int32 × Mem) :=
  Option.bind (m12_sum F σ) fun p1 =>
  if p1.1 = (0 : Int32) then (
    some ((0 : Int32), p1.2)
    ) else (
    Option.bind (m12_see F p1.2) fun p2 =>
    if p2.1 = (60 : Int32) then (
      m12_compare_44 F p2.1 (gI p2.2 483 8) p2.2
      ) else (
      if p2.1 = (61 : Int32) then (
        m12_compare_44 F p2.1 (gI p2.2 483 8) p2.2
        ) else (
        if p2.1 = (62 : Int32) then (
          m12_compare_44 F p2.1 (gI p2.2 483 8) p2.2
          ) else (
          Option.bind (m12_fails F (0 : Int32) (gI p2.2 483 8) p2.2) fun p3 =>
          gd (p3.1 = (0 : Int32) ∨ p3.1 = (1 : Int32)) <|
          some (p3.1, p3.2)
          )
        )
      )
    )
def m12_fact_2 (F : Nat) : Nat → Int32 → Mem → Option (Int32 × Mem)
  | 0, _, _ => none
  | n + 1, x1, σ =>
    if x1 = (0 : Int32) then (
      Option.bind (m12_compare F σ) fun p1 =>
      gd (p1.1 = (0 : Int32) ∨ p1.1 = (1 : Int32)) <|
      some (p1.1, p1.2)
      ) else (
      Option.bind (m12_see F σ) fun p2 =>
      Option.bind (m12_isWord F (7237492 : Int64) p2.2) fun p3 =>
      if p3.1 = (0 : Int32) then (
        if p2.1 = (91 : Int32) then (
          Option.bind (m12_opens F (91 : Int32) p3.2) fun p4 =>
          if p4.1 = (0 : Int32) then (
            some ((0 : Int32), p4.2)
            ) else (
            let σ5 : Mem := sI p4.2 483 8 (((gI p4.2 483 8) + (1 : Int32)))
            m12_fact_2 F n (1 : Int32) σ5
            )
          ) else (
          m12_fact_2 F n (0 : Int32) p3.2
          )
        ) else (
        Option.bind (m12_opens F (11 : Int32) p3.2) fun p6 =>
        if p6.1 = (0 : Int32) then (
          some ((0 : Int32), p6.2)
          ) else (
          Option.bind (m12_passWord F p6.2) fun p7 =>
          m12_fact_2 F n (1 : Int32) p7
          )
        )
      )
def m12_fact (F : Nat)  (σ : Mem) : Option (Int32 × Mem) :=
  m12_fact_2 F F (1 : Int32) σ
def m12_isInside_2 (F : Nat) (σ : Mem) : Nat → Int32 → Option (Int32)
  | 0, _ => none
  | n + 1, x1 =>
    if (gI σ 483 16) ≤ x1 then (
      some (0 : Int32)
      ) else (
      gd (inB x1 400 = true) <|
      if (gI σ 490 (x1).toNatClampNeg) = (91 : Int32) then (
        some (1 : Int32)
        ) else (
        m12_isInside_2 F σ n ((x1 + (1 : Int32)))
        )
      )
def m12_isInside (F : Nat)  (σ : Mem) : Option (Int32) :=
  m12_isInside_2 F σ F (0 : Int32)
def m12_closes_5 (F : Nat) : Nat → Mem → Option (Mem)
  | 0, _ => none
  | n + 1, σ =>
    Option.bind (m12_see F σ) fun p1 =>
    if p1.1 = (93 : Int32) then (
      Option.bind (m12_isInside F p1.2) fun p2 =>
      if p2 = (0 : Int32) then (
        some p1.2
        ) else (
        Option.bind (m12_settles F (1 : Int32) p1.2) fun p3 =>
        let σ4 : Mem := sI p3 483 16 (((gI p3 483 16) - (1 : Int32)))
        let σ5 : Mem := sI σ4 483 13 (((gI σ4 483 13) - (1 : Int32)))
        let σ6 : Mem := sI σ5 483 8 (((gI σ5 483 8) + (1 : Int32)))
        Option.bind (m12_settles F (3 : Int32) σ6) fun p7 =>
        m12_closes_5 F n p7
        )
      ) else (
      some p1.2
      )
def m12_closes (F : Nat)  (σ : Mem) : Option (Mem) :=
  Option.bind (m12_settles F (3 : Int32) σ) fun p1 =>
  m12_closes_5 F F p1
def m12_tested_76 (F : Nat) (k12 : Int32 → Mem → Option (Int32 × Mem)) (x1 : Int32) (s0 : Int32) (σ : Mem) : Option (Int32 × Mem) :=
  Option.bind (m12_passWord F σ) fun p1 =>
  Option.bind (m12_strength F s0 p1) fun p2 =>
  Option.bind (m12_settles F p2 p1) fun p3 =>
  gd (inB (gI p3 483 16) 400 = true) <|
  let σ4 : Mem := sI p3 490 ((gI p3 483 16)).toNatClampNeg s0
  let σ5 : Mem := sI σ4 483 16 (((gI σ4 483 16) + (1 : Int32)))
  k12 x1 σ5
def m12_tested_54 (F : Nat) (k12 : Int32 → Mem → Option (Int32 × Mem)) (s0 : Int32) (σ : Mem) : Option (Int32 × Mem) :=
  if s0 = (0 : Int32) then (
    k12 s0 σ
    ) else (
    Option.bind (m12_isWord F (6385252 : Int64) σ) fun p1 =>
    if p1.1 = (0 : Int32) then (
      m12_tested_76 F (fun x1 σ => k12 x1 σ) s0 (13 : Int32) p1.2
      ) else (
      m12_tested_76 F (fun x1 σ => k12 x1 σ) s0 (12 : Int32) p1.2
      )
    )
def m12_tested_49 (F : Nat) (k54 : Int32 → Mem → Option (Int32 × Mem)) (σ : Mem) : Option (Int32 × Mem) :=
  k54 (1 : Int32) σ
def m12_tested_12 (F : Nat) : Nat → Int32 → Mem → Option (Int32 × Mem)
  | 0, _, _ => none
  | n + 1, x1, σ =>
    if x1 = (0 : Int32) then (
      Option.bind (m12_isInside F σ) fun p1 =>
      if p1 = (0 : Int32) then (
        Option.bind (m12_settles F (1 : Int32) σ) fun p2 =>
        some ((1 : Int32), p2)
        ) else (
        Option.bind (m12_see F σ) fun p3 =>
        Option.bind (m12_fails F (0 : Int32) (gI p3.2 483 8) p3.2) fun p4 =>
        gd (p4.1 = (0 : Int32) ∨ p4.1 = (1 : Int32)) <|
        some (p4.1, p4.2)
        )
      ) else (
      Option.bind (m12_fact F σ) fun p5 =>
      if p5.1 = (0 : Int32) then (
        some ((0 : Int32), p5.2)
        ) else (
        Option.bind (m12_closes F p5.2) fun p6 =>
        Option.bind (m12_isWord F (6385252 : Int64) p6) fun p7 =>
        if p7.1 = (0 : Int32) then (
          Option.bind (m12_isWord F (28530 : Int64) p7.2) fun p8 =>
          if p8.1 = (0 : Int32) then (
            m12_tested_54 F (fun x1 σ => m12_tested_12 F n x1 σ) (0 : Int32) p8.2
            ) else (
            m12_tested_49 F (fun s0 σ => m12_tested_54 F (fun x1 σ => m12_tested_12 F n x1 σ) s0 σ) p8.2
            )
          ) else (
          m12_tested_49 F (fun s0 σ => m12_tested_54 F (fun x1 σ => m12_tested_12 F n x1 σ) s0 σ) p7.2
          )
        )
      )
def m12_tested (F : Nat)  (σ : Mem) : Option (Int32 × Mem) :=
  let σ1 : Mem := sI σ 483 16 (0 : Int32)
  let σ2 : Mem := sI σ1 483 13 (0 : Int32)
  m12_tested_12 F F (1 : Int32) σ2
def m12_isStrikeHere_110 (F : Nat) (x1 : Int32) (σ : Mem) : Option (Int32 × Mem) :=
  gd (inB (gI σ 483 11) 7 = true) <|
  gd (inB (x1 + (3 : Int32)) 288 = true) <|
  let σ1 : Mem := sI σ 487 ((x1 + (3 : Int32))).toNatClampNeg ((gI σ 486 ((gI σ 483 11)).toNatClampNeg))
  gd (inB (gI σ1 483 11) 6 = true) <|
  gd (inB (gI σ1 483 11) 6 = true) <|
  let σ2 : Mem := sI σ1 488 ((gI σ1 483 11)).toNatClampNeg (((gI σ1 488 ((gI σ1 483 11)).toNatClampNeg) + (1 : Int32)))
  some ((1 : Int32), σ2)
def m12_isStrikeHere (F : Nat)  (σ : Mem) : Option (Int32 × Mem) :=
  Option.bind (m12_passWord F σ) fun p1 =>
  gd (inB (gI p1 483 11) 6 = true) <|
  gd (inB (gI p1 483 11) 7 = true) <|
  gd (inB (((48 : Int32) * (gI p1 483 11)) + ((4 : Int32) * (gI p1 488 ((gI p1 483 11)).toNatClampNeg))) 288 = true) <|
  let σ2 : Mem := sI p1 487 ((((48 : Int32) * (gI p1 483 11)) + ((4 : Int32) * (gI p1 488 ((gI p1 483 11)).toNatClampNeg)))).toNatClampNeg ((gI p1 486 ((gI p1 483 11)).toNatClampNeg))
  Option.bind (m12_sum F σ2) fun p3 =>
  if p3.1 = (0 : Int32) then (
    some ((0 : Int32), p3.2)
    ) else (
    gd (inB (gI p3.2 483 11) 7 = true) <|
    gd (inB ((((48 : Int32) * (gI p1 483 11)) + ((4 : Int32) * (gI p1 488 ((gI p1 483 11)).toNatClampNeg))) + (1 : Int32)) 288 = true) <|
    let σ4 : Mem := sI p3.2 487 (((((48 : Int32) * (gI p1 483 11)) + ((4 : Int32) * (gI p1 488 ((gI p1 483 11)).toNatClampNeg))) + (1 : Int32))).toNatClampNeg ((gI p3.2 486 ((gI p3.2 483 11)).toNatClampNeg))
    gd (inB ((((48 : Int32) * (gI p1 483 11)) + ((4 : Int32) * (gI p1 488 ((gI p1 483 11)).toNatClampNeg))) + (2 : Int32)) 288 = true) <|
    let σ5 : Mem := sI σ4 487 (((((48 : Int32) * (gI p1 483 11)) + ((4 : Int32) * (gI p1 488 ((gI p1 483 11)).toNatClampNeg))) + (2 : Int32))).toNatClampNeg (-1 : Int32)
    Option.bind (m12_takesWord F (26982 : Int64) σ5) fun p6 =>
    if p6.1 = (0 : Int32) then (
      m12_isStrikeHere_110 F ((((48 : Int32) * (gI p1 483 11)) + ((4 : Int32) * (gI p1 488 ((gI p1 483 11)).toNatClampNeg)))) p6.2
      ) else (
      gd (inB (gI p6.2 483 11) 7 = true) <|
      gd (inB ((((48 : Int32) * (gI p1 483 11)) + ((4 : Int32) * (gI p1 488 ((gI p1 483 11)).toNatClampNeg))) + (2 : Int32)) 288 = true) <|
      let σ7 : Mem := sI p6.2 487 (((((48 : Int32) * (gI p1 483 11)) + ((4 : Int32) * (gI p1 488 ((gI p1 483 11)).toNatClampNeg))) + (2 : Int32))).toNatClampNeg ((gI p6.2 486 ((gI p6.2 483 11)).toNatClampNeg))
      Option.bind (m12_tested F σ7) fun p8 =>
      if p8.1 = (0 : Int32) then (
        some ((0 : Int32), p8.2)
        ) else (
        m12_isStrikeHere_110 F ((((48 : Int32) * (gI p1 483 11)) + ((4 : Int32) * (gI p1 488 ((gI p1 483 11)).toNatClampNeg)))) p8.2
        )
      )
    )
def m12_cellHere (F : Nat) (i1 : Int32) (i2 : Int32) (i3 : Int32) (σ : Mem) : Option (Int32 × Mem) :=
  Option.bind (m12_numberHere F i2 i3 σ) fun p1 =>
  if p1.1 = (0 : Int32) then (
    some ((0 : Int32), p1.2)
    ) else (
    gd (inB i1 101 = true) <|
    let σ2 : Mem := sI p1.2 489 (i1).toNatClampNeg (gI p1.2 483 10)
    some ((1 : Int32), σ2)
    )
def m12_isSmithyHere (F : Nat) (i1 : Int32) (σ : Mem) : Option (Int32 × Mem) :=
  gd (inB (0 : Int32) 101 = true) <|
  if (gI σ 489 ((0 : Int32)).toNatClampNeg) ≤ (0 : Int32) then (
    Option.bind (m12_passWord F σ) fun p1 =>
    Option.bind (m12_numberHere F (1 : Int32) (9 : Int32) p1) fun p2 =>
    if p2.1 = (0 : Int32) then (
      some ((0 : Int32), p2.2)
      ) else (
      Option.bind (m12_cellHere F (1 : Int32) (20 : Int32) (99 : Int32) p2.2) fun p3 =>
      if p3.1 = (0 : Int32) then (
        some ((0 : Int32), p3.2)
        ) else (
        Option.bind (m12_cellHere F (2 : Int32) (1 : Int32) (999 : Int32) p3.2) fun p4 =>
        if p4.1 = (0 : Int32) then (
          some ((0 : Int32), p4.2)
          ) else (
          gd (inB (0 : Int32) 101 = true) <|
          let σ5 : Mem := sI p4.2 489 ((0 : Int32)).toNatClampNeg (gI p2.2 483 10)
          some ((1 : Int32), σ5)
          )
        )
      )
    ) else (
    Option.bind (m12_fails F (4 : Int32) i1 σ) fun p6 =>
    gd (p6.1 = (0 : Int32) ∨ p6.1 = (1 : Int32)) <|
    some (p6.1, p6.2)
    )
def m12_isSmithHere_51 (F : Nat) (i1 : Int32) : Nat → Int32 → Int32 → Mem → Option (Int32 × Mem)
  | 0, _, _, _ => none
  | n + 1, x2, x3, σ =>
    if (7 : Int32) ≤ x3 then (
      gd (inB (3 : Int32) 101 = true) <|
      gd (inB (3 : Int32) 101 = true) <|
      let σ1 : Mem := sI σ 489 ((3 : Int32)).toNatClampNeg (((gI σ 489 ((3 : Int32)).toNatClampNeg) + (1 : Int32)))
      some ((1 : Int32), σ1)
      ) else (
      if x3 = (5 : Int32) then (
        m12_isSmithHere_51 F i1 n x2 ((x3 + (1 : Int32))) σ
        ) else (
        gd (inB (x2 + x3) 101 = true) <|
        let σ2 : Mem := sI σ 489 ((x2 + x3)).toNatClampNeg (0 : Int32)
        m12_isSmithHere_51 F i1 n x2 ((x3 + (1 : Int32))) σ2
        )
      )
def m12_isSmithHere (F : Nat) (i1 : Int32) (σ : Mem) : Option (Int32 × Mem) :=
  gd (inB (3 : Int32) 101 = true) <|
  if (gI σ 489 ((3 : Int32)).toNatClampNeg) = (3 : Int32) then (
    Option.bind (m12_fails F (4 : Int32) i1 σ) fun p1 =>
    gd (p1.1 = (0 : Int32) ∨ p1.1 = (1 : Int32)) <|
    some (p1.1, p1.2)
    ) else (
    Option.bind (m12_passWord F σ) fun p2 =>
    gd (inB (3 : Int32) 101 = true) <|
    Option.bind (m12_cellHere F ((((10 : Int32) + ((7 : Int32) * (gI p2 489 ((3 : Int32)).toNatClampNeg))) + (5 : Int32))) (1 : Int32) (20 : Int32) p2) fun p3 =>
    if p3.1 = (0 : Int32) then (
      some ((0 : Int32), p3.2)
      ) else (
      m12_isSmithHere_51 F i1 F (((10 : Int32) + ((7 : Int32) * (gI p2 489 ((3 : Int32)).toNatClampNeg)))) (0 : Int32) p3.2
      )
    )
def m12_partHere (F : Nat)  (σ : Mem) : Option (Int32 × Mem) :=
  Option.bind (m12_takesWord F (1717658469 : Int64) σ) fun p1 =>
  if p1.1 = (0 : Int32) then (
    Option.bind (m12_takesWord F (1650811243 : Int64) p1.2) fun p2 =>
    if p2.1 = (0 : Int32) then (
      Option.bind (m12_takesWord F (1751475564 : Int64) p2.2) fun p3 =>
      if p3.1 = (0 : Int32) then (
        Option.bind (m12_takesWord F (2003135588 : Int64) p3.2) fun p4 =>
        if p4.1 = (0 : Int32) then (
          some ((-1 : Int32), p4.2)
          ) else (
          some ((3 : Int32), p4.2)
          )
        ) else (
        some ((2 : Int32), p3.2)
        )
      ) else (
      some ((1 : Int32), p2.2)
      )
    ) else (
    some ((0 : Int32), p1.2)
    )
def m12_isJobHere (F : Nat) (i1 : Int32) (σ : Mem) : Option (Int32 × Mem) :=
  gd (inB (4 : Int32) 101 = true) <|
  if (gI σ 489 ((4 : Int32)).toNatClampNeg) = (8 : Int32) then (
    Option.bind (m12_fails F (4 : Int32) i1 σ) fun p1 =>
    gd (p1.1 = (0 : Int32) ∨ p1.1 = (1 : Int32)) <|
    some (p1.1, p1.2)
    ) else (
    Option.bind (m12_passWord F σ) fun p2 =>
    gd (inB (4 : Int32) 101 = true) <|
    gd (inB (3 : Int32) 101 = true) <|
    Option.bind (m12_cellHere F (((31 : Int32) + ((8 : Int32) * (gI p2 489 ((4 : Int32)).toNatClampNeg)))) (0 : Int32) (((gI p2 489 ((3 : Int32)).toNatClampNeg) - (1 : Int32))) p2) fun p3 =>
    if p3.1 = (0 : Int32) then (
      some ((0 : Int32), p3.2)
      ) else (
      Option.bind (m12_see F p3.2) fun p4 =>
      Option.bind (m12_partHere F p4.2) fun p5 =>
      gd (inB (((31 : Int32) + ((8 : Int32) * (gI p2 489 ((4 : Int32)).toNatClampNeg))) + (1 : Int32)) 101 = true) <|
      let σ6 : Mem := sI p5.2 489 ((((31 : Int32) + ((8 : Int32) * (gI p2 489 ((4 : Int32)).toNatClampNeg))) + (1 : Int32))).toNatClampNeg p5.1
      gd (inB (((31 : Int32) + ((8 : Int32) * (gI p2 489 ((4 : Int32)).toNatClampNeg))) + (1 : Int32)) 101 = true) <|
      if (0 : Int32) ≤ (gI σ6 489 ((((31 : Int32) + ((8 : Int32) * (gI p2 489 ((4 : Int32)).toNatClampNeg))) + (1 : Int32))).toNatClampNeg) then (
        Option.bind (m12_cellHere F ((((31 : Int32) + ((8 : Int32) * (gI p2 489 ((4 : Int32)).toNatClampNeg))) + (2 : Int32))) (1 : Int32) (30 : Int32) σ6) fun p7 =>
        if p7.1 = (0 : Int32) then (
          some ((0 : Int32), p7.2)
          ) else (
          Option.bind (m12_cellHere F ((((31 : Int32) + ((8 : Int32) * (gI p2 489 ((4 : Int32)).toNatClampNeg))) + (3 : Int32))) (1 : Int32) (50 : Int32) p7.2) fun p8 =>
          if p8.1 = (0 : Int32) then (
            some ((0 : Int32), p8.2)
            ) else (
            Option.bind (m12_cellHere F ((((31 : Int32) + ((8 : Int32) * (gI p2 489 ((4 : Int32)).toNatClampNeg))) + (4 : Int32))) (0 : Int32) (50 : Int32) p8.2) fun p9 =>
            if p9.1 = (0 : Int32) then (
              some ((0 : Int32), p9.2)
              ) else (
              gd (inB (((31 : Int32) + ((8 : Int32) * (gI p2 489 ((4 : Int32)).toNatClampNeg))) + (5 : Int32)) 101 = true) <|
              let σ10 : Mem := sI p9.2 489 ((((31 : Int32) + ((8 : Int32) * (gI p2 489 ((4 : Int32)).toNatClampNeg))) + (5 : Int32))).toNatClampNeg (-1 : Int32)
              gd (inB (4 : Int32) 101 = true) <|
              gd (inB (((31 : Int32) + ((8 : Int32) * (gI p2 489 ((4 : Int32)).toNatClampNeg))) + (6 : Int32)) 101 = true) <|
              let σ11 : Mem := sI σ10 489 ((((31 : Int32) + ((8 : Int32) * (gI p2 489 ((4 : Int32)).toNatClampNeg))) + (6 : Int32))).toNatClampNeg ((gI σ10 489 ((4 : Int32)).toNatClampNeg))
              gd (inB (((31 : Int32) + ((8 : Int32) * (gI p2 489 ((4 : Int32)).toNatClampNeg))) + (2 : Int32)) 101 = true) <|
              gd (inB (((31 : Int32) + ((8 : Int32) * (gI p2 489 ((4 : Int32)).toNatClampNeg))) + (7 : Int32)) 101 = true) <|
              let σ12 : Mem := sI σ11 489 ((((31 : Int32) + ((8 : Int32) * (gI p2 489 ((4 : Int32)).toNatClampNeg))) + (7 : Int32))).toNatClampNeg ((gI σ11 489 ((((31 : Int32) + ((8 : Int32) * (gI p2 489 ((4 : Int32)).toNatClampNeg))) + (2 : Int32))).toNatClampNeg))
              gd (inB (4 : Int32) 101 = true) <|
              gd (inB (4 : Int32) 101 = true) <|
              let σ13 : Mem := sI σ12 489 ((4 : Int32)).toNatClampNeg (((gI σ12 489 ((4 : Int32)).toNatClampNeg) + (1 : Int32)))
              some ((1 : Int32), σ13)
              )
            )
          )
        ) else (
        Option.bind (m12_fails F (0 : Int32) (gI p4.2 483 8) σ6) fun p14 =>
        gd (p14.1 = (0 : Int32) ∨ p14.1 = (1 : Int32)) <|
        some (p14.1, p14.2)
        )
      )
    )
def m12_isPartHere (F : Nat)  (σ : Mem) : Option (Int32 × Mem) :=
  Option.bind (m12_passWord F σ) fun p1 =>
  Option.bind (m12_numberHere F (0 : Int32) (2 : Int32) p1) fun p2 =>
  if p2.1 = (0 : Int32) then (
    some ((0 : Int32), p2.2)
    ) else (
    Option.bind (m12_cellHere F (((95 : Int32) + (gI p2.2 483 10))) (0 : Int32) (999 : Int32) p2.2) fun p3 =>
    gd (p3.1 = (0 : Int32) ∨ p3.1 = (1 : Int32)) <|
    some (p3.1, p3.2)
    )
def m12_smithyLineHere (F : Nat) (i1 : Int32) (σ : Mem) : Option (Int32 × Mem) :=
  Option.bind (m12_isWord F (126913757866105 : Int64) σ) fun p1 =>
  if p1.1 = (0 : Int32) then (
    gd (inB (0 : Int32) 101 = true) <|
    if (gI p1.2 489 ((0 : Int32)).toNatClampNeg) = (0 : Int32) then (
      Option.bind (m12_fails F (4 : Int32) i1 p1.2) fun p2 =>
      gd (p2.1 = (0 : Int32) ∨ p2.1 = (1 : Int32)) <|
      some (p2.1, p2.2)
      ) else (
      Option.bind (m12_isWord F (495756866664 : Int64) p1.2) fun p3 =>
      if p3.1 = (0 : Int32) then (
        Option.bind (m12_isWord F (6975330 : Int64) p3.2) fun p4 =>
        if p4.1 = (0 : Int32) then (
          Option.bind (m12_isPartHere F p4.2) fun p5 =>
          gd (p5.1 = (0 : Int32) ∨ p5.1 = (1 : Int32)) <|
          some (p5.1, p5.2)
          ) else (
          Option.bind (m12_isJobHere F i1 p4.2) fun p6 =>
          gd (p6.1 = (0 : Int32) ∨ p6.1 = (1 : Int32)) <|
          some (p6.1, p6.2)
          )
        ) else (
        Option.bind (m12_isSmithHere F i1 p3.2) fun p7 =>
        gd (p7.1 = (0 : Int32) ∨ p7.1 = (1 : Int32)) <|
        some (p7.1, p7.2)
        )
      )
    ) else (
    Option.bind (m12_isSmithyHere F i1 p1.2) fun p8 =>
    gd (p8.1 = (0 : Int32) ∨ p8.1 = (1 : Int32)) <|
    some (p8.1, p8.2)
    )
def m12_isSmithyWord (F : Nat)  (σ : Mem) : Option (Int32 × Mem) :=
  Option.bind (m12_isWord F (126913757866105 : Int64) σ) fun p1 =>
  if p1.1 = (0 : Int32) then (
    Option.bind (m12_isWord F (495756866664 : Int64) p1.2) fun p2 =>
    if p2.1 = (0 : Int32) then (
      Option.bind (m12_isWord F (6975330 : Int64) p2.2) fun p3 =>
      if p3.1 = (0 : Int32) then (
        Option.bind (m12_isWord F (1885434484 : Int64) p3.2) fun p4 =>
        if p4.1 = (0 : Int32) then (
          some ((0 : Int32), p4.2)
          ) else (
          some ((1 : Int32), p4.2)
          )
        ) else (
        some ((1 : Int32), p3.2)
        )
      ) else (
      some ((1 : Int32), p2.2)
      )
    ) else (
    some ((1 : Int32), p1.2)
    )
def m12_clauseHere_71 (F : Nat) (x1 : Int32) (x2 : Int32) (s0 : Int32) (s1 : Int32) (σ : Mem) : Option (Int32 × Mem) :=
  if s0 = s1 then (
    Option.bind (m12_fails F (4 : Int32) x1 σ) fun p1 =>
    gd (p1.1 = (0 : Int32) ∨ p1.1 = (1 : Int32)) <|
    some (p1.1, p1.2)
    ) else (
    let σ2 : Mem := sI σ 483 14 (((gI σ 483 14) + (1 : Int32)))
    if x2 = (0 : Int32) then (
      Option.bind (m12_isStrikeHere F σ2) fun p3 =>
      gd (p3.1 = (0 : Int32) ∨ p3.1 = (1 : Int32)) <|
      some (p3.1, p3.2)
      ) else (
      Option.bind (m12_smithyLineHere F x1 σ2) fun p4 =>
      gd (p4.1 = (0 : Int32) ∨ p4.1 = (1 : Int32)) <|
      some (p4.1, p4.2)
      )
    )
def m12_clauseHere_56 (F : Nat) (x1 : Int32) (x2 : Int32) (σ : Mem) : Option (Int32 × Mem) :=
  if x2 = (0 : Int32) then (
    m12_clauseHere_71 F x1 x2 (gI σ 483 14) (12 : Int32) σ
    ) else (
    m12_clauseHere_71 F x1 x2 (gI σ 483 14) (40 : Int32) σ
    )
def m12_clauseHere_49 (F : Nat) (x1 : Int32) (σ : Mem) : Option (Int32 × Mem) :=
  Option.bind (m12_fails F (0 : Int32) x1 σ) fun p1 =>
  gd (p1.1 = (0 : Int32) ∨ p1.1 = (1 : Int32)) <|
  some (p1.1, p1.2)
def m12_clauseHere_24 (F : Nat) (x1 : Int32) (s0 : Int32) (σ : Mem) : Option (Int32 × Mem) :=
  if s0 = (0 : Int32) then (
    Option.bind (m12_isWord F (126943972911973 : Int64) σ) fun p1 =>
    if p1.1 = (0 : Int32) then (
      m12_clauseHere_49 F x1 p1.2
      ) else (
      m12_clauseHere_56 F x1 s0 p1.2
      )
    ) else (
    Option.bind (m12_isSmithyWord F σ) fun p2 =>
    if p2.1 = (0 : Int32) then (
      m12_clauseHere_49 F x1 p2.2
      ) else (
      m12_clauseHere_56 F x1 s0 p2.2
      )
    )
def m12_clauseHere (F : Nat)  (σ : Mem) : Option (Int32 × Mem) :=
  Option.bind (m12_see F σ) fun p1 =>
  if (gI p1.2 483 11) = (6 : Int32) then (
    m12_clauseHere_24 F (gI p1.2 483 8) (1 : Int32) p1.2
    ) else (
    m12_clauseHere_24 F (gI p1.2 483 8) (0 : Int32) p1.2
    )
def m12_readsAll_88 (F : Nat) (σ : Mem) : Option (Int32 × Mem) :=
  let σ1 : Mem := sI σ 483 1 (0 : Int32)
  if (gI σ1 483 9) = (0 : Int32) then (
    some ((1 : Int32), σ1)
    ) else (
    some ((0 : Int32), σ1)
    )
def m12_readsAll_66 (F : Nat) (x1 : Int32) (σ : Mem) : Option (Int32 × Mem) :=
  if x1 = (0 : Int32) then (
    m12_readsAll_88 F σ
    ) else (
    Option.bind (m12_see F σ) fun p1 =>
    if p1.1 = (-1 : Int32) then (
      m12_readsAll_88 F p1.2
      ) else (
      Option.bind (m12_fails F (0 : Int32) (gI p1.2 483 8) p1.2) fun p2 =>
      m12_readsAll_88 F p2.2
      )
    )
def m12_readsAll_35 (F : Nat) : Nat → Int32 → Mem → Option (Int32 × Mem)
  | 0, _, _ => none
  | n + 1, x1, σ =>
    if x1 = (0 : Int32) then (
      m12_readsAll_66 F x1 σ
      ) else (
      Option.bind (m12_see F σ) fun p1 =>
      if p1.1 = (59 : Int32) then (
        let σ2 : Mem := sI p1.2 483 8 (((gI p1.2 483 8) + (1 : Int32)))
        Option.bind (m12_clauseHere F σ2) fun p3 =>
        m12_readsAll_35 F n p3.1 p3.2
        ) else (
        m12_readsAll_66 F x1 p1.2
        )
      )
def m12_readsAll (F : Nat)  (σ : Mem) : Option (Int32 × Mem) :=
  gd (inB (gI σ 483 11) 7 = true) <|
  let σ1 : Mem := sI σ 486 ((gI σ 483 11)).toNatClampNeg (0 : Int32)
  let σ2 : Mem := sI σ1 483 14 (0 : Int32)
  let σ3 : Mem := sI σ2 483 8 (0 : Int32)
  let σ4 : Mem := sI σ3 483 9 (0 : Int32)
  let σ5 : Mem := sI σ4 483 12 (0 : Int32)
  Option.bind (m12_clauseHere F σ5) fun p6 =>
  m12_readsAll_35 F F p6.1 p6.2
def m12_rule (F : Nat)  (σ : Mem) : Option (Int32 × Mem) :=
  if (gI σ 483 2) = (6 : Int32) then (
    some ((-1 : Int32), σ)
    ) else (
    let σ1 : Mem := sI σ 483 11 (gI σ 483 2)
    gd (inB (gI σ1 483 11) 6 = true) <|
    let σ2 : Mem := sI σ1 488 ((gI σ1 483 11)).toNatClampNeg (0 : Int32)
    Option.bind (m12_readsAll F σ2) fun p3 =>
    if p3.1 = (0 : Int32) then (
      some (((-2 : Int32) - (gI p3.2 483 9)), p3.2)
      ) else (
      let σ4 : Mem := sI p3.2 483 2 (((gI p3.2 483 2) + (1 : Int32)))
      some (((gI σ4 483 2) - (1 : Int32)), σ4)
      )
    )
def m12_smithy_104 (F : Nat) : Nat → Int32 → Mem → Option (Int32 × Mem)
  | 0, _, _ => none
  | n + 1, x1, σ =>
    if (3 : Int32) ≤ x1 then (
      let σ1 : Mem := sI σ 483 34 (0 : Int32)
      gd (inB (4 : Int32) 132 = true) <|
      some ((gI σ1 493 ((4 : Int32)).toNatClampNeg), σ1)
      ) else (
      gd (inB ((95 : Int32) + x1) 132 = true) <|
      gd (inB ((98 : Int32) + x1) 132 = true) <|
      let σ2 : Mem := sI σ 493 (((98 : Int32) + x1)).toNatClampNeg ((gI σ 493 (((95 : Int32) + x1)).toNatClampNeg))
      m12_smithy_104 F n ((x1 + (1 : Int32))) σ2
      )
def m12_smithy_67 (F : Nat) : Nat → Int32 → Mem → Option (Int32 × Mem)
  | 0, _, _ => none
  | n + 1, x1, σ =>
    if (132 : Int32) ≤ x1 then (
      m12_smithy_104 F F (0 : Int32) σ
      ) else (
      if (98 : Int32) ≤ x1 then (
        gd (inB x1 132 = true) <|
        let σ1 : Mem := sI σ 493 (x1).toNatClampNeg (0 : Int32)
        m12_smithy_67 F n ((x1 + (1 : Int32))) σ1
        ) else (
        gd (inB x1 101 = true) <|
        gd (inB x1 132 = true) <|
        let σ2 : Mem := sI σ 493 (x1).toNatClampNeg ((gI σ 489 (x1).toNatClampNeg))
        m12_smithy_67 F n ((x1 + (1 : Int32))) σ2
        )
      )
def m12_smithy_29 (F : Nat) : Nat → Int32 → Mem → Option (Int32 × Mem)
  | 0, _, _ => none
  | n + 1, x1, σ =>
    if (3 : Int32) ≤ x1 then (
      Option.bind (m12_readsAll F σ) fun p1 =>
      if p1.1 = (0 : Int32) then (
        some (((-2 : Int32) - (gI p1.2 483 9)), p1.2)
        ) else (
        m12_smithy_67 F F (0 : Int32) p1.2
        )
      ) else (
      gd (inB ((95 : Int32) + x1) 101 = true) <|
      let σ2 : Mem := sI σ 489 (((95 : Int32) + x1)).toNatClampNeg (0 : Int32)
      m12_smithy_29 F n ((x1 + (1 : Int32))) σ2
      )
def m12_smithy_8 (F : Nat) : Nat → Int32 → Mem → Option (Int32 × Mem)
  | 0, _, _ => none
  | n + 1, x1, σ =>
    if (10 : Int32) ≤ x1 then (
      m12_smithy_29 F F (0 : Int32) σ
      ) else (
      gd (inB x1 101 = true) <|
      let σ1 : Mem := sI σ 489 (x1).toNatClampNeg (0 : Int32)
      m12_smithy_8 F n ((x1 + (1 : Int32))) σ1
      )
def m12_smithy (F : Nat)  (σ : Mem) : Option (Int32 × Mem) :=
  let σ1 : Mem := sI σ 483 11 (6 : Int32)
  m12_smithy_8 F F (0 : Int32) σ1
def m12_isRule (F : Nat) (i1 : Int32) (σ : Mem) : Option (Int32) :=
  if i1 < (0 : Int32) then (
    some (0 : Int32)
    ) else (
    if (gI σ 483 2) ≤ i1 then (
      some (0 : Int32)
      ) else (
      some (1 : Int32)
      )
    )
def m12_push (F : Nat) (j1 : Int64) (σ : Mem) : Option (Mem) :=
  gd (inB (gI σ 483 18) 64 = true) <|
  let σ1 : Mem := sL σ 491 ((gI σ 483 18)).toNatClampNeg j1
  let σ2 : Mem := sI σ1 483 18 (((gI σ1 483 18) + (1 : Int32)))
  some σ2
def m12_pop (F : Nat)  (σ : Mem) : Option (Int64 × Mem) :=
  let σ1 : Mem := sI σ 483 18 (((gI σ 483 18) - (1 : Int32)))
  gd (inB (gI σ1 483 18) 64 = true) <|
  some ((gL σ1 491 ((gI σ1 483 18)).toNatClampNeg), σ1)
def m12_one (F : Nat) (i0 : Int32) (j1 : Int64) (j2 : Int64) (σ : Mem) : Option (Int64) :=
  if i0 = (2 : Int32) then (
    some (j1 + j2)
    ) else (
  if i0 = (3 : Int32) then (
    some (j1 - j2)
    ) else (
  if i0 = (4 : Int32) then (
    some (j1 * j2)
    ) else (
  if i0 = (5 : Int32) then (
    if (lg_cmp j2 (0 : Int64)) = (0 : Int32) then (
      some (0 : Int64)
      ) else (
      gd (¬ j2 = 0) <|
      some (j1 / j2)
      )
    ) else (
  if i0 = (6 : Int32) then (
    if (0 : Int32) ≤ (lg_cmp j1 j2) then (
      some (0 : Int64)
      ) else (
      some (1 : Int64)
      )
    ) else (
  if i0 = (7 : Int32) then (
    if (0 : Int32) < (lg_cmp j1 j2) then (
      some (0 : Int64)
      ) else (
      some (1 : Int64)
      )
    ) else (
  if i0 = (8 : Int32) then (
    if (lg_cmp j1 j2) = (0 : Int32) then (
      some (1 : Int64)
      ) else (
      some (0 : Int64)
      )
    ) else (
  if i0 = (9 : Int32) then (
    if (lg_cmp j1 j2) < (0 : Int32) then (
      some (0 : Int64)
      ) else (
      some (1 : Int64)
      )
    ) else (
  if i0 = (10 : Int32) then (
    if (lg_cmp j1 j2) ≤ (0 : Int32) then (
      some (0 : Int64)
      ) else (
      some (1 : Int64)
      )
    ) else (
  if i0 = (11 : Int32) then (
    some (j1 ||| j2)
    ) else (
  if i0 = (12 : Int32) then (
    some (j1 &&& j2)
    ) else (
  if i0 = (13 : Int32) then (
    some (j1 ||| j2)
    ) else (
  if i0 = (14 : Int32) then (
    if (lg_cmp j2 (0 : Int64)) = (0 : Int32) then (
      some (0 : Int64)
      ) else (
      gd (¬ j2 = 0) <|
      some (remL j1 j2)
      )
    ) else (
    some (j1 ||| j2)
    )))))))))))))
def m12_reckons_8 (F : Nat) (i1 : Int32) (i2 : Int32) (i3 : Int32) : Nat → Int32 → Mem → Option (Int64 × Mem)
  | 0, _, _ => none
  | n + 1, x4, σ =>
    if i3 ≤ x4 then (
      Option.bind (m12_pop F σ) fun p1 =>
      some (p1.1, p1.2)
      ) else (
      gd (inB (((400 : Int32) * i1) + x4) 2400 = true) <|
      gd (inB (((400 : Int32) * i1) + x4) 2400 = true) <|
      if ((gI σ 485 ((((400 : Int32) * i1) + x4)).toNatClampNeg) &&& (15 : Int32)) = (0 : Int32) then (
        Option.bind (m12_push F ((((gI σ 485 ((((400 : Int32) * i1) + x4)).toNatClampNeg) >>> ((4 : Int32) &&& (31 : Int32)))).toInt64) σ) fun p2 =>
        m12_reckons_8 F i1 i2 i3 n ((x4 + (1 : Int32))) p2
        ) else (
        if ((gI σ 485 ((((400 : Int32) * i1) + x4)).toNatClampNeg) &&& (15 : Int32)) = (1 : Int32) then (
          gd (inB ((gI σ 485 ((((400 : Int32) * i1) + x4)).toNatClampNeg) >>> ((4 : Int32) &&& (31 : Int32))) 13 = true) <|
          Option.bind (m12_push F ((gL σ 492 (((gI σ 485 ((((400 : Int32) * i1) + x4)).toNatClampNeg) >>> ((4 : Int32) &&& (31 : Int32)))).toNatClampNeg)) σ) fun p3 =>
          m12_reckons_8 F i1 i2 i3 n ((x4 + (1 : Int32))) p3
          ) else (
          if ((gI σ 485 ((((400 : Int32) * i1) + x4)).toNatClampNeg) &&& (15 : Int32)) = (11 : Int32) then (
            Option.bind (m12_pop F σ) fun p4 =>
            Option.bind (m12_push F (((1 : Int64) - p4.1)) p4.2) fun p5 =>
            m12_reckons_8 F i1 i2 i3 n ((x4 + (1 : Int32))) p5
            ) else (
            Option.bind (m12_pop F σ) fun p6 =>
            Option.bind (m12_pop F p6.2) fun p7 =>
            Option.bind (m12_one F (((gI σ 485 ((((400 : Int32) * i1) + x4)).toNatClampNeg) &&& (15 : Int32))) p7.1 p6.1 p7.2) fun p8 =>
            Option.bind (m12_push F p8 p7.2) fun p9 =>
            m12_reckons_8 F i1 i2 i3 n ((x4 + (1 : Int32))) p9
            )
          )
        )
      )
def m12_reckons (F : Nat) (i1 : Int32) (i2 : Int32) (i3 : Int32) (σ : Mem) : Option (Int64 × Mem) :=
  let σ1 : Mem := sI σ 483 18 (0 : Int32)
  m12_reckons_8 F i1 i2 i3 F i2 σ1
def m12_isSmithy (F : Nat)  (σ : Mem) : Option (Int32) :=
  gd (inB (0 : Int32) 132 = true) <|
  if (gI σ 493 ((0 : Int32)).toNatClampNeg) ≤ (0 : Int32) then (
    some (0 : Int32)
    ) else (
    some (1 : Int32)
    )
def m12_isSmith (F : Nat) (i1 : Int32) (σ : Mem) : Option (Int32) :=
  if i1 < (0 : Int32) then (
    some (0 : Int32)
    ) else (
    gd (inB (3 : Int32) 132 = true) <|
    if (gI σ 493 ((3 : Int32)).toNatClampNeg) ≤ i1 then (
      some (0 : Int32)
      ) else (
      some (1 : Int32)
      )
    )
def m12_isJob (F : Nat) (i1 : Int32) (σ : Mem) : Option (Int32) :=
  if i1 < (0 : Int32) then (
    some (0 : Int32)
    ) else (
    gd (inB (4 : Int32) 132 = true) <|
    if (gI σ 493 ((4 : Int32)).toNatClampNeg) ≤ i1 then (
      some (0 : Int32)
      ) else (
      some (1 : Int32)
      )
    )
def m12_smithOf (F : Nat) (i1 : Int32) (i2 : Int32) (σ : Mem) : Option (Int32) :=
  gd (inB (((10 : Int32) + ((7 : Int32) * i1)) + i2) 132 = true) <|
  some ((gI σ 493 ((((10 : Int32) + ((7 : Int32) * i1)) + i2)).toNatClampNeg))
def m12_jobOf (F : Nat) (i1 : Int32) (i2 : Int32) (σ : Mem) : Option (Int32) :=
  gd (inB (((31 : Int32) + ((8 : Int32) * i1)) + i2) 132 = true) <|
  some ((gI σ 493 ((((31 : Int32) + ((8 : Int32) * i1)) + i2)).toNatClampNeg))
def m12_isOpen (F : Nat) (i1 : Int32) (i2 : Int32) (σ : Mem) : Option (Int32) :=
  Option.bind (m12_jobOf F i1 (0 : Int32) σ) fun p1 =>
  if p1 = i2 then (
    Option.bind (m12_jobOf F i1 (5 : Int32) σ) fun p2 =>
    if (0 : Int32) ≤ p2 then (
      some (0 : Int32)
      ) else (
      some (1 : Int32)
      )
    ) else (
    some (0 : Int32)
    )
def m12_jobNow_4 (F : Nat) (i1 : Int32) (σ : Mem) : Nat → Int32 → Int32 → Option (Int32)
  | 0, _, _ => none
  | n + 1, x2, x3 =>
    gd (inB (4 : Int32) 132 = true) <|
    if (gI σ 493 ((4 : Int32)).toNatClampNeg) ≤ x3 then (
      some x2
      ) else (
      if i1 = (gI σ 483 23) then (
        some x2
        ) else (
        Option.bind (m12_isOpen F x3 i1 σ) fun p1 =>
        if p1 = (0 : Int32) then (
          m12_jobNow_4 F i1 σ n x2 ((x3 + (1 : Int32)))
          ) else (
          if x2 < (0 : Int32) then (
            m12_jobNow_4 F i1 σ n x3 ((x3 + (1 : Int32)))
            ) else (
            Option.bind (m12_jobOf F x3 (6 : Int32) σ) fun p2 =>
            Option.bind (m12_jobOf F x2 (6 : Int32) σ) fun p3 =>
            if p3 ≤ p2 then (
              m12_jobNow_4 F i1 σ n x2 ((x3 + (1 : Int32)))
              ) else (
              m12_jobNow_4 F i1 σ n x3 ((x3 + (1 : Int32)))
              )
            )
          )
        )
      )
def m12_jobNow (F : Nat) (i1 : Int32) (σ : Mem) : Option (Int32) :=
  m12_jobNow_4 F i1 σ F (-1 : Int32) (0 : Int32)
def m12_isHot (F : Nat) (i1 : Int32) (σ : Mem) : Option (Int32) :=
  Option.bind (m12_jobNow F i1 σ) fun p1 =>
  if p1 < (0 : Int32) then (
    some (0 : Int32)
    ) else (
    Option.bind (m12_smithOf F i1 (0 : Int32) σ) fun p2 =>
    Option.bind (m12_jobOf F p1 (3 : Int32) σ) fun p3 =>
    if p2 < p3 then (
      some (0 : Int32)
      ) else (
      some (1 : Int32)
      )
    )
def m12_needs (F : Nat) (i1 : Int32) (σ : Mem) : Option (Int32) :=
  Option.bind (m12_jobOf F i1 (1 : Int32) σ) fun p1 =>
  if p1 = (3 : Int32) then (
    some (3 : Int32)
    ) else (
    Option.bind (m12_jobOf F i1 (1 : Int32) σ) fun p2 =>
    some (((1 : Int32) <<< (p2 &&& (31 : Int32))))
    )
def m12_splitParts_4 (F : Nat) (σ : Mem) : Nat → Int32 → Int32 → Option (Int32)
  | 0, _, _ => none
  | n + 1, x1, x2 =>
    if (3 : Int32) ≤ x2 then (
      some x1
      ) else (
      gd (inB ((95 : Int32) + x2) 132 = true) <|
      gd (inB (2 : Int32) 132 = true) <|
      if (gI σ 493 (((95 : Int32) + x2)).toNatClampNeg) < (gI σ 493 ((2 : Int32)).toNatClampNeg) then (
        m12_splitParts_4 F σ n ((x1 ||| (0 : Int32))) ((x2 + (1 : Int32)))
        ) else (
        m12_splitParts_4 F σ n ((x1 ||| ((1 : Int32) <<< (x2 &&& (31 : Int32))))) ((x2 + (1 : Int32)))
        )
      )
def m12_splitParts (F : Nat)  (σ : Mem) : Option (Int32) :=
  m12_splitParts_4 F σ F (0 : Int32) (0 : Int32)
def m12_force_16 (F : Nat) (i1 : Int32) (σ : Mem) : Option (Int32 × Mem) :=
  let σ1 : Mem := sI σ 483 21 i1
  some ((gI σ 483 21), σ1)
def m12_force (F : Nat) (i1 : Int32) (σ : Mem) : Option (Int32 × Mem) :=
  if i1 = (-1 : Int32) then (
    m12_force_16 F i1 σ
    ) else (
    Option.bind (m12_isRule F i1 σ) fun p1 =>
    if p1 = (0 : Int32) then (
      some ((-2 : Int32), σ)
      ) else (
      m12_force_16 F i1 σ
      )
    )
def m12_smith (F : Nat) (i1 : Int32) (i2 : Int32) (σ : Mem) : Option (Int32) :=
  Option.bind (m12_isSmith F i1 σ) fun p1 =>
  if p1 = (0 : Int32) then (
    some (-2 : Int32)
    ) else (
    if i2 = (0 : Int32) then (
      Option.bind (m12_smithOf F i1 (0 : Int32) σ) fun p2 =>
      some p2
      ) else (
    if i2 = (1 : Int32) then (
      Option.bind (m12_jobNow F i1 σ) fun p3 =>
      some p3
      ) else (
    if i2 = (2 : Int32) then (
      Option.bind (m12_isHot F i1 σ) fun p4 =>
      if p4 = (0 : Int32) then (
        some (0 : Int32)
        ) else (
        some (1 : Int32)
        )
      ) else (
    if i2 = (3 : Int32) then (
      Option.bind (m12_smithOf F i1 ((i2 - (2 : Int32))) σ) fun p5 =>
      some p5
      ) else (
    if i2 = (4 : Int32) then (
      Option.bind (m12_smithOf F i1 ((i2 - (2 : Int32))) σ) fun p6 =>
      some p6
      ) else (
    if i2 = (5 : Int32) then (
      Option.bind (m12_smithOf F i1 ((i2 - (2 : Int32))) σ) fun p7 =>
      some p7
      ) else (
    if i2 = (6 : Int32) then (
      Option.bind (m12_smithOf F i1 ((i2 - (2 : Int32))) σ) fun p8 =>
      some p8
      ) else (
    if i2 = (7 : Int32) then (
      Option.bind (m12_smithOf F i1 ((i2 - (2 : Int32))) σ) fun p9 =>
      some p9
      ) else (
    if i2 = (8 : Int32) then (
      Option.bind (m12_smithOf F i1 ((i2 - (2 : Int32))) σ) fun p10 =>
      some p10
      ) else (
      some (-2 : Int32)
      )))))))))
    )
def m12_job (F : Nat) (i1 : Int32) (i2 : Int32) (σ : Mem) : Option (Int32) :=
  Option.bind (m12_isJob F i1 σ) fun p1 =>
  if p1 = (0 : Int32) then (
    some (-2 : Int32)
    ) else (
    Option.bind (m12_in F ((i2).toInt64) (0 : Int64) (5 : Int64) σ) fun p2 =>
    if p2 = (0 : Int32) then (
      some (-2 : Int32)
      ) else (
      Option.bind (m12_jobOf F i1 i2 σ) fun p3 =>
      some p3
      )
    )
def m12_worn (F : Nat) (i1 : Int32) (σ : Mem) : Option (Int32) :=
  Option.bind (m12_isSmithy F σ) fun p1 =>
  if p1 = (0 : Int32) then (
    some (-1 : Int32)
    ) else (
    Option.bind (m12_in F ((i1).toInt64) (0 : Int64) (2 : Int64) σ) fun p2 =>
    if p2 = (0 : Int32) then (
      some (-1 : Int32)
      ) else (
      gd (inB ((95 : Int32) + i1) 132 = true) <|
      some ((gI σ 493 (((95 : Int32) + i1)).toNatClampNeg))
      )
    )
def m12_rivalsOf_4 (F : Nat) (i1 : Int32) (σ : Mem) : Nat → Int32 → Int32 → Option (Int32)
  | 0, _, _ => none
  | n + 1, x2, x3 =>
    gd (inB (3 : Int32) 132 = true) <|
    if (gI σ 493 ((3 : Int32)).toNatClampNeg) ≤ x3 then (
      some x2
      ) else (
      if x3 = i1 then (
        m12_rivalsOf_4 F i1 σ n ((x2 + (0 : Int32))) ((x3 + (1 : Int32)))
        ) else (
        Option.bind (m12_jobNow F x3 σ) fun p1 =>
        if p1 < (0 : Int32) then (
          m12_rivalsOf_4 F i1 σ n ((x2 + (0 : Int32))) ((x3 + (1 : Int32)))
          ) else (
          Option.bind (m12_jobNow F x3 σ) fun p2 =>
          Option.bind (m12_needs F p2 σ) fun p3 =>
          Option.bind (m12_jobNow F i1 σ) fun p4 =>
          Option.bind (m12_needs F p4 σ) fun p5 =>
          if (p3 &&& p5) = (0 : Int32) then (
            m12_rivalsOf_4 F i1 σ n ((x2 + (0 : Int32))) ((x3 + (1 : Int32)))
            ) else (
            m12_rivalsOf_4 F i1 σ n ((x2 + (1 : Int32))) ((x3 + (1 : Int32)))
            )
          )
        )
      )
def m12_rivalsOf (F : Nat) (i1 : Int32) (σ : Mem) : Option (Int32) :=
  m12_rivalsOf_4 F i1 σ F (0 : Int32) (0 : Int32)
def m12_wornFor_4 (F : Nat) (i1 : Int32) (σ : Mem) : Nat → Int32 → Int32 → Option (Int32)
  | 0, _, _ => none
  | n + 1, x2, x3 =>
    if (3 : Int32) ≤ x3 then (
      some x2
      ) else (
      Option.bind (m12_needs F i1 σ) fun p1 =>
      Option.bind (m12_isOf F p1 x3 σ) fun p2 =>
      if p2 = (0 : Int32) then (
        m12_wornFor_4 F i1 σ n x2 ((x3 + (1 : Int32)))
        ) else (
        gd (inB ((95 : Int32) + x3) 132 = true) <|
        if (gI σ 493 (((95 : Int32) + x3)).toNatClampNeg) ≤ x2 then (
          m12_wornFor_4 F i1 σ n x2 ((x3 + (1 : Int32)))
          ) else (
          gd (inB ((95 : Int32) + x3) 132 = true) <|
          m12_wornFor_4 F i1 σ n ((gI σ 493 (((95 : Int32) + x3)).toNatClampNeg)) ((x3 + (1 : Int32)))
          )
        )
      )
def m12_wornFor (F : Nat) (i1 : Int32) (σ : Mem) : Option (Int32) :=
  m12_wornFor_4 F i1 σ F (0 : Int32) (0 : Int32)
def m12_words_45 (F : Nat) (i1 : Int32) (x2 : Int32) (s1 : Int32) (s2 : Int64) (σ : Mem) : Option (Mem) :=
  gd (inB s1 13 = true) <|
  let σ1 : Mem := sL σ 492 (s1).toNatClampNeg s2
  Option.bind (m12_jobOf F x2 (3 : Int32) σ1) fun p2 =>
  gd (inB (3 : Int32) 13 = true) <|
  let σ3 : Mem := sL σ1 492 ((3 : Int32)).toNatClampNeg ((p2).toInt64)
  Option.bind (m12_jobOf F x2 (2 : Int32) σ3) fun p4 =>
  gd (inB (4 : Int32) 13 = true) <|
  let σ5 : Mem := sL σ3 492 ((4 : Int32)).toNatClampNeg ((p4).toInt64)
  Option.bind (m12_jobOf F x2 (4 : Int32) σ5) fun p6 =>
  gd (inB (5 : Int32) 13 = true) <|
  let σ7 : Mem := sL σ5 492 ((5 : Int32)).toNatClampNeg ((p6).toInt64)
  Option.bind (m12_smithOf F i1 (5 : Int32) σ7) fun p8 =>
  gd (inB (6 : Int32) 13 = true) <|
  let σ9 : Mem := sL σ7 492 ((6 : Int32)).toNatClampNeg ((p8).toInt64)
  gd (inB (5 : Int32) 132 = true) <|
  gd (inB (7 : Int32) 13 = true) <|
  let σ10 : Mem := sL σ9 492 ((7 : Int32)).toNatClampNeg (((gI σ9 493 ((5 : Int32)).toNatClampNeg)).toInt64)
  Option.bind (m12_wornFor F x2 σ10) fun p11 =>
  gd (inB (8 : Int32) 13 = true) <|
  let σ12 : Mem := sL σ10 492 ((8 : Int32)).toNatClampNeg ((p11).toInt64)
  Option.bind (m12_rivalsOf F i1 σ12) fun p13 =>
  gd (inB (9 : Int32) 13 = true) <|
  let σ14 : Mem := sL σ12 492 ((9 : Int32)).toNatClampNeg ((p13).toInt64)
  Option.bind (m12_smithOf F i1 (1 : Int32) σ14) fun p15 =>
  gd (inB (10 : Int32) 13 = true) <|
  let σ16 : Mem := sL σ14 492 ((10 : Int32)).toNatClampNeg ((p15).toInt64)
  gd (inB (1 : Int32) 132 = true) <|
  Option.bind (m12_smithOf F i1 (0 : Int32) σ16) fun p17 =>
  gd (inB (11 : Int32) 13 = true) <|
  let σ18 : Mem := sL σ16 492 ((11 : Int32)).toNatClampNeg ((((gI σ16 493 ((1 : Int32)).toNatClampNeg) - p17)).toInt64)
  Option.bind (m12_smithOf F i1 (2 : Int32) σ18) fun p19 =>
  gd (inB (12 : Int32) 13 = true) <|
  let σ20 : Mem := sL σ18 492 ((12 : Int32)).toNatClampNeg ((p19).toInt64)
  some σ20
def m12_words (F : Nat) (i1 : Int32) (σ : Mem) : Option (Mem) :=
  Option.bind (m12_jobNow F i1 σ) fun p1 =>
  gd (inB (0 : Int32) 13 = true) <|
  let σ2 : Mem := sL σ 492 ((0 : Int32)).toNatClampNeg ((i1).toInt64)
  Option.bind (m12_smithOf F i1 (0 : Int32) σ2) fun p3 =>
  gd (inB (1 : Int32) 13 = true) <|
  let σ4 : Mem := sL σ2 492 ((1 : Int32)).toNatClampNeg ((p3).toInt64)
  Option.bind (m12_isHot F i1 σ4) fun p5 =>
  if p5 = (0 : Int32) then (
    m12_words_45 F i1 p1 (2 : Int32) (0 : Int64) σ4
    ) else (
    m12_words_45 F i1 p1 (2 : Int32) (1 : Int64) σ4
    )
def m12_summedBy_58 (F : Nat) (i1 : Int32) (x3 : Int32) (σ : Mem) : Option (Int64 × Mem) :=
  gd (inB x3 288 = true) <|
  gd (inB (x3 + (1 : Int32)) 288 = true) <|
  Option.bind (m12_reckons F i1 ((gI σ 487 (x3).toNatClampNeg)) ((gI σ 487 ((x3 + (1 : Int32))).toNatClampNeg)) σ) fun p1 =>
  some (p1.1, p1.2)
def m12_summedBy_2 (F : Nat) (i1 : Int32) : Nat → Int32 → Mem → Option (Int64 × Mem)
  | 0, _, _ => none
  | n + 1, x2, σ =>
    gd (inB i1 6 = true) <|
    if (gI σ 488 (i1).toNatClampNeg) ≤ x2 then (
      some ((0 : Int64), σ)
      ) else (
      gd (inB ((((48 : Int32) * i1) + ((4 : Int32) * x2)) + (2 : Int32)) 288 = true) <|
      if (gI σ 487 (((((48 : Int32) * i1) + ((4 : Int32) * x2)) + (2 : Int32))).toNatClampNeg) < (0 : Int32) then (
        m12_summedBy_58 F i1 ((((48 : Int32) * i1) + ((4 : Int32) * x2))) σ
        ) else (
        gd (inB ((((48 : Int32) * i1) + ((4 : Int32) * x2)) + (2 : Int32)) 288 = true) <|
        gd (inB ((((48 : Int32) * i1) + ((4 : Int32) * x2)) + (3 : Int32)) 288 = true) <|
        Option.bind (m12_reckons F i1 ((gI σ 487 (((((48 : Int32) * i1) + ((4 : Int32) * x2)) + (2 : Int32))).toNatClampNeg)) ((gI σ 487 (((((48 : Int32) * i1) + ((4 : Int32) * x2)) + (3 : Int32))).toNatClampNeg)) σ) fun p1 =>
        if (lg_cmp p1.1 (1 : Int64)) = (0 : Int32) then (
          m12_summedBy_58 F i1 ((((48 : Int32) * i1) + ((4 : Int32) * x2))) p1.2
          ) else (
          m12_summedBy_2 F i1 n ((x2 + (1 : Int32))) p1.2
          )
        )
      )
def m12_summedBy (F : Nat) (i1 : Int32) (σ : Mem) : Option (Int64 × Mem) :=
  m12_summedBy_2 F i1 F (0 : Int32) σ
def m12_willsStrike (F : Nat) (i1 : Int32) (σ : Mem) : Option (Int32 × Mem) :=
  Option.bind (m12_jobNow F i1 σ) fun p1 =>
  if (0 : Int32) ≤ p1 then (
    if (gI σ 483 24) < (0 : Int32) then (
      if (0 : Int32) ≤ (gI σ 483 21) then (
        Option.bind (m12_words F i1 σ) fun p2 =>
        Option.bind (m12_summedBy F (gI p2 483 21) p2) fun p3 =>
        if (lg_cmp p3.1 (0 : Int64)) ≤ (0 : Int32) then (
          some ((0 : Int32), p3.2)
          ) else (
          some ((1 : Int32), p3.2)
          )
        ) else (
        Option.bind (m12_isHot F i1 σ) fun p4 =>
        gd (p4 = (0 : Int32) ∨ p4 = (1 : Int32)) <|
        some (p4, σ)
        )
      ) else (
      Option.bind (m12_isOf F (gI σ 483 24) i1 σ) fun p5 =>
      gd (p5 = (0 : Int32) ∨ p5 = (1 : Int32)) <|
      some (p5, σ)
      )
    ) else (
    some ((0 : Int32), σ)
    )
def m12_takesTurns_141 (F : Nat) (k87 : Int32 → Int32 → Mem → Option (Mem)) : Nat → Int32 → Int32 → Int32 → Int32 → Mem → Option (Mem)
  | 0, _, _, _, _, _ => none
  | n + 1, x1, x2, x3, x4, σ =>
    if (3 : Int32) ≤ x4 then (
      k87 x1 ((x2 + (1 : Int32))) σ
      ) else (
      Option.bind (m12_isOf F x3 x4 σ) fun p1 =>
      if p1 = (0 : Int32) then (
        m12_takesTurns_141 F k87 n x1 x2 x3 ((x4 + (1 : Int32))) σ
        ) else (
        gd (inB x4 3 = true) <|
        let σ2 : Mem := sI σ 495 (x4).toNatClampNeg x2
        m12_takesTurns_141 F k87 n x1 x2 x3 ((x4 + (1 : Int32))) σ2
        )
      )
def m12_takesTurns_87 (F : Nat) : Nat → Int32 → Int32 → Mem → Option (Mem)
  | 0, _, _, _ => none
  | n + 1, x1, x2, σ =>
    gd (inB (3 : Int32) 132 = true) <|
    if (gI σ 493 ((3 : Int32)).toNatClampNeg) ≤ x2 then (
      some σ
      ) else (
      gd (inB x2 3 = true) <|
      if (gI σ 494 (x2).toNatClampNeg) = (16 : Int32) then (
        m12_takesTurns_87 F n x1 ((x2 + (1 : Int32))) σ
        ) else (
        Option.bind (m12_jobNow F x2 σ) fun p1 =>
        Option.bind (m12_needs F p1 σ) fun p2 =>
        if (p2 &&& x1) = (0 : Int32) then (
          gd (inB x2 3 = true) <|
          let σ3 : Mem := sI σ 494 (x2).toNatClampNeg p2
          m12_takesTurns_141 F (fun x1 x2 σ => m12_takesTurns_87 F n x1 x2 σ) F (x1 ||| p2) x2 p2 (0 : Int32) σ3
          ) else (
          if (gI σ 483 26) = (0 : Int32) then (
            m12_takesTurns_87 F n x1 ((x2 + (1 : Int32))) σ
            ) else (
            if p2 = (1 : Int32) then (
              if (gI σ 483 32) = (0 : Int32) then (
                gd (inB x2 3 = true) <|
                let σ4 : Mem := sI σ 494 (x2).toNatClampNeg (8 : Int32)
                let σ5 : Mem := sI σ4 483 32 (1 : Int32)
                m12_takesTurns_87 F n x1 ((x2 + (1 : Int32))) σ5
                ) else (
                m12_takesTurns_87 F n x1 ((x2 + (1 : Int32))) σ
                )
              ) else (
              m12_takesTurns_87 F n x1 ((x2 + (1 : Int32))) σ
              )
            )
          )
        )
      )
def m12_takesTurns_67 (F : Nat) : Nat → Int32 → Int32 → Mem → Option (Mem)
  | 0, _, _, _ => none
  | n + 1, x1, x2, σ =>
    if (3 : Int32) ≤ x2 then (
      m12_takesTurns_87 F F x1 (0 : Int32) σ
      ) else (
      gd (inB x2 3 = true) <|
      let σ1 : Mem := sI σ 495 (x2).toNatClampNeg (-1 : Int32)
      m12_takesTurns_67 F n x1 ((x2 + (1 : Int32))) σ1
      )
def m12_takesTurns_29 (F : Nat) : Nat → Int32 → Int32 → Mem → Option (Mem)
  | 0, _, _, _ => none
  | n + 1, x1, x2, σ =>
    gd (inB (3 : Int32) 132 = true) <|
    if (gI σ 493 ((3 : Int32)).toNatClampNeg) ≤ x2 then (
      m12_takesTurns_67 F F x1 (0 : Int32) σ
      ) else (
      Option.bind (m12_willsStrike F x2 σ) fun p1 =>
      if p1.1 = (0 : Int32) then (
        gd (inB x2 3 = true) <|
        let σ2 : Mem := sI p1.2 494 (x2).toNatClampNeg (16 : Int32)
        m12_takesTurns_29 F n x1 ((x2 + (1 : Int32))) σ2
        ) else (
        gd (inB x2 3 = true) <|
        let σ3 : Mem := sI p1.2 494 (x2).toNatClampNeg (0 : Int32)
        m12_takesTurns_29 F n x1 ((x2 + (1 : Int32))) σ3
        )
      )
def m12_takesTurns (F : Nat)  (σ : Mem) : Option (Mem) :=
  Option.bind (m12_splitParts F σ) fun p1 =>
  gd (inB (2 : Int32) 132 = true) <|
  if (gI σ 483 27) < (gI σ 493 ((2 : Int32)).toNatClampNeg) then (
    let σ2 : Mem := sI σ 483 32 (0 : Int32)
    m12_takesTurns_29 F F p1 (0 : Int32) σ2
    ) else (
    let σ3 : Mem := sI σ 483 32 (1 : Int32)
    m12_takesTurns_29 F F p1 (0 : Int32) σ3
    )
def m12_heats (F : Nat) (i1 : Int32) (i2 : Int32) (σ : Mem) : Option (Mem) :=
  if (gI σ 483 28) = (0 : Int32) then (
    gd (inB ((10 : Int32) + ((7 : Int32) * i1)) 132 = true) <|
    gd (inB (((10 : Int32) + ((7 : Int32) * i1)) + (5 : Int32)) 132 = true) <|
    gd (inB ((10 : Int32) + ((7 : Int32) * i1)) 132 = true) <|
    let σ1 : Mem := sI σ 493 (((10 : Int32) + ((7 : Int32) * i1))).toNatClampNeg (((gI σ 493 (((10 : Int32) + ((7 : Int32) * i1))).toNatClampNeg) + (gI σ 493 ((((10 : Int32) + ((7 : Int32) * i1)) + (5 : Int32))).toNatClampNeg)))
    gd (inB ((10 : Int32) + ((7 : Int32) * i1)) 132 = true) <|
    gd (inB (1 : Int32) 132 = true) <|
    if (gI σ1 493 ((1 : Int32)).toNatClampNeg) < (gI σ1 493 (((10 : Int32) + ((7 : Int32) * i1))).toNatClampNeg) then (
      gd (inB ((10 : Int32) + ((7 : Int32) * i1)) 132 = true) <|
      let σ2 : Mem := sI σ1 493 (((10 : Int32) + ((7 : Int32) * i1))).toNatClampNeg (0 : Int32)
      if (gI σ2 483 25) = (0 : Int32) then (
        gd (inB (((10 : Int32) + ((7 : Int32) * i1)) + (4 : Int32)) 132 = true) <|
        gd (inB (((10 : Int32) + ((7 : Int32) * i1)) + (4 : Int32)) 132 = true) <|
        let σ3 : Mem := sI σ2 493 ((((10 : Int32) + ((7 : Int32) * i1)) + (4 : Int32))).toNatClampNeg (((gI σ2 493 ((((10 : Int32) + ((7 : Int32) * i1)) + (4 : Int32))).toNatClampNeg) + (1 : Int32)))
        Option.bind (m12_jobOf F i2 (7 : Int32) σ3) fun p4 =>
        gd (inB (((31 : Int32) + ((8 : Int32) * i2)) + (2 : Int32)) 132 = true) <|
        let σ5 : Mem := sI σ3 493 ((((31 : Int32) + ((8 : Int32) * i2)) + (2 : Int32))).toNatClampNeg p4
        some σ5
        ) else (
        some σ2
        )
      ) else (
      some σ1
      )
    ) else (
    some σ
    )
def m12_strikes_70 (F : Nat) (i1 : Int32) (i2 : Int32) (i3 : Int32) (x4 : Int32) (σ : Mem) : Option (Mem) :=
  Option.bind (m12_jobOf F i2 (2 : Int32) σ) fun p1 =>
  if p1 ≤ (0 : Int32) then (
    gd (inB (5 : Int32) 132 = true) <|
    gd (inB (((31 : Int32) + ((8 : Int32) * i2)) + (5 : Int32)) 132 = true) <|
    let σ2 : Mem := sI σ 493 ((((31 : Int32) + ((8 : Int32) * i2)) + (5 : Int32))).toNatClampNeg (((gI σ 493 ((5 : Int32)).toNatClampNeg) + (1 : Int32)))
    gd (inB x4 132 = true) <|
    let σ3 : Mem := sI σ2 493 (x4).toNatClampNeg (0 : Int32)
    gd (inB (x4 + (2 : Int32)) 132 = true) <|
    gd (inB (x4 + (2 : Int32)) 132 = true) <|
    let σ4 : Mem := sI σ3 493 ((x4 + (2 : Int32))).toNatClampNeg (((gI σ3 493 ((x4 + (2 : Int32))).toNatClampNeg) + (1 : Int32)))
    gd (inB (x4 + (3 : Int32)) 132 = true) <|
    Option.bind (m12_jobOf F i2 (4 : Int32) σ4) fun p5 =>
    gd (inB (x4 + (3 : Int32)) 132 = true) <|
    let σ6 : Mem := sI σ4 493 ((x4 + (3 : Int32))).toNatClampNeg (((gI σ4 493 ((x4 + (3 : Int32))).toNatClampNeg) + p5))
    some σ6
    ) else (
    some σ
    )
def m12_strikes_23 (F : Nat) (i1 : Int32) (i2 : Int32) (i3 : Int32) (x4 : Int32) (σ : Mem) : Option (Mem) :=
  if (gI σ 483 25) = (0 : Int32) then (
    if i3 = (0 : Int32) then (
      gd (inB (x4 + (6 : Int32)) 132 = true) <|
      gd (inB (x4 + (6 : Int32)) 132 = true) <|
      let σ1 : Mem := sI σ 493 ((x4 + (6 : Int32))).toNatClampNeg (((gI σ 493 ((x4 + (6 : Int32))).toNatClampNeg) + (1 : Int32)))
      m12_strikes_70 F i1 i2 i3 x4 σ1
      ) else (
      gd (inB (((31 : Int32) + ((8 : Int32) * i2)) + (2 : Int32)) 132 = true) <|
      gd (inB (((31 : Int32) + ((8 : Int32) * i2)) + (2 : Int32)) 132 = true) <|
      let σ2 : Mem := sI σ 493 ((((31 : Int32) + ((8 : Int32) * i2)) + (2 : Int32))).toNatClampNeg (((gI σ 493 ((((31 : Int32) + ((8 : Int32) * i2)) + (2 : Int32))).toNatClampNeg) - (1 : Int32)))
      m12_strikes_70 F i1 i2 i3 x4 σ2
      )
    ) else (
    some σ
    )
def m12_strikes (F : Nat) (i1 : Int32) (i2 : Int32) (i3 : Int32) (σ : Mem) : Option (Mem) :=
  if i3 = (0 : Int32) then (
    m12_strikes_23 F i1 i2 i3 (((10 : Int32) + ((7 : Int32) * i1))) σ
    ) else (
    gd (inB i1 3 = true) <|
    gd (inB i1 3 = true) <|
    let σ1 : Mem := sI σ 496 (i1).toNatClampNeg (((gI σ 496 (i1).toNatClampNeg) + (1 : Int32)))
    m12_strikes_23 F i1 i2 i3 (((10 : Int32) + ((7 : Int32) * i1))) σ1
    )
def m12_goesOn_123 (F : Nat) (i1 : Int32) (x2 : Int32) (x4 : Int32) (s1 : Int32) (s2 : Int32) (σ : Mem) : Option (Mem) :=
  gd (inB s1 132 = true) <|
  let σ1 : Mem := sI σ 493 (s1).toNatClampNeg s2
  gd (inB i1 3 = true) <|
  if (gI σ1 494 (i1).toNatClampNeg) = (0 : Int32) then (
    some σ1
    ) else (
    Option.bind (m12_strikes F i1 x2 x4 σ1) fun p2 =>
    some p2
    )
def m12_goesOn_56 (F : Nat) (i1 : Int32) (x2 : Int32) (x3 : Int32) (σ : Mem) : Option (Mem) :=
  if (0 : Int32) ≤ x2 then (
    gd (inB i1 3 = true) <|
    if (gI σ 494 (i1).toNatClampNeg) = (16 : Int32) then (
      Option.bind (m12_heats F i1 x2 σ) fun p1 =>
      some p1
      ) else (
      Option.bind (m12_isHot F i1 σ) fun p2 =>
      gd (inB x3 132 = true) <|
      gd (inB (0 : Int32) 132 = true) <|
      if (gI σ 493 ((0 : Int32)).toNatClampNeg) ≤ (gI σ 493 (x3).toNatClampNeg) then (
        gd (inB x3 132 = true) <|
        gd (inB (0 : Int32) 132 = true) <|
        m12_goesOn_123 F i1 x2 p2 x3 (((gI σ 493 (x3).toNatClampNeg) - (gI σ 493 ((0 : Int32)).toNatClampNeg))) σ
        ) else (
        m12_goesOn_123 F i1 x2 p2 x3 (0 : Int32) σ
        )
      )
    ) else (
    some σ
    )
def m12_goesOn_55 (F : Nat) (i1 : Int32) (k56 : Int32 → Int32 → Mem → Option (Mem)) (x2 : Int32) (x3 : Int32) (s1 : Int32) (s2 : Int32) (σ : Mem) : Option (Mem) :=
  gd (inB s1 132 = true) <|
  let σ1 : Mem := sI σ 493 (s1).toNatClampNeg s2
  k56 x2 x3 σ1
def m12_goesOn_54 (F : Nat) (i1 : Int32) (k55 : Int32 → Int32 → Int32 → Int32 → Mem → Option (Mem)) (x2 : Int32) (x3 : Int32) (s1 : Int32) (σ : Mem) : Option (Mem) :=
  k55 x2 x3 s1 (0 : Int32) σ
def m12_goesOn (F : Nat) (i1 : Int32) (σ : Mem) : Option (Mem) :=
  Option.bind (m12_jobNow F i1 σ) fun p1 =>
  if (gI σ 483 25) = (0 : Int32) then (
    if p1 < (0 : Int32) then (
      m12_goesOn_54 F i1 (fun x2 x3 s1 s2 σ => m12_goesOn_55 F i1 (fun x2 x3 σ => m12_goesOn_56 F i1 x2 x3 σ) x2 x3 s1 s2 σ) p1 (((10 : Int32) + ((7 : Int32) * i1))) ((((10 : Int32) + ((7 : Int32) * i1)) + (1 : Int32))) σ
      ) else (
      gd (inB i1 3 = true) <|
      if (gI σ 494 (i1).toNatClampNeg) = (0 : Int32) then (
        gd (inB (((10 : Int32) + ((7 : Int32) * i1)) + (1 : Int32)) 132 = true) <|
        m12_goesOn_55 F i1 (fun x2 x3 σ => m12_goesOn_56 F i1 x2 x3 σ) p1 (((10 : Int32) + ((7 : Int32) * i1))) ((((10 : Int32) + ((7 : Int32) * i1)) + (1 : Int32))) (((gI σ 493 ((((10 : Int32) + ((7 : Int32) * i1)) + (1 : Int32))).toNatClampNeg) + (1 : Int32))) σ
        ) else (
        m12_goesOn_54 F i1 (fun x2 x3 s1 s2 σ => m12_goesOn_55 F i1 (fun x2 x3 σ => m12_goesOn_56 F i1 x2 x3 σ) x2 x3 s1 s2 σ) p1 (((10 : Int32) + ((7 : Int32) * i1))) ((((10 : Int32) + ((7 : Int32) * i1)) + (1 : Int32))) σ
        )
      )
    ) else (
    m12_goesOn_56 F i1 p1 (((10 : Int32) + ((7 : Int32) * i1))) σ
    )
def m12_wears_52 (F : Nat) : Nat → Int32 → Mem → Option (Mem)
  | 0, _, _ => none
  | n + 1, x1, σ =>
    gd (inB (3 : Int32) 132 = true) <|
    if (gI σ 493 ((3 : Int32)).toNatClampNeg) ≤ x1 then (
      some σ
      ) else (
      gd (inB x1 3 = true) <|
      if (gI σ 494 (x1).toNatClampNeg) = (8 : Int32) then (
        let σ1 : Mem := sI σ 483 27 (((gI σ 483 27) + (1 : Int32)))
        m12_wears_52 F n ((x1 + (1 : Int32))) σ1
        ) else (
        let σ2 : Mem := sI σ 483 27 (((gI σ 483 27) + (0 : Int32)))
        m12_wears_52 F n ((x1 + (1 : Int32))) σ2
        )
      )
def m12_wears_2 (F : Nat) : Nat → Int32 → Mem → Option (Mem)
  | 0, _, _ => none
  | n + 1, x1, σ =>
    if (3 : Int32) ≤ x1 then (
      m12_wears_52 F F (0 : Int32) σ
      ) else (
      gd (inB x1 3 = true) <|
      if (gI σ 495 (x1).toNatClampNeg) < (0 : Int32) then (
        m12_wears_2 F n ((x1 + (1 : Int32))) σ
        ) else (
        gd (inB ((95 : Int32) + x1) 132 = true) <|
        if (9999 : Int32) ≤ (gI σ 493 (((95 : Int32) + x1)).toNatClampNeg) then (
          m12_wears_2 F n ((x1 + (1 : Int32))) σ
          ) else (
          gd (inB ((95 : Int32) + x1) 132 = true) <|
          gd (inB ((95 : Int32) + x1) 132 = true) <|
          let σ1 : Mem := sI σ 493 (((95 : Int32) + x1)).toNatClampNeg (((gI σ 493 (((95 : Int32) + x1)).toNatClampNeg) + (1 : Int32)))
          m12_wears_2 F n ((x1 + (1 : Int32))) σ1
          )
        )
      )
def m12_wears (F : Nat)  (σ : Mem) : Option (Mem) :=
  m12_wears_2 F F (0 : Int32) σ
def m12_passes_8 (F : Nat) : Nat → Int32 → Int32 → Mem → Option (Int32 × Mem)
  | 0, _, _, _ => none
  | n + 1, x1, x2, σ =>
    gd (inB (3 : Int32) 132 = true) <|
    if (gI σ 493 ((3 : Int32)).toNatClampNeg) ≤ x2 then (
      if (gI σ 483 25) = (0 : Int32) then (
        Option.bind (m12_wears F σ) fun p1 =>
        gd (inB (5 : Int32) 132 = true) <|
        gd (inB (5 : Int32) 132 = true) <|
        let σ2 : Mem := sI p1 493 ((5 : Int32)).toNatClampNeg (((gI p1 493 ((5 : Int32)).toNatClampNeg) + (1 : Int32)))
        some (x1, σ2)
        ) else (
        some (x1, σ)
        )
      ) else (
      gd (inB x2 3 = true) <|
      let σ3 : Mem := sI σ 496 (x2).toNatClampNeg (0 : Int32)
      Option.bind (m12_goesOn F x2 σ3) fun p4 =>
      gd (inB x2 3 = true) <|
      m12_passes_8 F n ((x1 + (gI p4 496 (x2).toNatClampNeg))) ((x2 + (1 : Int32))) p4
      )
def m12_passes (F : Nat)  (σ : Mem) : Option (Int32 × Mem) :=
  Option.bind (m12_takesTurns F σ) fun p1 =>
  m12_passes_8 F F (0 : Int32) (0 : Int32) p1
def m12_keepsAct_52 (F : Nat) : Nat → Int32 → Mem → Option (Mem)
  | 0, _, _ => none
  | n + 1, x1, σ =>
    if (98 : Int32) ≤ x1 then (
      let σ1 : Mem := sI σ 483 34 (((gI σ 483 34) + (1 : Int32)))
      some σ1
      ) else (
      gd (inB x1 132 = true) <|
      gd (inB (((98 : Int32) * (gI σ 483 34)) + x1) 1960 = true) <|
      let σ2 : Mem := sI σ 497 ((((98 : Int32) * (gI σ 483 34)) + x1)).toNatClampNeg ((gI σ 493 (x1).toNatClampNeg))
      m12_keepsAct_52 F n ((x1 + (1 : Int32))) σ2
      )
def m12_keepsAct_12 (F : Nat) (k52 : Int32 → Mem → Option (Mem)) : Nat → Int32 → Mem → Option (Mem)
  | 0, _, _ => none
  | n + 1, x1, σ =>
    if (1960 : Int32) ≤ x1 then (
      let σ1 : Mem := sI σ 483 34 (((gI σ 483 34) - (1 : Int32)))
      k52 (0 : Int32) σ1
      ) else (
      gd (inB x1 1960 = true) <|
      gd (inB (x1 - (98 : Int32)) 1960 = true) <|
      let σ2 : Mem := sI σ 497 ((x1 - (98 : Int32))).toNatClampNeg ((gI σ 497 (x1).toNatClampNeg))
      m12_keepsAct_12 F k52 n ((x1 + (1 : Int32))) σ2
      )
def m12_keepsAct (F : Nat)  (σ : Mem) : Option (Mem) :=
  if (gI σ 483 34) = (20 : Int32) then (
    m12_keepsAct_12 F (fun x1 σ => m12_keepsAct_52 F F x1 σ) F (98 : Int32) σ
    ) else (
    m12_keepsAct_52 F F (0 : Int32) σ
    )
def m12_undo_21 (F : Nat) : Nat → Int32 → Mem → Option (Int32 × Mem)
  | 0, _, _ => none
  | n + 1, x1, σ =>
    if (98 : Int32) ≤ x1 then (
      some ((gI σ 483 34), σ)
      ) else (
      gd (inB (((98 : Int32) * (gI σ 483 34)) + x1) 1960 = true) <|
      gd (inB x1 132 = true) <|
      let σ1 : Mem := sI σ 493 (x1).toNatClampNeg ((gI σ 497 ((((98 : Int32) * (gI σ 483 34)) + x1)).toNatClampNeg))
      m12_undo_21 F n ((x1 + (1 : Int32))) σ1
      )
def m12_undo (F : Nat)  (σ : Mem) : Option (Int32 × Mem) :=
  if (gI σ 483 34) = (0 : Int32) then (
    some ((-1 : Int32), σ)
    ) else (
    let σ1 : Mem := sI σ 483 34 (((gI σ 483 34) - (1 : Int32)))
    m12_undo_21 F F (0 : Int32) σ1
    )
def m12_moment (F : Nat)  (σ : Mem) : Option (Int32 × Mem) :=
  Option.bind (m12_isSmithy F σ) fun p1 =>
  if p1 = (0 : Int32) then (
    some ((-1 : Int32), σ)
    ) else (
    gd (inB (5 : Int32) 132 = true) <|
    if (gI σ 493 ((5 : Int32)).toNatClampNeg) = (9999 : Int32) then (
      some ((-1 : Int32), σ)
      ) else (
      Option.bind (m12_keepsAct F σ) fun p2 =>
      Option.bind (m12_passes F p2) fun p3 =>
      some (p3.1, p3.2)
      )
    )
def m12_quench (F : Nat) (i1 : Int32) (σ : Mem) : Option (Int32 × Mem) :=
  Option.bind (m12_isSmith F i1 σ) fun p1 =>
  if p1 = (0 : Int32) then (
    some ((-1 : Int32), σ)
    ) else (
    Option.bind (m12_smithOf F i1 (0 : Int32) σ) fun p2 =>
    if p2 = (0 : Int32) then (
      some ((-1 : Int32), σ)
      ) else (
      Option.bind (m12_keepsAct F σ) fun p3 =>
      Option.bind (m12_smithOf F i1 (0 : Int32) p3) fun p4 =>
      gd (inB ((10 : Int32) + ((7 : Int32) * i1)) 132 = true) <|
      let σ5 : Mem := sI p3 493 (((10 : Int32) + ((7 : Int32) * i1))).toNatClampNeg (0 : Int32)
      some (p4, σ5)
      )
    )
def m12_mend (F : Nat) (i1 : Int32) (σ : Mem) : Option (Int32 × Mem) :=
  Option.bind (m12_isSmithy F σ) fun p1 =>
  if p1 = (0 : Int32) then (
    some ((-1 : Int32), σ)
    ) else (
    Option.bind (m12_in F ((i1).toInt64) (0 : Int64) (2 : Int64) σ) fun p2 =>
    if p2 = (0 : Int32) then (
      some ((-1 : Int32), σ)
      ) else (
      gd (inB ((95 : Int32) + i1) 132 = true) <|
      if (gI σ 493 (((95 : Int32) + i1)).toNatClampNeg) = (0 : Int32) then (
        some ((-1 : Int32), σ)
        ) else (
        Option.bind (m12_keepsAct F σ) fun p3 =>
        gd (inB ((95 : Int32) + i1) 132 = true) <|
        gd (inB ((95 : Int32) + i1) 132 = true) <|
        let σ4 : Mem := sI p3 493 (((95 : Int32) + i1)).toNatClampNeg (((gI p3 493 (((95 : Int32) + i1)).toNatClampNeg) / (2 : Int32)))
        gd (inB ((95 : Int32) + i1) 132 = true) <|
        some ((gI σ4 493 (((95 : Int32) + i1)).toNatClampNeg), σ4)
        )
      )
    )
def m12_openMany_4 (F : Nat) (i1 : Int32) (σ : Mem) : Nat → Int32 → Int32 → Option (Int32)
  | 0, _, _ => none
  | n + 1, x2, x3 =>
    gd (inB (4 : Int32) 132 = true) <|
    if (gI σ 493 ((4 : Int32)).toNatClampNeg) ≤ x3 then (
      some x2
      ) else (
      Option.bind (m12_isOpen F x3 i1 σ) fun p1 =>
      if p1 = (0 : Int32) then (
        m12_openMany_4 F i1 σ n ((x2 + (0 : Int32))) ((x3 + (1 : Int32)))
        ) else (
        m12_openMany_4 F i1 σ n ((x2 + (1 : Int32))) ((x3 + (1 : Int32)))
        )
      )
def m12_openMany (F : Nat) (i1 : Int32) (σ : Mem) : Option (Int32) :=
  m12_openMany_4 F i1 σ F (0 : Int32) (0 : Int32)
def m12_putsBehind_4 (F : Nat) (i1 : Int32) : Nat → Int32 → Int32 → Mem → Option (Mem)
  | 0, _, _, _ => none
  | n + 1, x2, x3, σ =>
    gd (inB (4 : Int32) 132 = true) <|
    if (gI σ 493 ((4 : Int32)).toNatClampNeg) ≤ x3 then (
      gd (inB (((31 : Int32) + ((8 : Int32) * i1)) + (6 : Int32)) 132 = true) <|
      let σ1 : Mem := sI σ 493 ((((31 : Int32) + ((8 : Int32) * i1)) + (6 : Int32))).toNatClampNeg ((x2 + (1 : Int32)))
      some σ1
      ) else (
      Option.bind (m12_jobOf F x3 (6 : Int32) σ) fun p2 =>
      if p2 ≤ x2 then (
        m12_putsBehind_4 F i1 n x2 ((x3 + (1 : Int32))) σ
        ) else (
        Option.bind (m12_jobOf F x3 (6 : Int32) σ) fun p3 =>
        m12_putsBehind_4 F i1 n p3 ((x3 + (1 : Int32))) σ
        )
      )
def m12_putsBehind (F : Nat) (i1 : Int32) (σ : Mem) : Option (Mem) :=
  m12_putsBehind_4 F i1 F (0 : Int32) (0 : Int32) σ
def m12_aside (F : Nat) (i1 : Int32) (σ : Mem) : Option (Int32 × Mem) :=
  Option.bind (m12_isSmith F i1 σ) fun p1 =>
  if p1 = (0 : Int32) then (
    some ((-1 : Int32), σ)
    ) else (
    Option.bind (m12_openMany F i1 σ) fun p2 =>
    if (2 : Int32) ≤ p2 then (
      Option.bind (m12_keepsAct F σ) fun p3 =>
      Option.bind (m12_jobNow F i1 p3) fun p4 =>
      Option.bind (m12_putsBehind F p4 p3) fun p5 =>
      gd (inB ((10 : Int32) + ((7 : Int32) * i1)) 132 = true) <|
      let σ6 : Mem := sI p5 493 (((10 : Int32) + ((7 : Int32) * i1))).toNatClampNeg (0 : Int32)
      Option.bind (m12_jobNow F i1 σ6) fun p7 =>
      some (p7, σ6)
      ) else (
      some ((-1 : Int32), σ)
      )
    )
def m12_keeps_2 (F : Nat) : Nat → Int32 → Mem → Option (Mem)
  | 0, _, _ => none
  | n + 1, x1, σ =>
    if (98 : Int32) ≤ x1 then (
      let σ1 : Mem := sI σ 483 27 (0 : Int32)
      some σ1
      ) else (
      gd (inB x1 132 = true) <|
      gd (inB x1 98 = true) <|
      let σ2 : Mem := sI σ 498 (x1).toNatClampNeg ((gI σ 493 (x1).toNatClampNeg))
      m12_keeps_2 F n ((x1 + (1 : Int32))) σ2
      )
def m12_keeps (F : Nat)  (σ : Mem) : Option (Mem) :=
  m12_keeps_2 F F (0 : Int32) σ
def m12_laysBack_2 (F : Nat) : Nat → Int32 → Mem → Option (Mem)
  | 0, _, _ => none
  | n + 1, x1, σ =>
    if (98 : Int32) ≤ x1 then (
      let σ1 : Mem := sI σ 483 27 (0 : Int32)
      some σ1
      ) else (
      gd (inB x1 98 = true) <|
      gd (inB x1 132 = true) <|
      let σ2 : Mem := sI σ 493 (x1).toNatClampNeg ((gI σ 498 (x1).toNatClampNeg))
      m12_laysBack_2 F n ((x1 + (1 : Int32))) σ2
      )
def m12_laysBack (F : Nat)  (σ : Mem) : Option (Mem) :=
  m12_laysBack_2 F F (0 : Int32) σ
def m12_ahead_108 (F : Nat) (i1 : Int32) (i2 : Int32) (i3 : Int32) (s0 : Int32) (σ : Mem) : Option (Int32 × Mem) :=
  Option.bind (m12_laysBack F σ) fun p1 =>
  some (s0, p1)
def m12_ahead_41 (F : Nat) (i1 : Int32) (i2 : Int32) (i3 : Int32) : Nat → Int32 → Mem → Option (Int32 × Mem)
  | 0, _, _ => none
  | n + 1, x4, σ =>
    if i2 ≤ x4 then (
      Option.bind (m12_jobNow F i1 σ) fun p1 =>
      if i3 = (0 : Int32) then (
        Option.bind (m12_smithOf F i1 (0 : Int32) σ) fun p2 =>
        m12_ahead_108 F i1 i2 i3 p2 σ
        ) else (
        if i3 = (2 : Int32) then (
          Option.bind (m12_smithOf F i1 (2 : Int32) σ) fun p3 =>
          m12_ahead_108 F i1 i2 i3 p3 σ
          ) else (
          if (0 : Int32) ≤ p1 then (
            Option.bind (m12_jobOf F p1 (2 : Int32) σ) fun p4 =>
            m12_ahead_108 F i1 i2 i3 p4 σ
            ) else (
            m12_ahead_108 F i1 i2 i3 (0 : Int32) σ
            )
          )
        )
      ) else (
      Option.bind (m12_passes F σ) fun p5 =>
      m12_ahead_41 F i1 i2 i3 n ((x4 + (1 : Int32))) p5.2
      )
def m12_ahead (F : Nat) (i1 : Int32) (i2 : Int32) (i3 : Int32) (σ : Mem) : Option (Int32 × Mem) :=
  Option.bind (m12_isSmith F i1 σ) fun p1 =>
  if p1 = (0 : Int32) then (
    some ((-1 : Int32), σ)
    ) else (
    Option.bind (m12_in F ((i2).toInt64) (0 : Int64) (200 : Int64) σ) fun p2 =>
    if p2 = (0 : Int32) then (
      some ((-1 : Int32), σ)
      ) else (
      Option.bind (m12_in F ((i3).toInt64) (0 : Int64) (2 : Int64) σ) fun p3 =>
      if p3 = (0 : Int32) then (
        some ((-1 : Int32), σ)
        ) else (
        Option.bind (m12_keeps F σ) fun p4 =>
        m12_ahead_41 F i1 i2 i3 F (0 : Int32) p4
        )
      )
    )
def m12_ready_43 (F : Nat) (i1 : Int32) (σ : Mem) : Option (Int32 × Mem) :=
  Option.bind (m12_jobOf F i1 (5 : Int32) σ) fun p1 =>
  Option.bind (m12_laysBack F σ) fun p2 =>
  if (0 : Int32) ≤ p1 then (
    some (p1, p2)
    ) else (
    some ((-2 : Int32), p2)
    )
def m12_ready_16 (F : Nat) (i1 : Int32) : Nat → Int32 → Mem → Option (Int32 × Mem)
  | 0, _, _ => none
  | n + 1, x2, σ =>
    if (500 : Int32) ≤ x2 then (
      m12_ready_43 F i1 σ
      ) else (
      Option.bind (m12_jobOf F i1 (5 : Int32) σ) fun p1 =>
      if (0 : Int32) ≤ p1 then (
        m12_ready_43 F i1 σ
        ) else (
        Option.bind (m12_passes F σ) fun p2 =>
        m12_ready_16 F i1 n ((x2 + (1 : Int32))) p2.2
        )
      )
def m12_ready (F : Nat) (i1 : Int32) (σ : Mem) : Option (Int32 × Mem) :=
  Option.bind (m12_isJob F i1 σ) fun p1 =>
  if p1 = (0 : Int32) then (
    some ((-1 : Int32), σ)
    ) else (
    Option.bind (m12_keeps F σ) fun p2 =>
    m12_ready_16 F i1 F (0 : Int32) p2
    )
def m12_areDone_2 (F : Nat) (σ : Mem) : Nat → Int32 → Option (Int32)
  | 0, _ => none
  | n + 1, x1 =>
    gd (inB (4 : Int32) 132 = true) <|
    if (gI σ 493 ((4 : Int32)).toNatClampNeg) ≤ x1 then (
      some (1 : Int32)
      ) else (
      Option.bind (m12_jobOf F x1 (5 : Int32) σ) fun p1 =>
      if (0 : Int32) ≤ p1 then (
        m12_areDone_2 F σ n ((x1 + (1 : Int32)))
        ) else (
        some (0 : Int32)
        )
      )
def m12_areDone (F : Nat)  (σ : Mem) : Option (Int32) :=
  m12_areDone_2 F σ F (0 : Int32)
def m12_momentsLeft_31 (F : Nat) (x1 : Int32) (σ : Mem) : Option (Int32 × Mem) :=
  Option.bind (m12_laysBack F σ) fun p1 =>
  some (x1, p1)
def m12_momentsLeft_6 (F : Nat) : Nat → Int32 → Mem → Option (Int32 × Mem)
  | 0, _, _ => none
  | n + 1, x1, σ =>
    if (500 : Int32) < x1 then (
      m12_momentsLeft_31 F x1 σ
      ) else (
      Option.bind (m12_areDone F σ) fun p1 =>
      if p1 = (0 : Int32) then (
        Option.bind (m12_passes F σ) fun p2 =>
        m12_momentsLeft_6 F n ((x1 + (1 : Int32))) p2.2
        ) else (
        m12_momentsLeft_31 F x1 σ
        )
      )
def m12_momentsLeft (F : Nat)  (σ : Mem) : Option (Int32 × Mem) :=
  Option.bind (m12_keeps F σ) fun p1 =>
  m12_momentsLeft_6 F F (0 : Int32) p1
def m12_all (F : Nat)  (σ : Mem) : Option (Int32 × Mem) :=
  Option.bind (m12_isSmithy F σ) fun p1 =>
  if p1 = (0 : Int32) then (
    some ((-1 : Int32), σ)
    ) else (
    Option.bind (m12_momentsLeft F σ) fun p2 =>
    if p2.1 ≤ (500 : Int32) then (
      gd (inB (5 : Int32) 132 = true) <|
      some (((gI p2.2 493 ((5 : Int32)).toNatClampNeg) + p2.1), p2.2)
      ) else (
      some ((-2 : Int32), p2.2)
      )
    )
def m12_power_4 (F : Nat) (i1 : Int32) (σ : Mem) : Nat → Int32 → Int32 → Option (Int32)
  | 0, _, _ => none
  | n + 1, x2, x3 =>
    gd (inB (3 : Int32) 132 = true) <|
    if (i1 * (gI σ 493 ((3 : Int32)).toNatClampNeg)) ≤ x3 then (
      some x2
      ) else (
      m12_power_4 F i1 σ n ((x2 * (2 : Int32))) ((x3 + (1 : Int32)))
      )
def m12_power (F : Nat) (i1 : Int32) (σ : Mem) : Option (Int32) :=
  m12_power_4 F i1 σ F (1 : Int32) (0 : Int32)
def m12_setIn (F : Nat) (i1 : Int32) (i2 : Int32) (i3 : Int32) (σ : Mem) : Option (Int32) :=
  Option.bind (m12_power F (((i2 - (1 : Int32)) - i3)) σ) fun p1 =>
  gd (¬ p1 = 0) <|
  Option.bind (m12_power F (1 : Int32) σ) fun p2 =>
  gd (¬ p2 = 0) <|
  some ((remI (i1 / p1) p2))
def m12_blowsBy_9 (F : Nat) (i1 : Int32) (i2 : Int32) : Nat → Int32 → Int32 → Mem → Option (Int32 × Mem)
  | 0, _, _, _ => none
  | n + 1, x3, x4, σ =>
    if i2 ≤ x4 then (
      let σ1 : Mem := sI σ 483 24 (-1 : Int32)
      Option.bind (m12_laysBack F σ1) fun p2 =>
      some (x3, p2)
      ) else (
      Option.bind (m12_setIn F i1 i2 x4 σ) fun p3 =>
      let σ4 : Mem := sI σ 483 24 p3
      Option.bind (m12_passes F σ4) fun p5 =>
      m12_blowsBy_9 F i1 i2 n (x3 + p5.1) ((x4 + (1 : Int32))) p5.2
      )
def m12_blowsBy (F : Nat) (i1 : Int32) (i2 : Int32) (σ : Mem) : Option (Int32 × Mem) :=
  Option.bind (m12_keeps F σ) fun p1 =>
  m12_blowsBy_9 F i1 i2 F (0 : Int32) (0 : Int32) p1
def m12_rota_41 (F : Nat) (i1 : Int32) (i2 : Int32) : Nat → Int32 → Int32 → Int32 → Mem → Option (Int32 × Mem)
  | 0, _, _, _, _ => none
  | n + 1, x3, x4, x5, σ =>
    Option.bind (m12_power F i1 σ) fun p1 =>
    if p1 ≤ x5 then (
      if i2 = (0 : Int32) then (
        some (x4, σ)
        ) else (
        if i2 ≤ i1 then (
          Option.bind (m12_setIn F x3 i1 ((i2 - (1 : Int32))) σ) fun p2 =>
          some (p2, σ)
          ) else (
          some ((-2 : Int32), σ)
          )
        )
      ) else (
      Option.bind (m12_blowsBy F x5 i1 σ) fun p3 =>
      if x3 < (0 : Int32) then (
        m12_rota_41 F i1 i2 n x5 p3.1 ((x5 + (1 : Int32))) p3.2
        ) else (
        if x4 < p3.1 then (
          m12_rota_41 F i1 i2 n x5 p3.1 ((x5 + (1 : Int32))) p3.2
          ) else (
          m12_rota_41 F i1 i2 n x3 x4 ((x5 + (1 : Int32))) p3.2
          )
        )
      )
def m12_rota (F : Nat) (i1 : Int32) (i2 : Int32) (σ : Mem) : Option (Int32 × Mem) :=
  Option.bind (m12_isSmithy F σ) fun p1 =>
  if p1 = (0 : Int32) then (
    some ((-1 : Int32), σ)
    ) else (
    Option.bind (m12_in F ((i1).toInt64) (1 : Int64) (4 : Int64) σ) fun p2 =>
    if p2 = (0 : Int32) then (
      some ((-1 : Int32), σ)
      ) else (
      Option.bind (m12_in F ((i2).toInt64) (0 : Int64) (4 : Int64) σ) fun p3 =>
      if p3 = (0 : Int32) then (
        some ((-1 : Int32), σ)
        ) else (
        m12_rota_41 F i1 i2 F (-1 : Int32) (0 : Int32) (0 : Int32) σ
        )
      )
    )
def m12_heatsThen_58 (F : Nat) (i1 : Int32) : Nat → Int32 → Int32 → Mem → Option (Int32 × Mem)
  | 0, _, _, _ => none
  | n + 1, x3, x4, σ =>
    if x4 < (0 : Int32) then (
      some (x3, σ)
      ) else (
      Option.bind (m12_smithOf F x4 (0 : Int32) σ) fun p1 =>
      m12_heatsThen_58 F i1 n ((((100 : Int32) * x3) + p1)) ((x4 + (-1 : Int32))) σ
      )
def m12_heatsThen_4 (F : Nat) (i1 : Int32) : Nat → Int32 → Int32 → Mem → Option (Int32 × Mem)
  | 0, _, _, _ => none
  | n + 1, x2, x3, σ =>
    gd (inB (3 : Int32) 132 = true) <|
    if (gI σ 493 ((3 : Int32)).toNatClampNeg) ≤ x3 then (
      Option.bind (m12_passes F σ) fun p1 =>
      gd (inB (3 : Int32) 132 = true) <|
      m12_heatsThen_58 F i1 F (0 : Int32) (((gI p1.2 493 ((3 : Int32)).toNatClampNeg) - (1 : Int32))) p1.2
      ) else (
      gd (inB ((10 : Int32) + ((7 : Int32) * x3)) 132 = true) <|
      let σ2 : Mem := sI σ 493 (((10 : Int32) + ((7 : Int32) * x3))).toNatClampNeg ((remI x2 (100 : Int32)))
      m12_heatsThen_4 F i1 n ((x2 / (100 : Int32))) ((x3 + (1 : Int32))) σ2
      )
def m12_heatsThen (F : Nat) (i1 : Int32) (σ : Mem) : Option (Int32 × Mem) :=
  m12_heatsThen_4 F i1 F i1 (0 : Int32) σ
def m12_roundNow_106 (F : Nat) (k88 : Int32 → Int32 → Int32 → Mem → Option (Int32 × Mem)) : Nat → Int32 → Int32 → Int32 → Int32 → Mem → Option (Int32 × Mem)
  | 0, _, _, _, _, _ => none
  | n + 1, x1, x2, x3, x4, σ =>
    gd (inB (3 : Int32) 132 = true) <|
    if (gI σ 493 ((3 : Int32)).toNatClampNeg) ≤ x4 then (
      k88 x1 x2 ((x3 + (1 : Int32))) σ
      ) else (
      gd (inB x4 3 = true) <|
      gd (inB x4 3 = true) <|
      gd (inB x4 3 = true) <|
      let σ1 : Mem := sI σ 499 (x4).toNatClampNeg (((gI σ 499 (x4).toNatClampNeg) + (gI σ 496 (x4).toNatClampNeg)))
      m12_roundNow_106 F k88 n x1 x2 x3 ((x4 + (1 : Int32))) σ1
      )
def m12_roundNow_97 (F : Nat) (k88 : Int32 → Int32 → Int32 → Mem → Option (Int32 × Mem)) (x1 : Int32) (x2 : Int32) (x3 : Int32) (σ : Mem) : Option (Int32 × Mem) :=
  Option.bind (m12_heatsThen F x2 σ) fun p1 =>
  m12_roundNow_106 F (fun x1 x2 x3 σ => k88 x1 x2 x3 σ) F x1 p1.1 x3 (0 : Int32) p1.2
def m12_roundNow_88 (F : Nat) : Nat → Int32 → Int32 → Int32 → Mem → Option (Int32 × Mem)
  | 0, _, _, _, _ => none
  | n + 1, x1, x2, x3, σ =>
    if x3 = (0 : Int32) then (
      m12_roundNow_97 F (fun x1 x2 x3 σ => m12_roundNow_88 F n x1 x2 x3 σ) x1 x2 x3 σ
      ) else (
      if x2 = x1 then (
        some (x3, σ)
        ) else (
        m12_roundNow_97 F (fun x1 x2 x3 σ => m12_roundNow_88 F n x1 x2 x3 σ) x1 x2 x3 σ
        )
      )
def m12_roundNow_68 (F : Nat) : Nat → Int32 → Int32 → Int32 → Int32 → Mem → Option (Int32 × Mem)
  | 0, _, _, _, _, _ => none
  | n + 1, x1, x2, x3, x4, σ =>
    if (3 : Int32) ≤ x4 then (
      m12_roundNow_88 F F x1 x2 x3 σ
      ) else (
      gd (inB x4 3 = true) <|
      let σ1 : Mem := sI σ 499 (x4).toNatClampNeg (0 : Int32)
      m12_roundNow_68 F n x1 x2 x3 ((x4 + (1 : Int32))) σ1
      )
def m12_roundNow_39 (F : Nat) : Nat → Int32 → Int32 → Mem → Option (Int32 × Mem)
  | 0, _, _, _ => none
  | n + 1, x1, x2, σ =>
    if x1 = x2 then (
      m12_roundNow_68 F F x1 x2 (0 : Int32) (0 : Int32) σ
      ) else (
      Option.bind (m12_heatsThen F x1 σ) fun p1 =>
      Option.bind (m12_heatsThen F x2 p1.2) fun p2 =>
      Option.bind (m12_heatsThen F p2.1 p2.2) fun p3 =>
      m12_roundNow_39 F n p1.1 p3.1 p3.2
      )
def m12_roundNow_11 (F : Nat) : Nat → Int32 → Int32 → Mem → Option (Int32 × Mem)
  | 0, _, _, _ => none
  | n + 1, x1, x2, σ =>
    if x2 < (0 : Int32) then (
      Option.bind (m12_heatsThen F x1 σ) fun p1 =>
      m12_roundNow_39 F F x1 p1.1 p1.2
      ) else (
      Option.bind (m12_smithOf F x2 (0 : Int32) σ) fun p2 =>
      m12_roundNow_11 F n ((((100 : Int32) * x1) + p2)) ((x2 + (-1 : Int32))) σ
      )
def m12_roundNow (F : Nat)  (σ : Mem) : Option (Int32 × Mem) :=
  gd (inB (3 : Int32) 132 = true) <|
  m12_roundNow_11 F F (0 : Int32) (((gI σ 493 ((3 : Int32)).toNatClampNeg) - (1 : Int32))) σ
def m12_round (F : Nat) (i1 : Int32) (σ : Mem) : Option (Int32 × Mem) :=
  Option.bind (m12_isSmithy F σ) fun p1 =>
  if p1 = (0 : Int32) then (
    some ((-1 : Int32), σ)
    ) else (
    Option.bind (m12_in F ((i1).toInt64) (0 : Int64) (3 : Int64) σ) fun p2 =>
    if p2 = (0 : Int32) then (
      some ((-1 : Int32), σ)
      ) else (
      Option.bind (m12_keeps F σ) fun p3 =>
      let σ4 : Mem := sI p3 483 25 (1 : Int32)
      Option.bind (m12_roundNow F σ4) fun p5 =>
      let σ6 : Mem := sI p5.2 483 25 (0 : Int32)
      Option.bind (m12_laysBack F σ6) fun p7 =>
      if i1 = (0 : Int32) then (
        some (p5.1, p7)
        ) else (
        gd (inB (3 : Int32) 132 = true) <|
        if i1 ≤ (gI p7 493 ((3 : Int32)).toNatClampNeg) then (
          gd (inB (i1 - (1 : Int32)) 3 = true) <|
          some ((gI p7 499 ((i1 - (1 : Int32))).toNatClampNeg), p7)
          ) else (
          some ((-2 : Int32), p7)
          )
        )
      )
    )
def m12_ninth_4 (F : Nat) (i0 : Int32) (σ : Mem) : Nat → Int32 → Int32 → Option (Int32)
  | 0, _, _ => none
  | n + 1, x1, x2 =>
    if i0 ≤ x2 then (
      some x1
      ) else (
      m12_ninth_4 F i0 σ n ((x1 * (9 : Int32))) ((x2 + (1 : Int32)))
      )
def m12_ninth (F : Nat) (i0 : Int32) (σ : Mem) : Option (Int32) :=
  m12_ninth_4 F i0 σ F (1 : Int32) (0 : Int32)
def m12_jobIn (F : Nat) (i1 : Int32) (i2 : Int32) (σ : Mem) : Option (Int32) :=
  gd (inB (3 : Int32) 132 = true) <|
  Option.bind (m12_ninth F ((((gI σ 493 ((3 : Int32)).toNatClampNeg) - (1 : Int32)) - i2)) σ) fun p1 =>
  gd (¬ p1 = 0) <|
  some (((remI (i1 / p1) (9 : Int32)) - (1 : Int32)))
def m12_countsBeside_140 (F : Nat) (i1 : Int32) : Nat → Int32 → Mem → Option (Mem)
  | 0, _, _ => none
  | n + 1, x5, σ =>
    gd (inB (3 : Int32) 132 = true) <|
    if (gI σ 493 ((3 : Int32)).toNatClampNeg) ≤ x5 then (
      some σ
      ) else (
      Option.bind (m12_jobIn F i1 x5 σ) fun p1 =>
      gd (inB x5 3 = true) <|
      let σ2 : Mem := sI σ 500 (x5).toNatClampNeg p1
      m12_countsBeside_140 F i1 n ((x5 + (1 : Int32))) σ2
      )
def m12_countsBeside_126 (F : Nat) (i1 : Int32) (x3 : Int32) (x4 : Int32) (σ : Mem) : Option (Mem) :=
  let σ1 : Mem := sI σ 483 38 x3
  let σ2 : Mem := sI σ1 483 39 x4
  m12_countsBeside_140 F i1 F (0 : Int32) σ2
def m12_countsBeside_10 (F : Nat) (i1 : Int32) : Nat → Int32 → Int32 → Int32 → Int32 → Mem → Option (Mem)
  | 0, _, _, _, _, _ => none
  | n + 1, x2, x3, x4, x5, σ =>
    gd (inB (3 : Int32) 132 = true) <|
    if (gI σ 493 ((3 : Int32)).toNatClampNeg) ≤ x5 then (
      if x3 < (gI σ 483 38) then (
        some σ
        ) else (
        if x3 = (gI σ 483 38) then (
          if (gI σ 483 39) < x4 then (
            m12_countsBeside_126 F i1 x3 x4 σ
            ) else (
            some σ
            )
          ) else (
          m12_countsBeside_126 F i1 x3 x4 σ
          )
        )
      ) else (
      Option.bind (m12_jobIn F i1 x5 σ) fun p1 =>
      if (0 : Int32) ≤ p1 then (
        Option.bind (m12_isJob F p1 σ) fun p2 =>
        if p2 = (0 : Int32) then (
          some σ
          ) else (
          Option.bind (m12_isOpen F p1 x5 σ) fun p3 =>
          if p3 = (0 : Int32) then (
            some σ
            ) else (
            Option.bind (m12_needs F p1 σ) fun p4 =>
            if (p4 &&& x2) = (0 : Int32) then (
              Option.bind (m12_needs F p1 σ) fun p5 =>
              Option.bind (m12_jobOf F p1 (4 : Int32) σ) fun p6 =>
              m12_countsBeside_10 F i1 n (x2 ||| p5) ((x3 + (1 : Int32))) (x4 + p6) ((x5 + (1 : Int32))) σ
              ) else (
              some σ
              )
            )
          )
        ) else (
        m12_countsBeside_10 F i1 n x2 x3 x4 ((x5 + (1 : Int32))) σ
        )
      )
def m12_countsBeside (F : Nat) (i1 : Int32) (σ : Mem) : Option (Mem) :=
  m12_countsBeside_10 F i1 F (0 : Int32) (0 : Int32) (0 : Int32) (0 : Int32) σ
def m12_beside_54 (F : Nat) (i1 : Int32) : Nat → Int32 → Mem → Option (Int32 × Mem)
  | 0, _, _ => none
  | n + 1, x2, σ =>
    gd (inB (3 : Int32) 132 = true) <|
    Option.bind (m12_ninth F ((gI σ 493 ((3 : Int32)).toNatClampNeg)) σ) fun p1 =>
    if p1 ≤ x2 then (
      if (2 : Int32) ≤ i1 then (
        gd (inB (3 : Int32) 132 = true) <|
        if (gI σ 493 ((3 : Int32)).toNatClampNeg) ≤ (i1 - (2 : Int32)) then (
          some ((-2 : Int32), σ)
          ) else (
          gd (inB (i1 - (2 : Int32)) 3 = true) <|
          some ((gI σ 500 ((i1 - (2 : Int32))).toNatClampNeg), σ)
          )
        ) else (
        if i1 = (0 : Int32) then (
          some ((gI σ 483 38), σ)
          ) else (
          some ((gI σ 483 39), σ)
          )
        )
      ) else (
      Option.bind (m12_countsBeside F x2 σ) fun p2 =>
      m12_beside_54 F i1 n ((x2 + (1 : Int32))) p2
      )
def m12_beside_34 (F : Nat) (i1 : Int32) : Nat → Int32 → Mem → Option (Int32 × Mem)
  | 0, _, _ => none
  | n + 1, x2, σ =>
    if (3 : Int32) ≤ x2 then (
      m12_beside_54 F i1 F (0 : Int32) σ
      ) else (
      gd (inB x2 3 = true) <|
      let σ1 : Mem := sI σ 500 (x2).toNatClampNeg (-1 : Int32)
      m12_beside_34 F i1 n ((x2 + (1 : Int32))) σ1
      )
def m12_beside (F : Nat) (i1 : Int32) (σ : Mem) : Option (Int32 × Mem) :=
  Option.bind (m12_isSmithy F σ) fun p1 =>
  if p1 = (0 : Int32) then (
    some ((-3 : Int32), σ)
    ) else (
    Option.bind (m12_in F ((i1).toInt64) (0 : Int64) (4 : Int64) σ) fun p2 =>
    if p2 = (0 : Int32) then (
      some ((-3 : Int32), σ)
      ) else (
      let σ3 : Mem := sI σ 483 38 (0 : Int32)
      let σ4 : Mem := sI σ3 483 39 (0 : Int32)
      m12_beside_34 F i1 F (0 : Int32) σ4
      )
    )
def m12_othersBlows_23 (F : Nat) (i1 : Int32) (i2 : Int32) (k9 : Int32 → Int32 → Mem → Option (Int32 × Mem)) : Nat → Int32 → Int32 → Int32 → Mem → Option (Int32 × Mem)
  | 0, _, _, _, _ => none
  | n + 1, x3, x4, x5, σ =>
    gd (inB (3 : Int32) 132 = true) <|
    if (gI σ 493 ((3 : Int32)).toNatClampNeg) ≤ x5 then (
      k9 x3 ((x4 + (1 : Int32))) σ
      ) else (
      if x5 = i1 then (
        m12_othersBlows_23 F i1 i2 k9 n ((x3 + (0 : Int32))) x4 ((x5 + (1 : Int32))) σ
        ) else (
        gd (inB x5 3 = true) <|
        m12_othersBlows_23 F i1 i2 k9 n ((x3 + (gI σ 496 (x5).toNatClampNeg))) x4 ((x5 + (1 : Int32))) σ
        )
      )
def m12_othersBlows_9 (F : Nat) (i1 : Int32) (i2 : Int32) : Nat → Int32 → Int32 → Mem → Option (Int32 × Mem)
  | 0, _, _, _ => none
  | n + 1, x3, x4, σ =>
    if i2 ≤ x4 then (
      Option.bind (m12_laysBack F σ) fun p1 =>
      some (x3, p1)
      ) else (
      Option.bind (m12_passes F σ) fun p2 =>
      m12_othersBlows_23 F i1 i2 (fun x3 x4 σ => m12_othersBlows_9 F i1 i2 n x3 x4 σ) F x3 x4 (0 : Int32) p2.2
      )
def m12_othersBlows (F : Nat) (i1 : Int32) (i2 : Int32) (σ : Mem) : Option (Int32 × Mem) :=
  Option.bind (m12_keeps F σ) fun p1 =>
  m12_othersBlows_9 F i1 i2 F (0 : Int32) (0 : Int32) p1
def m12_worth (F : Nat) (i1 : Int32) (i2 : Int32) (σ : Mem) : Option (Int32 × Mem) :=
  Option.bind (m12_isSmith F i1 σ) fun p1 =>
  if p1 = (0 : Int32) then (
    some ((-100000 : Int32), σ)
    ) else (
    Option.bind (m12_in F ((i2).toInt64) (1 : Int64) (60 : Int64) σ) fun p2 =>
    if p2 = (0 : Int32) then (
      some ((-100000 : Int32), σ)
      ) else (
      Option.bind (m12_othersBlows F i1 i2 σ) fun p3 =>
      let σ4 : Mem := sI p3.2 483 23 i1
      Option.bind (m12_othersBlows F i1 i2 σ4) fun p5 =>
      let σ6 : Mem := sI p5.2 483 23 (-1 : Int32)
      some ((p5.1 - p3.1), σ6)
      )
    )
def m12_splits_127 (F : Nat) (i1 : Int32) (i2 : Int32) (x3 : Int32) (x4 : Int32) (σ : Mem) : Option (Int32 × Mem) :=
  Option.bind (m12_laysBack F σ) fun p1 =>
  if i2 = (0 : Int32) then (
    some (x3, p1)
    ) else (
    some (x4, p1)
    )
def m12_splits_66 (F : Nat) (i1 : Int32) (i2 : Int32) : Nat → Int32 → Int32 → Int32 → Mem → Option (Int32 × Mem)
  | 0, _, _, _, _ => none
  | n + 1, x3, x4, x5, σ =>
    if (500 : Int32) ≤ x5 then (
      m12_splits_127 F i1 i2 x3 x4 σ
      ) else (
      if (0 : Int32) ≤ x3 then (
        m12_splits_127 F i1 i2 x3 x4 σ
        ) else (
        Option.bind (m12_passes F σ) fun p1 =>
        gd (inB ((95 : Int32) + i1) 132 = true) <|
        gd (inB (2 : Int32) 132 = true) <|
        if (gI p1.2 493 ((2 : Int32)).toNatClampNeg) ≤ (gI p1.2 493 (((95 : Int32) + i1)).toNatClampNeg) then (
          gd (inB (5 : Int32) 132 = true) <|
          gd (inB i1 3 = true) <|
          m12_splits_66 F i1 i2 n (((gI p1.2 493 ((5 : Int32)).toNatClampNeg) - (1 : Int32))) ((gI p1.2 495 (i1).toNatClampNeg)) ((x5 + (1 : Int32))) p1.2
          ) else (
          m12_splits_66 F i1 i2 n x3 x4 ((x5 + (1 : Int32))) p1.2
          )
        )
      )
def m12_splits (F : Nat) (i1 : Int32) (i2 : Int32) (σ : Mem) : Option (Int32 × Mem) :=
  Option.bind (m12_isSmithy F σ) fun p1 =>
  if p1 = (0 : Int32) then (
    some ((-3 : Int32), σ)
    ) else (
    Option.bind (m12_in F ((i1).toInt64) (0 : Int64) (2 : Int64) σ) fun p2 =>
    if p2 = (0 : Int32) then (
      some ((-3 : Int32), σ)
      ) else (
      Option.bind (m12_in F ((i2).toInt64) (0 : Int64) (1 : Int64) σ) fun p3 =>
      if p3 = (0 : Int32) then (
        some ((-3 : Int32), σ)
        ) else (
        gd (inB ((95 : Int32) + i1) 132 = true) <|
        gd (inB (2 : Int32) 132 = true) <|
        if (gI σ 493 (((95 : Int32) + i1)).toNatClampNeg) < (gI σ 493 ((2 : Int32)).toNatClampNeg) then (
          Option.bind (m12_keeps F σ) fun p4 =>
          m12_splits_66 F i1 i2 F (-2 : Int32) (-2 : Int32) (0 : Int32) p4
          ) else (
          some ((-1 : Int32), σ)
          )
        )
      )
    )
def m12_orders_4 (F : Nat) (i0 : Int32) (σ : Mem) : Nat → Int32 → Int32 → Option (Int32)
  | 0, _, _ => none
  | n + 1, x1, x2 =>
    if i0 < x2 then (
      some x1
      ) else (
      m12_orders_4 F i0 σ n (x1 * x2) ((x2 + (1 : Int32)))
      )
def m12_orders (F : Nat) (i0 : Int32) (σ : Mem) : Option (Int32) :=
  m12_orders_4 F i0 σ F (1 : Int32) (2 : Int32)
def m12_laysOrder_59 (F : Nat) (i1 : Int32) (i2 : Int32) (k45 : Int32 → Int32 → Int32 → Int32 → Int32 → Mem → Option (Mem)) (x3 : Int32) (x4 : Int32) (x5 : Int32) (x6 : Int32) (x7 : Int32) (σ : Mem) : Option (Mem) :=
  Option.bind (m12_isOf F x3 x7 σ) fun p1 =>
  if p1 = (0 : Int32) then (
    k45 x3 x4 x5 ((x6 - (1 : Int32))) ((x7 + (1 : Int32))) σ
    ) else (
    k45 x3 x4 x5 ((x6 - (0 : Int32))) ((x7 + (1 : Int32))) σ
    )
def m12_laysOrder_45 (F : Nat) (i1 : Int32) (i2 : Int32) (k8 : Int32 → Int32 → Int32 → Mem → Option (Mem)) : Nat → Int32 → Int32 → Int32 → Int32 → Int32 → Mem → Option (Mem)
  | 0, _, _, _, _, _, _ => none
  | n + 1, x3, x4, x5, x6, x7, σ =>
    Option.bind (m12_isOf F x3 x7 σ) fun p1 =>
    if p1 = (0 : Int32) then (
      if x6 ≤ (0 : Int32) then (
        gd (inB x7 8 = true) <|
        gd (inB x5 5 = true) <|
        let σ2 : Mem := sI σ 502 (x5).toNatClampNeg ((gI σ 501 (x7).toNatClampNeg))
        k8 ((x3 ||| ((1 : Int32) <<< (x7 &&& (31 : Int32))))) x4 ((x5 + (1 : Int32))) σ2
        ) else (
        m12_laysOrder_59 F i1 i2 (fun x3 x4 x5 x6 x7 σ => m12_laysOrder_45 F i1 i2 k8 n x3 x4 x5 x6 x7 σ) x3 x4 x5 x6 x7 σ
        )
      ) else (
      m12_laysOrder_59 F i1 i2 (fun x3 x4 x5 x6 x7 σ => m12_laysOrder_45 F i1 i2 k8 n x3 x4 x5 x6 x7 σ) x3 x4 x5 x6 x7 σ
      )
def m12_laysOrder_8 (F : Nat) (i1 : Int32) (i2 : Int32) : Nat → Int32 → Int32 → Int32 → Mem → Option (Mem)
  | 0, _, _, _, _ => none
  | n + 1, x3, x4, x5, σ =>
    if i2 ≤ x5 then (
      some σ
      ) else (
      Option.bind (m12_orders F (((i2 - (1 : Int32)) - x5)) σ) fun p1 =>
      gd (¬ p1 = 0) <|
      Option.bind (m12_orders F (((i2 - (1 : Int32)) - x5)) σ) fun p2 =>
      gd (¬ p2 = 0) <|
      m12_laysOrder_45 F i1 i2 (fun x3 x4 x5 σ => m12_laysOrder_8 F i1 i2 n x3 x4 x5 σ) F x3 (remI x4 p2) x5 (x4 / p1) (0 : Int32) σ
      )
def m12_laysOrder (F : Nat) (i1 : Int32) (i2 : Int32) (σ : Mem) : Option (Mem) :=
  m12_laysOrder_8 F i1 i2 F (0 : Int32) i1 (0 : Int32) σ
def m12_momentsBy_96 (F : Nat) (i1 : Int32) (i2 : Int32) (x3 : Int32) (σ : Mem) : Option (Int32 × Mem) :=
  Option.bind (m12_laysBack F σ) fun p1 =>
  some (x3, p1)
def m12_momentsBy_85 (F : Nat) (i1 : Int32) (i2 : Int32) (k62 : Int32 → Int32 → Mem → Option (Int32 × Mem)) (x3 : Int32) (x4 : Int32) (σ : Mem) : Option (Int32 × Mem) :=
  Option.bind (m12_passes F σ) fun p1 =>
  k62 x3 ((x4 + (1 : Int32))) p1.2
def m12_momentsBy_62 (F : Nat) (i1 : Int32) (i2 : Int32) : Nat → Int32 → Int32 → Mem → Option (Int32 × Mem)
  | 0, _, _, _ => none
  | n + 1, x3, x4, σ =>
    if (500 : Int32) < x4 then (
      m12_momentsBy_96 F i1 i2 x3 σ
      ) else (
      if (0 : Int32) ≤ x3 then (
        m12_momentsBy_96 F i1 i2 x3 σ
        ) else (
        Option.bind (m12_openMany F i1 σ) fun p1 =>
        if p1 = (0 : Int32) then (
          m12_momentsBy_85 F i1 i2 (fun x3 x4 σ => m12_momentsBy_62 F i1 i2 n x3 x4 σ) x4 x4 σ
          ) else (
          m12_momentsBy_85 F i1 i2 (fun x3 x4 σ => m12_momentsBy_62 F i1 i2 n x3 x4 σ) x3 x4 σ
          )
        )
      )
def m12_momentsBy_36 (F : Nat) (i1 : Int32) (i2 : Int32) : Nat → Int32 → Int32 → Mem → Option (Int32 × Mem)
  | 0, _, _, _ => none
  | n + 1, x3, x4, σ =>
    if i2 ≤ x4 then (
      m12_momentsBy_62 F i1 i2 F x3 (0 : Int32) σ
      ) else (
      gd (inB x4 5 = true) <|
      Option.bind (m12_putsBehind F ((gI σ 502 (x4).toNatClampNeg)) σ) fun p1 =>
      m12_momentsBy_36 F i1 i2 n x3 ((x4 + (1 : Int32))) p1
      )
def m12_momentsBy (F : Nat) (i1 : Int32) (i2 : Int32) (σ : Mem) : Option (Int32 × Mem) :=
  Option.bind (m12_keeps F σ) fun p1 =>
  gd (inB (0 : Int32) 5 = true) <|
  Option.bind (m12_jobNow F i1 p1) fun p2 =>
  if (gI p1 502 ((0 : Int32)).toNatClampNeg) = p2 then (
    m12_momentsBy_36 F i1 i2 F (-1 : Int32) (0 : Int32) p1
    ) else (
    gd (inB ((10 : Int32) + ((7 : Int32) * i1)) 132 = true) <|
    let σ3 : Mem := sI p1 493 (((10 : Int32) + ((7 : Int32) * i1))).toNatClampNeg (0 : Int32)
    m12_momentsBy_36 F i1 i2 F (-1 : Int32) (0 : Int32) σ3
    )
def m12_order_153 (F : Nat) (i1 : Int32) (i2 : Int32) (k102 : Int32 → Int32 → Int32 → Mem → Option (Int32 × Mem)) : Nat → Int32 → Int32 → Int32 → Int32 → Mem → Option (Int32 × Mem)
  | 0, _, _, _, _, _ => none
  | n + 1, x3, x4, x5, x7, σ =>
    if x3 ≤ x7 then (
      k102 x3 x4 ((x5 + (1 : Int32))) σ
      ) else (
      gd (inB x7 5 = true) <|
      gd (inB x7 5 = true) <|
      let σ1 : Mem := sI σ 503 (x7).toNatClampNeg ((gI σ 502 (x7).toNatClampNeg))
      m12_order_153 F i1 i2 k102 n x3 x4 x5 ((x7 + (1 : Int32))) σ1
      )
def m12_order_102 (F : Nat) (i1 : Int32) (i2 : Int32) : Nat → Int32 → Int32 → Int32 → Mem → Option (Int32 × Mem)
  | 0, _, _, _, _ => none
  | n + 1, x3, x4, x5, σ =>
    Option.bind (m12_orders F x3 σ) fun p1 =>
    if p1 ≤ x5 then (
      if x4 < (0 : Int32) then (
        some ((-2 : Int32), σ)
        ) else (
        if i2 ≤ x3 then (
          if i2 = (0 : Int32) then (
            gd (inB (5 : Int32) 132 = true) <|
            some (((gI σ 493 ((5 : Int32)).toNatClampNeg) + x4), σ)
            ) else (
            gd (inB (i2 - (1 : Int32)) 5 = true) <|
            some ((gI σ 503 ((i2 - (1 : Int32))).toNatClampNeg), σ)
            )
          ) else (
          some ((-2 : Int32), σ)
          )
        )
      ) else (
      Option.bind (m12_laysOrder F x5 x3 σ) fun p2 =>
      Option.bind (m12_momentsBy F i1 x3 p2) fun p3 =>
      if p3.1 < (0 : Int32) then (
        m12_order_102 F i1 i2 n x3 x4 ((x5 + (1 : Int32))) p3.2
        ) else (
        if x4 < (0 : Int32) then (
          m12_order_153 F i1 i2 (fun x3 x4 x5 σ => m12_order_102 F i1 i2 n x3 x4 x5 σ) F x3 p3.1 x5 (0 : Int32) p3.2
          ) else (
          if p3.1 < x4 then (
            m12_order_153 F i1 i2 (fun x3 x4 x5 σ => m12_order_102 F i1 i2 n x3 x4 x5 σ) F x3 p3.1 x5 (0 : Int32) p3.2
            ) else (
            m12_order_102 F i1 i2 n x3 x4 ((x5 + (1 : Int32))) p3.2
            )
          )
        )
      )
def m12_order_27 (F : Nat) (i1 : Int32) (i2 : Int32) : Nat → Int32 → Int32 → Mem → Option (Int32 × Mem)
  | 0, _, _, _ => none
  | n + 1, x3, x4, σ =>
    gd (inB (4 : Int32) 132 = true) <|
    if (gI σ 493 ((4 : Int32)).toNatClampNeg) ≤ x4 then (
      if x3 ≤ (5 : Int32) then (
        if x3 = (0 : Int32) then (
          if i2 = (0 : Int32) then (
            gd (inB (5 : Int32) 132 = true) <|
            some ((gI σ 493 ((5 : Int32)).toNatClampNeg), σ)
            ) else (
            some ((-2 : Int32), σ)
            )
          ) else (
          m12_order_102 F i1 i2 F x3 (-1 : Int32) (0 : Int32) σ
          )
        ) else (
        some ((-3 : Int32), σ)
        )
      ) else (
      Option.bind (m12_isOpen F x4 i1 σ) fun p1 =>
      if p1 = (0 : Int32) then (
        m12_order_27 F i1 i2 n x3 ((x4 + (1 : Int32))) σ
        ) else (
        gd (inB x3 8 = true) <|
        let σ2 : Mem := sI σ 501 (x3).toNatClampNeg x4
        m12_order_27 F i1 i2 n ((x3 + (1 : Int32))) ((x4 + (1 : Int32))) σ2
        )
      )
def m12_order (F : Nat) (i1 : Int32) (i2 : Int32) (σ : Mem) : Option (Int32 × Mem) :=
  Option.bind (m12_isSmith F i1 σ) fun p1 =>
  if p1 = (0 : Int32) then (
    some ((-1 : Int32), σ)
    ) else (
    Option.bind (m12_in F ((i2).toInt64) (0 : Int64) (5 : Int64) σ) fun p2 =>
    if p2 = (0 : Int32) then (
      some ((-1 : Int32), σ)
      ) else (
      m12_order_27 F i1 i2 F (0 : Int32) (0 : Int32) σ
      )
    )
def m12_note (F : Nat) (i1 : Int32) (i2 : Int32) (i3 : Int32) (σ : Mem) : Option (Int32 × Mem) :=
  if i1 = (-1 : Int32) then (
    gd (inB (131 : Int32) 132 = true) <|
    let σ1 : Mem := sI σ 493 ((131 : Int32)).toNatClampNeg (0 : Int32)
    some ((0 : Int32), σ1)
    ) else (
    Option.bind (m12_isSmithy F σ) fun p2 =>
    if p2 = (0 : Int32) then (
      some ((-2 : Int32), σ)
      ) else (
      Option.bind (m12_in F ((i1).toInt64) (0 : Int64) (99 : Int64) σ) fun p3 =>
      if p3 = (0 : Int32) then (
        some ((-2 : Int32), σ)
        ) else (
        Option.bind (m12_in F ((i2).toInt64) (0 : Int64) (2 : Int64) σ) fun p4 =>
        if p4 = (0 : Int32) then (
          some ((-2 : Int32), σ)
          ) else (
          Option.bind (m12_in F ((i3).toInt64) (0 : Int64) (9999 : Int64) σ) fun p5 =>
          if p5 = (0 : Int32) then (
            some ((-2 : Int32), σ)
            ) else (
            gd (inB (131 : Int32) 132 = true) <|
            if (gI σ 493 ((131 : Int32)).toNatClampNeg) = (10 : Int32) then (
              some ((-2 : Int32), σ)
              ) else (
              gd (inB (131 : Int32) 132 = true) <|
              gd (inB ((101 : Int32) + ((3 : Int32) * (gI σ 493 ((131 : Int32)).toNatClampNeg))) 132 = true) <|
              let σ6 : Mem := sI σ 493 (((101 : Int32) + ((3 : Int32) * (gI σ 493 ((131 : Int32)).toNatClampNeg)))).toNatClampNeg i1
              gd (inB (((101 : Int32) + ((3 : Int32) * (gI σ 493 ((131 : Int32)).toNatClampNeg))) + (1 : Int32)) 132 = true) <|
              let σ7 : Mem := sI σ6 493 ((((101 : Int32) + ((3 : Int32) * (gI σ 493 ((131 : Int32)).toNatClampNeg))) + (1 : Int32))).toNatClampNeg i2
              gd (inB (((101 : Int32) + ((3 : Int32) * (gI σ 493 ((131 : Int32)).toNatClampNeg))) + (2 : Int32)) 132 = true) <|
              let σ8 : Mem := sI σ7 493 ((((101 : Int32) + ((3 : Int32) * (gI σ 493 ((131 : Int32)).toNatClampNeg))) + (2 : Int32))).toNatClampNeg i3
              gd (inB (131 : Int32) 132 = true) <|
              gd (inB (131 : Int32) 132 = true) <|
              let σ9 : Mem := sI σ8 493 ((131 : Int32)).toNatClampNeg (((gI σ8 493 ((131 : Int32)).toNatClampNeg) + (1 : Int32)))
              gd (inB (131 : Int32) 132 = true) <|
              some ((gI σ9 493 ((131 : Int32)).toNatClampNeg), σ9)
              )
            )
          )
        )
      )
    )
def m12_begins_123 (F : Nat) : Nat → Int32 → Mem → Option (Mem)
  | 0, _, _ => none
  | n + 1, x1, σ =>
    if (3 : Int32) ≤ x1 then (
      some σ
      ) else (
      gd (inB ((98 : Int32) + x1) 132 = true) <|
      gd (inB ((95 : Int32) + x1) 132 = true) <|
      let σ1 : Mem := sI σ 493 (((95 : Int32) + x1)).toNatClampNeg ((gI σ 493 (((98 : Int32) + x1)).toNatClampNeg))
      m12_begins_123 F n ((x1 + (1 : Int32))) σ1
      )
def m12_begins_61 (F : Nat) : Nat → Int32 → Mem → Option (Mem)
  | 0, _, _ => none
  | n + 1, x1, σ =>
    gd (inB (4 : Int32) 132 = true) <|
    if (gI σ 493 ((4 : Int32)).toNatClampNeg) ≤ x1 then (
      m12_begins_123 F F (0 : Int32) σ
      ) else (
      gd (inB (((31 : Int32) + ((8 : Int32) * x1)) + (7 : Int32)) 132 = true) <|
      gd (inB (((31 : Int32) + ((8 : Int32) * x1)) + (2 : Int32)) 132 = true) <|
      let σ1 : Mem := sI σ 493 ((((31 : Int32) + ((8 : Int32) * x1)) + (2 : Int32))).toNatClampNeg ((gI σ 493 ((((31 : Int32) + ((8 : Int32) * x1)) + (7 : Int32))).toNatClampNeg))
      gd (inB (((31 : Int32) + ((8 : Int32) * x1)) + (5 : Int32)) 132 = true) <|
      let σ2 : Mem := sI σ1 493 ((((31 : Int32) + ((8 : Int32) * x1)) + (5 : Int32))).toNatClampNeg (-1 : Int32)
      gd (inB (((31 : Int32) + ((8 : Int32) * x1)) + (6 : Int32)) 132 = true) <|
      let σ3 : Mem := sI σ2 493 ((((31 : Int32) + ((8 : Int32) * x1)) + (6 : Int32))).toNatClampNeg x1
      m12_begins_61 F n ((x1 + (1 : Int32))) σ3
      )
def m12_begins_21 (F : Nat) (k9 : Int32 → Mem → Option (Mem)) : Nat → Int32 → Int32 → Mem → Option (Mem)
  | 0, _, _, _ => none
  | n + 1, x1, x2, σ =>
    if (7 : Int32) ≤ x2 then (
      k9 ((x1 + (1 : Int32))) σ
      ) else (
      if x2 = (5 : Int32) then (
        m12_begins_21 F k9 n x1 ((x2 + (1 : Int32))) σ
        ) else (
        gd (inB (((10 : Int32) + ((7 : Int32) * x1)) + x2) 132 = true) <|
        let σ1 : Mem := sI σ 493 ((((10 : Int32) + ((7 : Int32) * x1)) + x2)).toNatClampNeg (0 : Int32)
        m12_begins_21 F k9 n x1 ((x2 + (1 : Int32))) σ1
        )
      )
def m12_begins_9 (F : Nat) : Nat → Int32 → Mem → Option (Mem)
  | 0, _, _ => none
  | n + 1, x1, σ =>
    gd (inB (3 : Int32) 132 = true) <|
    if (gI σ 493 ((3 : Int32)).toNatClampNeg) ≤ x1 then (
      m12_begins_61 F F (0 : Int32) σ
      ) else (
      m12_begins_21 F (fun x1 σ => m12_begins_9 F n x1 σ) F x1 (0 : Int32) σ
      )
def m12_begins (F : Nat)  (σ : Mem) : Option (Mem) :=
  gd (inB (5 : Int32) 132 = true) <|
  let σ1 : Mem := sI σ 493 ((5 : Int32)).toNatClampNeg (0 : Int32)
  m12_begins_9 F F (0 : Int32) σ1
def m12_areNotesSo_2 (F : Nat) (σ : Mem) : Nat → Int32 → Option (Int32)
  | 0, _ => none
  | n + 1, x1 =>
    gd (inB (131 : Int32) 132 = true) <|
    if (gI σ 493 ((131 : Int32)).toNatClampNeg) ≤ x1 then (
      some (1 : Int32)
      ) else (
      gd (inB ((101 : Int32) + ((3 : Int32) * x1)) 132 = true) <|
      gd (inB (5 : Int32) 132 = true) <|
      if (gI σ 493 (((101 : Int32) + ((3 : Int32) * x1))).toNatClampNeg) = (gI σ 493 ((5 : Int32)).toNatClampNeg) then (
        gd (inB (((101 : Int32) + ((3 : Int32) * x1)) + (1 : Int32)) 132 = true) <|
        gd (inB ((95 : Int32) + (gI σ 493 ((((101 : Int32) + ((3 : Int32) * x1)) + (1 : Int32))).toNatClampNeg)) 132 = true) <|
        gd (inB (((101 : Int32) + ((3 : Int32) * x1)) + (2 : Int32)) 132 = true) <|
        if (gI σ 493 (((95 : Int32) + (gI σ 493 ((((101 : Int32) + ((3 : Int32) * x1)) + (1 : Int32))).toNatClampNeg))).toNatClampNeg) = (gI σ 493 ((((101 : Int32) + ((3 : Int32) * x1)) + (2 : Int32))).toNatClampNeg) then (
          m12_areNotesSo_2 F σ n ((x1 + (1 : Int32)))
          ) else (
          some (0 : Int32)
          )
        ) else (
        m12_areNotesSo_2 F σ n ((x1 + (1 : Int32)))
        )
      )
def m12_areNotesSo (F : Nat)  (σ : Mem) : Option (Int32) :=
  m12_areNotesSo_2 F σ F (0 : Int32)
def m12_gathersRules_116 (F : Nat) (i1 : Int32) (k40 : Int32 → Int32 → Int32 → Mem → Option (Mem)) (x2 : Int32) (x3 : Int32) (x4 : Int32) (σ : Mem) : Option (Mem) :=
  Option.bind (m12_passes F σ) fun p1 =>
  k40 x2 x3 ((x4 + (1 : Int32))) p1.2
def m12_gathersRules_77 (F : Nat) (i1 : Int32) (k40 : Int32 → Int32 → Int32 → Mem → Option (Mem)) : Nat → Int32 → Int32 → Int32 → Int32 → Mem → Option (Mem)
  | 0, _, _, _, _, _ => none
  | n + 1, x2, x3, x4, x5, σ =>
    if (3 : Int32) ≤ x5 then (
      m12_gathersRules_116 F i1 (fun x2 x3 x4 σ => k40 x2 x3 x4 σ) x2 x3 x4 σ
      ) else (
      if x4 = i1 then (
        gd (inB ((95 : Int32) + x5) 132 = true) <|
        gd (inB (((3 : Int32) * x3) + x5) 21 = true) <|
        let σ1 : Mem := sI σ 505 ((((3 : Int32) * x3) + x5)).toNatClampNeg ((gI σ 493 (((95 : Int32) + x5)).toNatClampNeg))
        m12_gathersRules_77 F i1 k40 n x2 x3 x4 ((x5 + (1 : Int32))) σ1
        ) else (
        m12_gathersRules_116 F i1 (fun x2 x3 x4 σ => k40 x2 x3 x4 σ) x2 x3 x4 σ
        )
      )
def m12_gathersRules_40 (F : Nat) (i1 : Int32) (k11 : Int32 → Int32 → Mem → Option (Mem)) : Nat → Int32 → Int32 → Int32 → Mem → Option (Mem)
  | 0, _, _, _, _ => none
  | n + 1, x2, x3, x4, σ =>
    if (100 : Int32) ≤ x4 then (
      Option.bind (m12_laysBack F σ) fun p1 =>
      k11 x2 ((x3 + (1 : Int32))) p1
      ) else (
      gd (inB x3 7 = true) <|
      if (gI σ 504 (x3).toNatClampNeg) = (0 : Int32) then (
        gd (inB x3 7 = true) <|
        let σ2 : Mem := sI σ 504 (x3).toNatClampNeg (((0 : Int32) &&& (1 : Int32)))
        m12_gathersRules_77 F i1 (fun x2 x3 x4 σ => m12_gathersRules_40 F i1 k11 n x2 x3 x4 σ) F x2 x3 x4 (0 : Int32) σ2
        ) else (
        Option.bind (m12_areNotesSo F σ) fun p3 =>
        if p3 = (0 : Int32) then (
          gd (inB x3 7 = true) <|
          let σ4 : Mem := sI σ 504 (x3).toNatClampNeg (((0 : Int32) &&& (1 : Int32)))
          m12_gathersRules_77 F i1 (fun x2 x3 x4 σ => m12_gathersRules_40 F i1 k11 n x2 x3 x4 σ) F x2 x3 x4 (0 : Int32) σ4
          ) else (
          gd (inB x3 7 = true) <|
          let σ5 : Mem := sI σ 504 (x3).toNatClampNeg (((1 : Int32) &&& (1 : Int32)))
          m12_gathersRules_77 F i1 (fun x2 x3 x4 σ => m12_gathersRules_40 F i1 k11 n x2 x3 x4 σ) F x2 x3 x4 (0 : Int32) σ5
          )
        )
      )
def m12_gathersRules_11 (F : Nat) (i1 : Int32) : Nat → Int32 → Int32 → Mem → Option (Mem)
  | 0, _, _, _ => none
  | n + 1, x2, x3, σ =>
    if (gI σ 483 2) < x3 then (
      let σ1 : Mem := sI σ 483 21 x2
      some σ1
      ) else (
      let σ2 : Mem := sI σ 483 21 ((x3 - (1 : Int32)))
      Option.bind (m12_begins F σ2) fun p3 =>
      gd (inB x3 7 = true) <|
      let σ4 : Mem := sI p3 504 (x3).toNatClampNeg (((1 : Int32) &&& (1 : Int32)))
      m12_gathersRules_40 F i1 (fun x2 x3 σ => m12_gathersRules_11 F i1 n x2 x3 σ) F x2 x3 (0 : Int32) σ4
      )
def m12_gathersRules (F : Nat) (i1 : Int32) (σ : Mem) : Option (Mem) :=
  Option.bind (m12_keeps F σ) fun p1 =>
  m12_gathersRules_11 F i1 F (gI σ 483 21) (0 : Int32) p1
def m12_ruled_36 (F : Nat) (i1 : Int32) : Nat → Int32 → Int32 → Int32 → Mem → Option (Int32 × Mem)
  | 0, _, _, _, _ => none
  | n + 1, x2, x3, x4, σ =>
    if x4 < (0 : Int32) then (
      if i1 = (0 : Int32) then (
        some (x2, σ)
        ) else (
        some (x3, σ)
        )
      ) else (
      gd (inB x4 7 = true) <|
      if (gI σ 504 (x4).toNatClampNeg) = (0 : Int32) then (
        m12_ruled_36 F i1 n x2 x3 ((x4 + (-1 : Int32))) σ
        ) else (
        m12_ruled_36 F i1 n ((x2 + (1 : Int32))) ((x4 - (1 : Int32))) ((x4 + (-1 : Int32))) σ
        )
      )
def m12_ruled (F : Nat) (i1 : Int32) (σ : Mem) : Option (Int32 × Mem) :=
  Option.bind (m12_isSmithy F σ) fun p1 =>
  if p1 = (0 : Int32) then (
    some ((-3 : Int32), σ)
    ) else (
    Option.bind (m12_in F ((i1).toInt64) (0 : Int64) (1 : Int64) σ) fun p2 =>
    if p2 = (0 : Int32) then (
      some ((-3 : Int32), σ)
      ) else (
      Option.bind (m12_gathersRules F (0 : Int32) σ) fun p3 =>
      m12_ruled_36 F i1 F (0 : Int32) (-2 : Int32) (gI p3 483 2) p3
      )
    )
def m12_alikeOf_18 (F : Nat) (i1 : Int32) (σ : Mem) (k4 : Int32 → Int32 → Option (Int32)) : Nat → Int32 → Int32 → Int32 → Int32 → Option (Int32)
  | 0, _, _, _, _ => none
  | n + 1, x2, x3, x4, x5 =>
    if (gI σ 483 2) < x5 then (
      if x4 ≤ x2 then (
        k4 x2 ((x3 + (1 : Int32)))
        ) else (
        k4 x4 ((x3 + (1 : Int32)))
        )
      ) else (
      gd (inB x3 7 = true) <|
      if (gI σ 504 (x3).toNatClampNeg) = (0 : Int32) then (
        m12_alikeOf_18 F i1 σ k4 n x2 x3 ((x4 + (0 : Int32))) ((x5 + (1 : Int32)))
        ) else (
        gd (inB x5 7 = true) <|
        if (gI σ 504 (x5).toNatClampNeg) = (0 : Int32) then (
          m12_alikeOf_18 F i1 σ k4 n x2 x3 ((x4 + (0 : Int32))) ((x5 + (1 : Int32)))
          ) else (
          gd (inB (((3 : Int32) * x3) + i1) 21 = true) <|
          gd (inB (((3 : Int32) * x5) + i1) 21 = true) <|
          if (gI σ 505 ((((3 : Int32) * x3) + i1)).toNatClampNeg) = (gI σ 505 ((((3 : Int32) * x5) + i1)).toNatClampNeg) then (
            m12_alikeOf_18 F i1 σ k4 n x2 x3 ((x4 + (1 : Int32))) ((x5 + (1 : Int32)))
            ) else (
            m12_alikeOf_18 F i1 σ k4 n x2 x3 ((x4 + (0 : Int32))) ((x5 + (1 : Int32)))
            )
          )
        )
      )
def m12_alikeOf_4 (F : Nat) (i1 : Int32) (σ : Mem) : Nat → Int32 → Int32 → Option (Int32)
  | 0, _, _ => none
  | n + 1, x2, x3 =>
    if (gI σ 483 2) < x3 then (
      some x2
      ) else (
      m12_alikeOf_18 F i1 σ (fun x2 x3 => m12_alikeOf_4 F i1 σ n x2 x3) F x2 x3 (0 : Int32) (0 : Int32)
      )
def m12_alikeOf (F : Nat) (i1 : Int32) (σ : Mem) : Option (Int32) :=
  m12_alikeOf_4 F i1 σ F (0 : Int32) (0 : Int32)
def m12_look_41 (F : Nat) (i1 : Int32) (i2 : Int32) : Nat → Int32 → Int32 → Mem → Option (Int32 × Mem)
  | 0, _, _, _ => none
  | n + 1, x3, x4, σ =>
    if (3 : Int32) ≤ x4 then (
      Option.bind (m12_alikeOf F x3 σ) fun p1 =>
      if p1 = (0 : Int32) then (
        some ((-2 : Int32), σ)
        ) else (
        if i2 = (0 : Int32) then (
          some (x3, σ)
          ) else (
          Option.bind (m12_alikeOf F x3 σ) fun p2 =>
          some (p2, σ)
          )
        )
      ) else (
      Option.bind (m12_alikeOf F x4 σ) fun p3 =>
      Option.bind (m12_alikeOf F x3 σ) fun p4 =>
      if p4 ≤ p3 then (
        m12_look_41 F i1 i2 n x3 ((x4 + (1 : Int32))) σ
        ) else (
        m12_look_41 F i1 i2 n x4 ((x4 + (1 : Int32))) σ
        )
      )
def m12_look (F : Nat) (i1 : Int32) (i2 : Int32) (σ : Mem) : Option (Int32 × Mem) :=
  Option.bind (m12_isSmithy F σ) fun p1 =>
  if p1 = (0 : Int32) then (
    some ((-1 : Int32), σ)
    ) else (
    Option.bind (m12_in F ((i1).toInt64) (0 : Int64) (99 : Int64) σ) fun p2 =>
    if p2 = (0 : Int32) then (
      some ((-1 : Int32), σ)
      ) else (
      Option.bind (m12_in F ((i2).toInt64) (0 : Int64) (1 : Int64) σ) fun p3 =>
      if p3 = (0 : Int32) then (
        some ((-1 : Int32), σ)
        ) else (
        Option.bind (m12_gathersRules F i1 σ) fun p4 =>
        m12_look_41 F i1 i2 F (0 : Int32) (1 : Int32) p4
        )
      )
    )
def m12_second_45 (F : Nat) (x2 : Int32) (s0 : Int32) (σ : Mem) : Option (Int32 × Mem) :=
  if x2 ≤ (500 : Int32) then (
    some ((s0 - x2), σ)
    ) else (
    some ((s0 - (500 : Int32)), σ)
    )
def m12_second (F : Nat)  (σ : Mem) : Option (Int32 × Mem) :=
  Option.bind (m12_isSmithy F σ) fun p1 =>
  if p1 = (0 : Int32) then (
    some ((-100000 : Int32), σ)
    ) else (
    Option.bind (m12_momentsLeft F σ) fun p2 =>
    let σ3 : Mem := sI p2.2 483 26 (1 : Int32)
    Option.bind (m12_momentsLeft F σ3) fun p4 =>
    let σ5 : Mem := sI p4.2 483 26 (0 : Int32)
    if p2.1 ≤ (500 : Int32) then (
      m12_second_45 F p4.1 p2.1 σ5
      ) else (
      m12_second_45 F p4.1 (500 : Int32) σ5
      )
    )
def m12_seed (F : Nat) (i1 : Int32) (σ : Mem) : Option (Int32 × Mem) :=
  if (0 : Int32) ≤ i1 then (
    let σ1 : Mem := sI σ 483 22 i1
    some ((gI σ 483 22), σ1)
    ) else (
    some ((-1 : Int32), σ)
    )
def m12_draw (F : Nat) (i1 : Int32) (σ : Mem) : Option (Int32 × Mem) :=
  let σ1 : Mem := sL σ 483 45 ((remL (((gL σ 483 45) * (1103515245 : Int64)) + (12345 : Int64)) (2147483648 : Int64)))
  gd (¬ (i1).toInt64 = 0) <|
  some (((remL ((gL σ1 483 45) / (65536 : Int64)) (i1).toInt64)).toInt32, σ1)
def m12_countOf_4 (F : Nat) (i1 : Int32) (σ : Mem) : Nat → Int32 → Int32 → Option (Int32)
  | 0, _, _ => none
  | n + 1, x2, x3 =>
    gd (inB (3 : Int32) 132 = true) <|
    if (gI σ 493 ((3 : Int32)).toNatClampNeg) ≤ x3 then (
      some x2
      ) else (
      Option.bind (m12_smithOf F x3 i1 σ) fun p1 =>
      m12_countOf_4 F i1 σ n (x2 + p1) ((x3 + (1 : Int32)))
      )
def m12_countOf (F : Nat) (i1 : Int32) (σ : Mem) : Option (Int32) :=
  m12_countOf_4 F i1 σ F (0 : Int32) (0 : Int32)
def m12_days_116 (F : Nat) (i1 : Int32) (i2 : Int32) (i3 : Int32) (i4 : Int32) (k94 : Int32 → Int32 → Int32 → Int32 → Int32 → Mem → Option (Int32 × Mem)) (x5 : Int32) (x6 : Int32) (x7 : Int32) (x8 : Int32) (x9 : Int32) (s1 : Int32) (σ : Mem) : Option (Int32 × Mem) :=
  gd (s1 = (0 : Int32) ∨ s1 = (1 : Int32)) <|
  let σ1 : Mem := sI σ 483 28 s1
  Option.bind (m12_passes F σ1) fun p2 =>
  k94 (x5 + p2.1) x6 x7 x8 ((x9 + (1 : Int32))) p2.2
def m12_days_94 (F : Nat) (i1 : Int32) (i2 : Int32) (i3 : Int32) (i4 : Int32) (k78 : Int32 → Int32 → Int32 → Mem → Option (Int32 × Mem)) : Nat → Int32 → Int32 → Int32 → Int32 → Int32 → Mem → Option (Int32 × Mem)
  | 0, _, _, _, _, _, _ => none
  | n + 1, x5, x6, x7, x8, x9, σ =>
    if i2 ≤ x9 then (
      Option.bind (m12_countOf F (4 : Int32) σ) fun p1 =>
      Option.bind (m12_laysBack F σ) fun p2 =>
      k78 x5 ((x6 + (p1 - x8))) ((x7 + (1 : Int32))) p2
      ) else (
      Option.bind (m12_draw F (100 : Int32) σ) fun p3 =>
      if i3 ≤ p3.1 then (
        m12_days_116 F i1 i2 i3 i4 (fun x5 x6 x7 x8 x9 σ => m12_days_94 F i1 i2 i3 i4 k78 n x5 x6 x7 x8 x9 σ) x5 x6 x7 x8 x9 (0 : Int32) p3.2
        ) else (
        m12_days_116 F i1 i2 i3 i4 (fun x5 x6 x7 x8 x9 σ => m12_days_94 F i1 i2 i3 i4 k78 n x5 x6 x7 x8 x9 σ) x5 x6 x7 x8 x9 (1 : Int32) p3.2
        )
      )
def m12_days_78 (F : Nat) (i1 : Int32) (i2 : Int32) (i3 : Int32) (i4 : Int32) : Nat → Int32 → Int32 → Int32 → Mem → Option (Int32 × Mem)
  | 0, _, _, _, _ => none
  | n + 1, x5, x6, x7, σ =>
    if i1 ≤ x7 then (
      let σ1 : Mem := sI σ 483 28 (0 : Int32)
      if i4 = (0 : Int32) then (
        some (x5, σ1)
        ) else (
        some (x6, σ1)
        )
      ) else (
      Option.bind (m12_countOf F (4 : Int32) σ) fun p2 =>
      m12_days_94 F i1 i2 i3 i4 (fun x5 x6 x7 σ => m12_days_78 F i1 i2 i3 i4 n x5 x6 x7 σ) F x5 x6 x7 p2 (0 : Int32) σ
      )
def m12_days (F : Nat) (i1 : Int32) (i2 : Int32) (i3 : Int32) (i4 : Int32) (σ : Mem) : Option (Int32 × Mem) :=
  Option.bind (m12_isSmithy F σ) fun p1 =>
  if p1 = (0 : Int32) then (
    some ((-1 : Int32), σ)
    ) else (
    Option.bind (m12_in F ((i1).toInt64) (1 : Int64) (10 : Int64) σ) fun p2 =>
    if p2 = (0 : Int32) then (
      some ((-1 : Int32), σ)
      ) else (
      Option.bind (m12_in F ((i2).toInt64) (1 : Int64) (99 : Int64) σ) fun p3 =>
      if p3 = (0 : Int32) then (
        some ((-1 : Int32), σ)
        ) else (
        Option.bind (m12_in F ((i3).toInt64) (0 : Int64) (100 : Int64) σ) fun p4 =>
        if p4 = (0 : Int32) then (
          some ((-1 : Int32), σ)
          ) else (
          Option.bind (m12_in F ((i4).toInt64) (0 : Int64) (1 : Int64) σ) fun p5 =>
          if p5 = (0 : Int32) then (
            some ((-1 : Int32), σ)
            ) else (
            let σ6 : Mem := sL σ 483 45 (((gI σ 483 22)).toInt64)
            Option.bind (m12_keeps F σ6) fun p7 =>
            m12_days_78 F i1 i2 i3 i4 F (0 : Int32) (0 : Int32) (0 : Int32) p7
            )
          )
        )
      )
    )
def m12_count_102 (F : Nat) (i1 : Int32) (σ : Mem) : Nat → Int32 → Int32 → Option (Int32)
  | 0, _, _ => none
  | n + 1, x2, x3 =>
    gd (inB (4 : Int32) 132 = true) <|
    if (gI σ 493 ((4 : Int32)).toNatClampNeg) ≤ x3 then (
      some x2
      ) else (
      Option.bind (m12_jobOf F x3 (5 : Int32) σ) fun p1 =>
      if p1 < (0 : Int32) then (
        m12_count_102 F i1 σ n ((x2 ||| (0 : Int32))) ((x3 + (1 : Int32)))
        ) else (
        m12_count_102 F i1 σ n ((x2 ||| ((1 : Int32) <<< (x3 &&& (31 : Int32))))) ((x3 + (1 : Int32)))
        )
      )
def m12_count (F : Nat) (i1 : Int32) (σ : Mem) : Option (Int32) :=
  if i1 = (0 : Int32) then (
    gd (inB i1 132 = true) <|
    some ((gI σ 493 (i1).toNatClampNeg))
    ) else (
  if i1 = (1 : Int32) then (
    gd (inB i1 132 = true) <|
    some ((gI σ 493 (i1).toNatClampNeg))
    ) else (
  if i1 = (2 : Int32) then (
    gd (inB i1 132 = true) <|
    some ((gI σ 493 (i1).toNatClampNeg))
    ) else (
  if i1 = (3 : Int32) then (
    gd (inB i1 132 = true) <|
    some ((gI σ 493 (i1).toNatClampNeg))
    ) else (
  if i1 = (4 : Int32) then (
    gd (inB i1 132 = true) <|
    some ((gI σ 493 (i1).toNatClampNeg))
    ) else (
  if i1 = (5 : Int32) then (
    some (gI σ 483 2)
    ) else (
  if i1 = (6 : Int32) then (
    some (gI σ 483 21)
    ) else (
  if i1 = (7 : Int32) then (
    gd (inB (5 : Int32) 132 = true) <|
    some ((gI σ 493 ((5 : Int32)).toNatClampNeg))
    ) else (
  if i1 = (8 : Int32) then (
    m12_count_102 F i1 σ F (0 : Int32) (0 : Int32)
    ) else (
  if i1 = (9 : Int32) then (
    Option.bind (m12_countOf F (3 : Int32) σ) fun p1 =>
    some p1
    ) else (
  if i1 = (10 : Int32) then (
    Option.bind (m12_isSmithy F σ) fun p2 =>
    if p2 = (0 : Int32) then (
      some (0 : Int32)
      ) else (
      Option.bind (m12_splitParts F σ) fun p3 =>
      some p3
      )
    ) else (
  if i1 = (11 : Int32) then (
    gd (inB (131 : Int32) 132 = true) <|
    some ((gI σ 493 ((131 : Int32)).toNatClampNeg))
    ) else (
  if i1 = (12 : Int32) then (
    some (gI σ 483 34)
    ) else (
  if i1 = (13 : Int32) then (
    some (gI σ 483 22)
    ) else (
  if i1 = (14 : Int32) then (
    some (gI σ 483 1)
    ) else (
    some (-1 : Int32)
    )))))))))))))))
def m12_image_43 (F : Nat) (i1 : Int32) : Nat → Int32 → Mem → Option (Int32 × Mem)
  | 0, _, _ => none
  | n + 1, x2, σ =>
    if (132 : Int32) ≤ x2 then (
      gd (inB (5 : Int32) 132 = true) <|
      some ((gI σ 493 ((5 : Int32)).toNatClampNeg), σ)
      ) else (
      gd (inB x2 132 = true) <|
      gd (inB (((132 : Int32) * i1) + x2) 528 = true) <|
      let σ1 : Mem := sI σ 506 ((((132 : Int32) * i1) + x2)).toNatClampNeg ((gI σ 493 (x2).toNatClampNeg))
      m12_image_43 F i1 n ((x2 + (1 : Int32))) σ1
      )
def m12_image (F : Nat) (i1 : Int32) (σ : Mem) : Option (Int32 × Mem) :=
  Option.bind (m12_in F ((i1).toInt64) (0 : Int64) (3 : Int64) σ) fun p1 =>
  if p1 = (0 : Int32) then (
    some ((-1 : Int32), σ)
    ) else (
    gd (inB i1 4 = true) <|
    let σ2 : Mem := sI σ 509 (i1).toNatClampNeg (((1 : Int32) &&& (1 : Int32)))
    gd (inB i1 4 = true) <|
    let σ3 : Mem := sI σ2 507 (i1).toNatClampNeg (gI σ2 483 21)
    gd (inB i1 4 = true) <|
    let σ4 : Mem := sI σ3 508 (i1).toNatClampNeg (gI σ3 483 22)
    m12_image_43 F i1 F (0 : Int32) σ4
    )
def m12_back_50 (F : Nat) (i1 : Int32) : Nat → Int32 → Mem → Option (Int32 × Mem)
  | 0, _, _ => none
  | n + 1, x2, σ =>
    if (132 : Int32) ≤ x2 then (
      gd (inB (5 : Int32) 132 = true) <|
      some ((gI σ 493 ((5 : Int32)).toNatClampNeg), σ)
      ) else (
      gd (inB (((132 : Int32) * i1) + x2) 528 = true) <|
      gd (inB x2 132 = true) <|
      let σ1 : Mem := sI σ 493 (x2).toNatClampNeg ((gI σ 506 ((((132 : Int32) * i1) + x2)).toNatClampNeg))
      m12_back_50 F i1 n ((x2 + (1 : Int32))) σ1
      )
def m12_back (F : Nat) (i1 : Int32) (σ : Mem) : Option (Int32 × Mem) :=
  Option.bind (m12_in F ((i1).toInt64) (0 : Int64) (3 : Int64) σ) fun p1 =>
  if p1 = (0 : Int32) then (
    some ((-1 : Int32), σ)
    ) else (
    gd (inB i1 4 = true) <|
    if (gI σ 509 (i1).toNatClampNeg) = (0 : Int32) then (
      some ((-1 : Int32), σ)
      ) else (
      gd (inB i1 4 = true) <|
      let σ2 : Mem := sI σ 483 21 ((gI σ 507 (i1).toNatClampNeg))
      gd (inB i1 4 = true) <|
      let σ3 : Mem := sI σ2 483 22 ((gI σ2 508 (i1).toNatClampNeg))
      let σ4 : Mem := sI σ3 483 34 (0 : Int32)
      m12_back_50 F i1 F (0 : Int32) σ4
      )
    )
def mLaw_18 (F : Nat) (L : Nat) (xs : Nat → Int32) : Nat → Int32 → Mem → Option (Int32 × Mem)
  | 0, _, _ => none
  | n + 1, x3, σ =>
    if ((nI L) - (6 : Int32)) < x3 then (
      some ((1 : Int32), σ)
      ) else (
      gd (inB x3 L = true) <|
      if ((xs (x3).toNatClampNeg) &&& (31 : Int32)) = (0 : Int32) then (
        gd (inB (x3 + (1 : Int32)) L = true) <|
        gd (inB (x3 + (2 : Int32)) L = true) <|
        gd (inB (x3 + (3 : Int32)) L = true) <|
        gd (inB (x3 + (4 : Int32)) L = true) <|
        gd (inB (x3 + (5 : Int32)) L = true) <|
        Option.bind (m11_feed F ((xs ((x3 + (1 : Int32))).toNatClampNeg)) ((xs ((x3 + (2 : Int32))).toNatClampNeg)) ((xs ((x3 + (3 : Int32))).toNatClampNeg)) ((xs ((x3 + (4 : Int32))).toNatClampNeg)) ((xs ((x3 + (5 : Int32))).toNatClampNeg)) σ) fun p1 =>
        gd (inB (x3 + (1 : Int32)) L = true) <|
        gd (inB (x3 + (2 : Int32)) L = true) <|
        gd (inB (x3 + (3 : Int32)) L = true) <|
        gd (inB (x3 + (4 : Int32)) L = true) <|
        gd (inB (x3 + (5 : Int32)) L = true) <|
        Option.bind (m12_feed F ((xs ((x3 + (1 : Int32))).toNatClampNeg)) ((xs ((x3 + (2 : Int32))).toNatClampNeg)) ((xs ((x3 + (3 : Int32))).toNatClampNeg)) ((xs ((x3 + (4 : Int32))).toNatClampNeg)) ((xs ((x3 + (5 : Int32))).toNatClampNeg)) p1.2) fun p2 =>
        if p1.1 = p2.1 then (
          mLaw_18 F L xs n ((x3 + (6 : Int32))) p2.2
          ) else (
          some ((0 : Int32), p2.2)
          )
        ) else (
      if ((xs (x3).toNatClampNeg) &&& (31 : Int32)) = (1 : Int32) then (
        gd (inB (x3 + (1 : Int32)) L = true) <|
        Option.bind (m11_end F ((xs ((x3 + (1 : Int32))).toNatClampNeg)) σ) fun p3 =>
        gd (inB (x3 + (1 : Int32)) L = true) <|
        Option.bind (m12_end F ((xs ((x3 + (1 : Int32))).toNatClampNeg)) p3.2) fun p4 =>
        if p3.1 = p4.1 then (
          mLaw_18 F L xs n ((x3 + (6 : Int32))) p4.2
          ) else (
          some ((0 : Int32), p4.2)
          )
        ) else (
      if ((xs (x3).toNatClampNeg) &&& (31 : Int32)) = (2 : Int32) then (
        Option.bind (m11_smithy F σ) fun p5 =>
        Option.bind (m12_smithy F p5.2) fun p6 =>
        if p5.1 = p6.1 then (
          mLaw_18 F L xs n ((x3 + (6 : Int32))) p6.2
          ) else (
          some ((0 : Int32), p6.2)
          )
        ) else (
      if ((xs (x3).toNatClampNeg) &&& (31 : Int32)) = (3 : Int32) then (
        Option.bind (m11_rule F σ) fun p7 =>
        Option.bind (m12_rule F p7.2) fun p8 =>
        if p7.1 = p8.1 then (
          mLaw_18 F L xs n ((x3 + (6 : Int32))) p8.2
          ) else (
          some ((0 : Int32), p8.2)
          )
        ) else (
      if ((xs (x3).toNatClampNeg) &&& (31 : Int32)) = (4 : Int32) then (
        gd (inB (x3 + (1 : Int32)) L = true) <|
        Option.bind (m11_force F ((xs ((x3 + (1 : Int32))).toNatClampNeg)) σ) fun p9 =>
        gd (inB (x3 + (1 : Int32)) L = true) <|
        Option.bind (m12_force F ((xs ((x3 + (1 : Int32))).toNatClampNeg)) p9.2) fun p10 =>
        if p9.1 = p10.1 then (
          mLaw_18 F L xs n ((x3 + (6 : Int32))) p10.2
          ) else (
          some ((0 : Int32), p10.2)
          )
        ) else (
      if ((xs (x3).toNatClampNeg) &&& (31 : Int32)) = (5 : Int32) then (
        gd (inB (x3 + (1 : Int32)) L = true) <|
        gd (inB (x3 + (2 : Int32)) L = true) <|
        Option.bind (m11_smith F ((xs ((x3 + (1 : Int32))).toNatClampNeg)) ((xs ((x3 + (2 : Int32))).toNatClampNeg)) σ) fun p11 =>
        gd (inB (x3 + (1 : Int32)) L = true) <|
        gd (inB (x3 + (2 : Int32)) L = true) <|
        Option.bind (m12_smith F ((xs ((x3 + (1 : Int32))).toNatClampNeg)) ((xs ((x3 + (2 : Int32))).toNatClampNeg)) σ) fun p12 =>
        if p11 = p12 then (
          mLaw_18 F L xs n ((x3 + (6 : Int32))) σ
          ) else (
          some ((0 : Int32), σ)
          )
        ) else (
      if ((xs (x3).toNatClampNeg) &&& (31 : Int32)) = (6 : Int32) then (
        gd (inB (x3 + (1 : Int32)) L = true) <|
        gd (inB (x3 + (2 : Int32)) L = true) <|
        Option.bind (m11_job F ((xs ((x3 + (1 : Int32))).toNatClampNeg)) ((xs ((x3 + (2 : Int32))).toNatClampNeg)) σ) fun p13 =>
        gd (inB (x3 + (1 : Int32)) L = true) <|
        gd (inB (x3 + (2 : Int32)) L = true) <|
        Option.bind (m12_job F ((xs ((x3 + (1 : Int32))).toNatClampNeg)) ((xs ((x3 + (2 : Int32))).toNatClampNeg)) σ) fun p14 =>
        if p13 = p14 then (
          mLaw_18 F L xs n ((x3 + (6 : Int32))) σ
          ) else (
          some ((0 : Int32), σ)
          )
        ) else (
      if ((xs (x3).toNatClampNeg) &&& (31 : Int32)) = (7 : Int32) then (
        gd (inB (x3 + (1 : Int32)) L = true) <|
        Option.bind (m11_worn F ((xs ((x3 + (1 : Int32))).toNatClampNeg)) σ) fun p15 =>
        gd (inB (x3 + (1 : Int32)) L = true) <|
        Option.bind (m12_worn F ((xs ((x3 + (1 : Int32))).toNatClampNeg)) σ) fun p16 =>
        if p15 = p16 then (
          mLaw_18 F L xs n ((x3 + (6 : Int32))) σ
          ) else (
          some ((0 : Int32), σ)
          )
        ) else (
      if ((xs (x3).toNatClampNeg) &&& (31 : Int32)) = (8 : Int32) then (
        Option.bind (m11_moment F σ) fun p17 =>
        Option.bind (m12_moment F p17.2) fun p18 =>
        if p17.1 = p18.1 then (
          mLaw_18 F L xs n ((x3 + (6 : Int32))) p18.2
          ) else (
          some ((0 : Int32), p18.2)
          )
        ) else (
      if ((xs (x3).toNatClampNeg) &&& (31 : Int32)) = (9 : Int32) then (
        gd (inB (x3 + (1 : Int32)) L = true) <|
        Option.bind (m11_quench F ((xs ((x3 + (1 : Int32))).toNatClampNeg)) σ) fun p19 =>
        gd (inB (x3 + (1 : Int32)) L = true) <|
        Option.bind (m12_quench F ((xs ((x3 + (1 : Int32))).toNatClampNeg)) p19.2) fun p20 =>
        if p19.1 = p20.1 then (
          mLaw_18 F L xs n ((x3 + (6 : Int32))) p20.2
          ) else (
          some ((0 : Int32), p20.2)
          )
        ) else (
      if ((xs (x3).toNatClampNeg) &&& (31 : Int32)) = (10 : Int32) then (
        gd (inB (x3 + (1 : Int32)) L = true) <|
        Option.bind (m11_mend F ((xs ((x3 + (1 : Int32))).toNatClampNeg)) σ) fun p21 =>
        gd (inB (x3 + (1 : Int32)) L = true) <|
        Option.bind (m12_mend F ((xs ((x3 + (1 : Int32))).toNatClampNeg)) p21.2) fun p22 =>
        if p21.1 = p22.1 then (
          mLaw_18 F L xs n ((x3 + (6 : Int32))) p22.2
          ) else (
          some ((0 : Int32), p22.2)
          )
        ) else (
      if ((xs (x3).toNatClampNeg) &&& (31 : Int32)) = (11 : Int32) then (
        gd (inB (x3 + (1 : Int32)) L = true) <|
        Option.bind (m11_aside F ((xs ((x3 + (1 : Int32))).toNatClampNeg)) σ) fun p23 =>
        gd (inB (x3 + (1 : Int32)) L = true) <|
        Option.bind (m12_aside F ((xs ((x3 + (1 : Int32))).toNatClampNeg)) p23.2) fun p24 =>
        if p23.1 = p24.1 then (
          mLaw_18 F L xs n ((x3 + (6 : Int32))) p24.2
          ) else (
          some ((0 : Int32), p24.2)
          )
        ) else (
      if ((xs (x3).toNatClampNeg) &&& (31 : Int32)) = (12 : Int32) then (
        Option.bind (m11_undo F σ) fun p25 =>
        Option.bind (m12_undo F p25.2) fun p26 =>
        if p25.1 = p26.1 then (
          mLaw_18 F L xs n ((x3 + (6 : Int32))) p26.2
          ) else (
          some ((0 : Int32), p26.2)
          )
        ) else (
      if ((xs (x3).toNatClampNeg) &&& (31 : Int32)) = (13 : Int32) then (
        gd (inB (x3 + (1 : Int32)) L = true) <|
        gd (inB (x3 + (2 : Int32)) L = true) <|
        gd (inB (x3 + (3 : Int32)) L = true) <|
        Option.bind (m11_ahead F ((xs ((x3 + (1 : Int32))).toNatClampNeg)) ((xs ((x3 + (2 : Int32))).toNatClampNeg)) ((xs ((x3 + (3 : Int32))).toNatClampNeg)) σ) fun p27 =>
        gd (inB (x3 + (1 : Int32)) L = true) <|
        gd (inB (x3 + (2 : Int32)) L = true) <|
        gd (inB (x3 + (3 : Int32)) L = true) <|
        Option.bind (m12_ahead F ((xs ((x3 + (1 : Int32))).toNatClampNeg)) ((xs ((x3 + (2 : Int32))).toNatClampNeg)) ((xs ((x3 + (3 : Int32))).toNatClampNeg)) p27.2) fun p28 =>
        if p27.1 = p28.1 then (
          mLaw_18 F L xs n ((x3 + (6 : Int32))) p28.2
          ) else (
          some ((0 : Int32), p28.2)
          )
        ) else (
      if ((xs (x3).toNatClampNeg) &&& (31 : Int32)) = (14 : Int32) then (
        gd (inB (x3 + (1 : Int32)) L = true) <|
        Option.bind (m11_ready F ((xs ((x3 + (1 : Int32))).toNatClampNeg)) σ) fun p29 =>
        gd (inB (x3 + (1 : Int32)) L = true) <|
        Option.bind (m12_ready F ((xs ((x3 + (1 : Int32))).toNatClampNeg)) p29.2) fun p30 =>
        if p29.1 = p30.1 then (
          mLaw_18 F L xs n ((x3 + (6 : Int32))) p30.2
          ) else (
          some ((0 : Int32), p30.2)
          )
        ) else (
      if ((xs (x3).toNatClampNeg) &&& (31 : Int32)) = (15 : Int32) then (
        Option.bind (m11_all F σ) fun p31 =>
        Option.bind (m12_all F p31.2) fun p32 =>
        if p31.1 = p32.1 then (
          mLaw_18 F L xs n ((x3 + (6 : Int32))) p32.2
          ) else (
          some ((0 : Int32), p32.2)
          )
        ) else (
      if ((xs (x3).toNatClampNeg) &&& (31 : Int32)) = (16 : Int32) then (
        gd (inB (x3 + (1 : Int32)) L = true) <|
        gd (inB (x3 + (2 : Int32)) L = true) <|
        Option.bind (m11_rota F ((xs ((x3 + (1 : Int32))).toNatClampNeg)) ((xs ((x3 + (2 : Int32))).toNatClampNeg)) σ) fun p33 =>
        gd (inB (x3 + (1 : Int32)) L = true) <|
        gd (inB (x3 + (2 : Int32)) L = true) <|
        Option.bind (m12_rota F ((xs ((x3 + (1 : Int32))).toNatClampNeg)) ((xs ((x3 + (2 : Int32))).toNatClampNeg)) p33.2) fun p34 =>
        if p33.1 = p34.1 then (
          mLaw_18 F L xs n ((x3 + (6 : Int32))) p34.2
          ) else (
          some ((0 : Int32), p34.2)
          )
        ) else (
      if ((xs (x3).toNatClampNeg) &&& (31 : Int32)) = (17 : Int32) then (
        gd (inB (x3 + (1 : Int32)) L = true) <|
        Option.bind (m11_round F ((xs ((x3 + (1 : Int32))).toNatClampNeg)) σ) fun p35 =>
        gd (inB (x3 + (1 : Int32)) L = true) <|
        Option.bind (m12_round F ((xs ((x3 + (1 : Int32))).toNatClampNeg)) p35.2) fun p36 =>
        if p35.1 = p36.1 then (
          mLaw_18 F L xs n ((x3 + (6 : Int32))) p36.2
          ) else (
          some ((0 : Int32), p36.2)
          )
        ) else (
      if ((xs (x3).toNatClampNeg) &&& (31 : Int32)) = (18 : Int32) then (
        gd (inB (x3 + (1 : Int32)) L = true) <|
        Option.bind (m11_beside F ((xs ((x3 + (1 : Int32))).toNatClampNeg)) σ) fun p37 =>
        gd (inB (x3 + (1 : Int32)) L = true) <|
        Option.bind (m12_beside F ((xs ((x3 + (1 : Int32))).toNatClampNeg)) p37.2) fun p38 =>
        if p37.1 = p38.1 then (
          mLaw_18 F L xs n ((x3 + (6 : Int32))) p38.2
          ) else (
          some ((0 : Int32), p38.2)
          )
        ) else (
      if ((xs (x3).toNatClampNeg) &&& (31 : Int32)) = (19 : Int32) then (
        gd (inB (x3 + (1 : Int32)) L = true) <|
        gd (inB (x3 + (2 : Int32)) L = true) <|
        Option.bind (m11_worth F ((xs ((x3 + (1 : Int32))).toNatClampNeg)) ((xs ((x3 + (2 : Int32))).toNatClampNeg)) σ) fun p39 =>
        gd (inB (x3 + (1 : Int32)) L = true) <|
        gd (inB (x3 + (2 : Int32)) L = true) <|
        Option.bind (m12_worth F ((xs ((x3 + (1 : Int32))).toNatClampNeg)) ((xs ((x3 + (2 : Int32))).toNatClampNeg)) p39.2) fun p40 =>
        if p39.1 = p40.1 then (
          mLaw_18 F L xs n ((x3 + (6 : Int32))) p40.2
          ) else (
          some ((0 : Int32), p40.2)
          )
        ) else (
      if ((xs (x3).toNatClampNeg) &&& (31 : Int32)) = (20 : Int32) then (
        gd (inB (x3 + (1 : Int32)) L = true) <|
        gd (inB (x3 + (2 : Int32)) L = true) <|
        Option.bind (m11_splits F ((xs ((x3 + (1 : Int32))).toNatClampNeg)) ((xs ((x3 + (2 : Int32))).toNatClampNeg)) σ) fun p41 =>
        gd (inB (x3 + (1 : Int32)) L = true) <|
        gd (inB (x3 + (2 : Int32)) L = true) <|
        Option.bind (m12_splits F ((xs ((x3 + (1 : Int32))).toNatClampNeg)) ((xs ((x3 + (2 : Int32))).toNatClampNeg)) p41.2) fun p42 =>
        if p41.1 = p42.1 then (
          mLaw_18 F L xs n ((x3 + (6 : Int32))) p42.2
          ) else (
          some ((0 : Int32), p42.2)
          )
        ) else (
      if ((xs (x3).toNatClampNeg) &&& (31 : Int32)) = (21 : Int32) then (
        gd (inB (x3 + (1 : Int32)) L = true) <|
        gd (inB (x3 + (2 : Int32)) L = true) <|
        Option.bind (m11_order F ((xs ((x3 + (1 : Int32))).toNatClampNeg)) ((xs ((x3 + (2 : Int32))).toNatClampNeg)) σ) fun p43 =>
        gd (inB (x3 + (1 : Int32)) L = true) <|
        gd (inB (x3 + (2 : Int32)) L = true) <|
        Option.bind (m12_order F ((xs ((x3 + (1 : Int32))).toNatClampNeg)) ((xs ((x3 + (2 : Int32))).toNatClampNeg)) p43.2) fun p44 =>
        if p43.1 = p44.1 then (
          mLaw_18 F L xs n ((x3 + (6 : Int32))) p44.2
          ) else (
          some ((0 : Int32), p44.2)
          )
        ) else (
      if ((xs (x3).toNatClampNeg) &&& (31 : Int32)) = (22 : Int32) then (
        gd (inB (x3 + (1 : Int32)) L = true) <|
        gd (inB (x3 + (2 : Int32)) L = true) <|
        gd (inB (x3 + (3 : Int32)) L = true) <|
        Option.bind (m11_note F ((xs ((x3 + (1 : Int32))).toNatClampNeg)) ((xs ((x3 + (2 : Int32))).toNatClampNeg)) ((xs ((x3 + (3 : Int32))).toNatClampNeg)) σ) fun p45 =>
        gd (inB (x3 + (1 : Int32)) L = true) <|
        gd (inB (x3 + (2 : Int32)) L = true) <|
        gd (inB (x3 + (3 : Int32)) L = true) <|
        Option.bind (m12_note F ((xs ((x3 + (1 : Int32))).toNatClampNeg)) ((xs ((x3 + (2 : Int32))).toNatClampNeg)) ((xs ((x3 + (3 : Int32))).toNatClampNeg)) p45.2) fun p46 =>
        if p45.1 = p46.1 then (
          mLaw_18 F L xs n ((x3 + (6 : Int32))) p46.2
          ) else (
          some ((0 : Int32), p46.2)
          )
        ) else (
      if ((xs (x3).toNatClampNeg) &&& (31 : Int32)) = (23 : Int32) then (
        gd (inB (x3 + (1 : Int32)) L = true) <|
        Option.bind (m11_ruled F ((xs ((x3 + (1 : Int32))).toNatClampNeg)) σ) fun p47 =>
        gd (inB (x3 + (1 : Int32)) L = true) <|
        Option.bind (m12_ruled F ((xs ((x3 + (1 : Int32))).toNatClampNeg)) p47.2) fun p48 =>
        if p47.1 = p48.1 then (
          mLaw_18 F L xs n ((x3 + (6 : Int32))) p48.2
          ) else (
          some ((0 : Int32), p48.2)
          )
        ) else (
      if ((xs (x3).toNatClampNeg) &&& (31 : Int32)) = (24 : Int32) then (
        gd (inB (x3 + (1 : Int32)) L = true) <|
        gd (inB (x3 + (2 : Int32)) L = true) <|
        Option.bind (m11_look F ((xs ((x3 + (1 : Int32))).toNatClampNeg)) ((xs ((x3 + (2 : Int32))).toNatClampNeg)) σ) fun p49 =>
        gd (inB (x3 + (1 : Int32)) L = true) <|
        gd (inB (x3 + (2 : Int32)) L = true) <|
        Option.bind (m12_look F ((xs ((x3 + (1 : Int32))).toNatClampNeg)) ((xs ((x3 + (2 : Int32))).toNatClampNeg)) p49.2) fun p50 =>
        if p49.1 = p50.1 then (
          mLaw_18 F L xs n ((x3 + (6 : Int32))) p50.2
          ) else (
          some ((0 : Int32), p50.2)
          )
        ) else (
      if ((xs (x3).toNatClampNeg) &&& (31 : Int32)) = (25 : Int32) then (
        Option.bind (m11_second F σ) fun p51 =>
        Option.bind (m12_second F p51.2) fun p52 =>
        if p51.1 = p52.1 then (
          mLaw_18 F L xs n ((x3 + (6 : Int32))) p52.2
          ) else (
          some ((0 : Int32), p52.2)
          )
        ) else (
      if ((xs (x3).toNatClampNeg) &&& (31 : Int32)) = (26 : Int32) then (
        gd (inB (x3 + (1 : Int32)) L = true) <|
        Option.bind (m11_seed F ((xs ((x3 + (1 : Int32))).toNatClampNeg)) σ) fun p53 =>
        gd (inB (x3 + (1 : Int32)) L = true) <|
        Option.bind (m12_seed F ((xs ((x3 + (1 : Int32))).toNatClampNeg)) p53.2) fun p54 =>
        if p53.1 = p54.1 then (
          mLaw_18 F L xs n ((x3 + (6 : Int32))) p54.2
          ) else (
          some ((0 : Int32), p54.2)
          )
        ) else (
      if ((xs (x3).toNatClampNeg) &&& (31 : Int32)) = (27 : Int32) then (
        gd (inB (x3 + (1 : Int32)) L = true) <|
        gd (inB (x3 + (2 : Int32)) L = true) <|
        gd (inB (x3 + (3 : Int32)) L = true) <|
        gd (inB (x3 + (4 : Int32)) L = true) <|
        Option.bind (m11_days F ((xs ((x3 + (1 : Int32))).toNatClampNeg)) ((xs ((x3 + (2 : Int32))).toNatClampNeg)) ((xs ((x3 + (3 : Int32))).toNatClampNeg)) ((xs ((x3 + (4 : Int32))).toNatClampNeg)) σ) fun p55 =>
        gd (inB (x3 + (1 : Int32)) L = true) <|
        gd (inB (x3 + (2 : Int32)) L = true) <|
        gd (inB (x3 + (3 : Int32)) L = true) <|
        gd (inB (x3 + (4 : Int32)) L = true) <|
        Option.bind (m12_days F ((xs ((x3 + (1 : Int32))).toNatClampNeg)) ((xs ((x3 + (2 : Int32))).toNatClampNeg)) ((xs ((x3 + (3 : Int32))).toNatClampNeg)) ((xs ((x3 + (4 : Int32))).toNatClampNeg)) p55.2) fun p56 =>
        if p55.1 = p56.1 then (
          mLaw_18 F L xs n ((x3 + (6 : Int32))) p56.2
          ) else (
          some ((0 : Int32), p56.2)
          )
        ) else (
      if ((xs (x3).toNatClampNeg) &&& (31 : Int32)) = (28 : Int32) then (
        gd (inB (x3 + (1 : Int32)) L = true) <|
        Option.bind (m11_count F ((xs ((x3 + (1 : Int32))).toNatClampNeg)) σ) fun p57 =>
        gd (inB (x3 + (1 : Int32)) L = true) <|
        Option.bind (m12_count F ((xs ((x3 + (1 : Int32))).toNatClampNeg)) σ) fun p58 =>
        if p57 = p58 then (
          mLaw_18 F L xs n ((x3 + (6 : Int32))) σ
          ) else (
          some ((0 : Int32), σ)
          )
        ) else (
      if ((xs (x3).toNatClampNeg) &&& (31 : Int32)) = (29 : Int32) then (
        gd (inB (x3 + (1 : Int32)) L = true) <|
        Option.bind (m11_image F ((xs ((x3 + (1 : Int32))).toNatClampNeg)) σ) fun p59 =>
        gd (inB (x3 + (1 : Int32)) L = true) <|
        Option.bind (m12_image F ((xs ((x3 + (1 : Int32))).toNatClampNeg)) p59.2) fun p60 =>
        if p59.1 = p60.1 then (
          mLaw_18 F L xs n ((x3 + (6 : Int32))) p60.2
          ) else (
          some ((0 : Int32), p60.2)
          )
        ) else (
      if ((xs (x3).toNatClampNeg) &&& (31 : Int32)) = (30 : Int32) then (
        gd (inB (x3 + (1 : Int32)) L = true) <|
        Option.bind (m11_back F ((xs ((x3 + (1 : Int32))).toNatClampNeg)) σ) fun p61 =>
        gd (inB (x3 + (1 : Int32)) L = true) <|
        Option.bind (m12_back F ((xs ((x3 + (1 : Int32))).toNatClampNeg)) p61.2) fun p62 =>
        if p61.1 = p62.1 then (
          mLaw_18 F L xs n ((x3 + (6 : Int32))) p62.2
          ) else (
          some ((0 : Int32), p62.2)
          )
        ) else (
        mLaw_18 F L xs n ((x3 + (6 : Int32))) σ
        )))))))))))))))))))))))))))))))
      )
def mLaw (F : Nat) (L : Nat) (xs : Nat → Int32) (σ : Mem) : Option (Int32 × Mem) :=
  mLaw_18 F L xs F (0 : Int32) σ
