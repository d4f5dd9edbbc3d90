set_option maxHeartbeats 4000000 in
set_option maxRecDepth 20000 in
theorem w0_keepRow_2 {E : EnvT} {G : GT} {RP : Option AV → Mem → Prop} (hG : Cl E 0 0 tb_0 G RP) {r : Mem} (hRP : RP none r) (F : Nat) : ∀ (n : Nat) (x1 : Int32) (σ : Mem), m0_keepRow_2 F n x1 σ = some r → G 2 [some (.ref 56, 0), some (.int x1, 0)] [] σ := by
  intro n
  induction n with
  | zero => intro x1 σ h; unfold m0_keepRow_2 at h; cases h
  | succ n ih =>
    intro x1 σ h
    refine bk hG (cut := [2]) 400 ?_
    unfold m0_keepRow_2 at h
    refine And.intro (fun hq => ?_) (fun hq => ?_)
    · have h := i_pos hq h
      have e := Option.some.inj h
      subst e
      exact hRP
    · have h := i_neg hq h
      have ⟨hg, h⟩ := g_gd h
      refine And.intro (inB_of hg) ?_
      have ⟨hg, h⟩ := g_gd h
      refine And.intro (inB_of hg) ?_
      exact ih _ _ h
set_option maxHeartbeats 4000000 in
set_option maxRecDepth 20000 in
theorem c0_keepRow {E : EnvT} (F : Nat)  (σ : Mem) {r : Mem} (h : m0_keepRow F σ = some r) : MetAt E 0 0 [(.ref 56, 0)] σ none r := by
  unfold m0_keepRow at h
  refine MetAt_of (tb := tb_0) (by decide) tbok_0 (Nat.le_of_ble_eq_true rfl) (fun a q => by cases q) (fun G hG => ?_)
  have hRP : (fun (a : Option AV) (τ : Mem) => a.map (conc E) = (none : Option AV).map (conc E) ∧ τ = r) none r := ⟨rfl, rfl⟩
  change G 0 [some (.ref 56, 0), none] [] σ
  refine bk hG (cut := [2]) 400 ?_
  exact w0_keepRow_2 hG hRP F F _ _ h
set_option maxHeartbeats 4000000 in
set_option maxRecDepth 20000 in
theorem w7_copyFrom_133 {E : EnvT} {G : GT} {RP : Option AV → Mem → Prop} {c0 : Nat} {c1 : Nat} (hG : Cl E 50 0 tb_50 G RP) {r : Mem} (hRP : RP none r) (F : Nat) : ∀ (n : Nat) (x2 : Int32) (σ : Mem), m7_copyFrom_133 F c0 c1 n x2 σ = some r → G 133 [some (.ref c0, 7), some (.ref c1, 7), some (.int x2, 0)] [] σ := by
  intro n
  induction n with
  | zero => intro x2 σ h; unfold m7_copyFrom_133 at h; cases h
  | succ n ih =>
    intro x2 σ h
    refine bk hG (cut := [10, 83, 133]) 400 ?_
    unfold m7_copyFrom_133 at h
    refine And.intro (fun hq => ?_) (fun hq => ?_)
    · have h := i_pos hq h
      have e := Option.some.inj h
      subst e
      exact hRP
    · have h := i_neg hq h
      have ⟨hg, h⟩ := g_gd h
      refine And.intro (inB_of hg) ?_
      have ⟨hg, h⟩ := g_gd h
      refine And.intro (inB_of hg) ?_
      exact ih _ _ h
set_option maxHeartbeats 4000000 in
set_option maxRecDepth 20000 in
theorem w7_copyFrom_83 {E : EnvT} {G : GT} {RP : Option AV → Mem → Prop} {c0 : Nat} {c1 : Nat} (hG : Cl E 50 0 tb_50 G RP) {r : Mem} (hRP : RP none r) (F : Nat) : ∀ (n : Nat) (x2 : Int32) (σ : Mem), m7_copyFrom_83 F c0 c1 n x2 σ = some r → G 83 [some (.ref c0, 7), some (.ref c1, 7), some (.int x2, 0)] [] σ := by
  intro n
  induction n with
  | zero => intro x2 σ h; unfold m7_copyFrom_83 at h; cases h
  | succ n ih =>
    intro x2 σ h
    refine bk hG (cut := [10, 83, 133]) 400 ?_
    unfold m7_copyFrom_83 at h
    refine And.intro (fun hq => ?_) (fun hq => ?_)
    · have h := i_pos hq h
      exact w7_copyFrom_133 hG hRP F F _ _ h
    · have h := i_neg hq h
      have ⟨hg, h⟩ := g_gd h
      refine And.intro (inB_of hg) ?_
      have ⟨hg, h⟩ := g_gd h
      refine And.intro (inB_of hg) ?_
      have ⟨hg, h⟩ := g_gd h
      refine And.intro (inB_of hg) ?_
      have ⟨hg, h⟩ := g_gd h
      refine And.intro (inB_of hg) ?_
      have ⟨hg, h⟩ := g_gd h
      refine And.intro (inB_of hg) ?_
      have ⟨hg, h⟩ := g_gd h
      refine And.intro (inB_of hg) ?_
      exact ih _ _ h
set_option maxHeartbeats 4000000 in
set_option maxRecDepth 20000 in
theorem w7_copyFrom_10 {E : EnvT} {G : GT} {RP : Option AV → Mem → Prop} {c0 : Nat} {c1 : Nat} (hG : Cl E 50 0 tb_50 G RP) {r : Mem} (hRP : RP none r) (F : Nat) : ∀ (n : Nat) (x2 : Int32) (σ : Mem), m7_copyFrom_10 F c0 c1 n x2 σ = some r → G 10 [some (.ref c0, 7), some (.ref c1, 7), some (.int x2, 0)] [] σ := by
  intro n
  induction n with
  | zero => intro x2 σ h; unfold m7_copyFrom_10 at h; cases h
  | succ n ih =>
    intro x2 σ h
    refine bk hG (cut := [10, 83, 133]) 400 ?_
    unfold m7_copyFrom_10 at h
    refine And.intro (fun hq => ?_) (fun hq => ?_)
    · have h := i_pos hq h
      exact w7_copyFrom_83 hG hRP F F _ _ h
    · have h := i_neg hq h
      have ⟨hg, h⟩ := g_gd h
      refine And.intro (inB_of hg) ?_
      have ⟨hg, h⟩ := g_gd h
      refine And.intro (inB_of hg) ?_
      have ⟨hg, h⟩ := g_gd h
      refine And.intro (inB_of hg) ?_
      have ⟨hg, h⟩ := g_gd h
      refine And.intro (inB_of hg) ?_
      have ⟨hg, h⟩ := g_gd h
      refine And.intro (inB_of hg) ?_
      have ⟨hg, h⟩ := g_gd h
      refine And.intro (inB_of hg) ?_
      have ⟨hg, h⟩ := g_gd h
      refine And.intro (inB_of hg) ?_
      have ⟨hg, h⟩ := g_gd h
      refine And.intro (inB_of hg) ?_
      have ⟨hg, h⟩ := g_gd h
      refine And.intro (inB_of hg) ?_
      have ⟨hg, h⟩ := g_gd h
      refine And.intro (inB_of hg) ?_
      exact ih _ _ h
set_option maxHeartbeats 4000000 in
set_option maxRecDepth 20000 in
theorem c7_copyFrom {E : EnvT} (F : Nat) (c0 : Nat) (c1 : Nat) (σ : Mem) {r : Mem} (h : m7_copyFrom F c0 c1 σ = some r) : MetAt E 0 50 [(.ref c0, 7), (.ref c1, 7)] σ none r := by
  unfold m7_copyFrom at h
  refine MetAt_of (tb := tb_50) (by decide) tbok_50 (Nat.le_of_ble_eq_true rfl) (fun a q => by cases q) (fun G hG => ?_)
  have hRP : (fun (a : Option AV) (τ : Mem) => a.map (conc E) = (none : Option AV).map (conc E) ∧ τ = r) none r := ⟨rfl, rfl⟩
  change G 0 [some (.ref c0, 7), some (.ref c1, 7), none] [] σ
  refine bk hG (cut := [10, 83, 133]) 400 ?_
  exact w7_copyFrom_10 hG hRP F F _ _ h
set_option maxHeartbeats 4000000 in
set_option maxRecDepth 20000 in
theorem c7_isToDo {E : EnvT} (F : Nat) (c0 : Nat) (c1 : Nat) (i2 : Int32) (i3 : Int32) (σ : Mem) {r : Int32} (h : m7_isToDo F c0 c1 i2 i3 σ = some r) : MetAt E 0 52 [(.ref c0, 7), (.ref c1, 4), (.int i2, 0), (.int i3, 0)] σ (some (.int r, 0)) σ := by
  unfold m7_isToDo at h
  refine MetAt_of (tb := tb_52) (by decide) tbok_52 (Nat.le_of_ble_eq_true rfl) (fun a q => by cases q; trivial) (fun G hG => ?_)
  have hRP : (fun (a : Option AV) (τ : Mem) => a.map (conc E) = ((some (.int r, 0)) : Option AV).map (conc E) ∧ τ = σ) (some (.int r, 0)) σ := ⟨rfl, rfl⟩
  change G 0 [some (.ref c0, 7), some (.ref c1, 4), some (.int i2, 0), some (.int i3, 0)] [] σ
  refine bk hG (cut := []) 400 ?_
  have ⟨hg, h⟩ := g_gd h
  refine And.intro (inB_of hg) ?_
  refine And.intro (fun hq => ?_) (fun hq => ?_)
  · have h := i_pos hq h
    have ⟨hg, h⟩ := g_gd h
    refine And.intro (inB_of hg) ?_
    refine And.intro (fun hq => ?_) (fun hq => ?_)
    · have h := i_pos hq h
      have e := Option.some.inj h
      subst e
      exact And.intro (Or.inl rfl) hRP
    · have h := i_neg hq h
      have e := Option.some.inj h
      subst e
      exact And.intro (Or.inr rfl) hRP
  · have h := i_neg hq h
    have e := Option.some.inj h
    subst e
    exact And.intro (Or.inl rfl) hRP
set_option maxHeartbeats 4000000 in
set_option maxRecDepth 20000 in
theorem w7_toDo_5 {E : EnvT} {G : GT} {RP : Option AV → Mem → Prop} {c0 : Nat} {c1 : Nat} {i2 : Int32} {σ : Mem} (hG : Cl E 54 1 tb_54 G RP) {r : Int32} (hRP : RP (some (.int r, 0)) σ) (F : Nat) : ∀ (n : Nat) (x3 : Int32) (x4 : Int32), m7_toDo_5 F c0 c1 i2 σ n x3 x4 = some r → G 5 [some (.ref c0, 7), some (.ref c1, 4), some (.int i2, 0), some (.int x3, 0), some (.int x4, 0)] [] σ := by
  intro n
  induction n with
  | zero => intro x3 x4 h; unfold m7_toDo_5 at h; cases h
  | succ n ih =>
    intro x3 x4 h
    refine bk hG (cut := [5]) 400 ?_
    unfold m7_toDo_5 at h
    refine And.intro (fun hq => ?_) (fun hq => ?_)
    · have h := i_pos hq h
      have e := Option.some.inj h
      subst e
      exact hRP
    · have h := i_neg hq h
      have ⟨_, hc, h⟩ := b_some h
      refine Exists.intro _ (Exists.intro _ (Exists.intro _ (And.intro (c7_isToDo F _ _ _ _ _ hc) (And.intro (by decide) (And.intro (fun q => absurd q (by decide)) ?_)))))
      refine And.intro (fun hq => ?_) (fun hq => ?_)
      · have h := i_pos hq h
        exact ih _ _ h
      · have h := i_neg hq h
        exact ih _ _ h
set_option maxHeartbeats 4000000 in
set_option maxRecDepth 20000 in
theorem c7_toDo {E : EnvT} (F : Nat) (c0 : Nat) (c1 : Nat) (i2 : Int32) (σ : Mem) {r : Int32} (h : m7_toDo F c0 c1 i2 σ = some r) : MetAt E 1 54 [(.ref c0, 7), (.ref c1, 4), (.int i2, 0)] σ (some (.int r, 0)) σ := by
  unfold m7_toDo at h
  refine MetAt_of (tb := tb_54) (by decide) tbok_54 (Nat.le_of_ble_eq_true rfl) (fun a q => by cases q; trivial) (fun G hG => ?_)
  have hRP : (fun (a : Option AV) (τ : Mem) => a.map (conc E) = ((some (.int r, 0)) : Option AV).map (conc E) ∧ τ = σ) (some (.int r, 0)) σ := ⟨rfl, rfl⟩
  change G 0 [some (.ref c0, 7), some (.ref c1, 4), some (.int i2, 0), none, none] [] σ
  refine bk hG (cut := [5]) 400 ?_
  exact w7_toDo_5 hG hRP F F _ _ h
set_option maxHeartbeats 4000000 in
set_option maxRecDepth 20000 in
theorem w0_workers_4 {E : EnvT} {G : GT} {RP : Option AV → Mem → Prop} {c1 : Nat} {σ : Mem} (hG : Cl E 3 2 tb_3 G RP) {r : Int32} (hRP : RP (some (.int r, 0)) σ) (F : Nat) : ∀ (n : Nat) (x2 : Int32) (x3 : Int32), m0_workers_4 F c1 σ n x2 x3 = some r → G 4 [some (.ref 56, 0), some (.ref c1, 7), some (.int x2, 0), some (.int x3, 0)] [] σ := by
  intro n
  induction n with
  | zero => intro x2 x3 h; unfold m0_workers_4 at h; cases h
  | succ n ih =>
    intro x2 x3 h
    refine bk hG (cut := [4]) 400 ?_
    unfold m0_workers_4 at h
    refine And.intro (fun hq => ?_) (fun hq => ?_)
    · have h := i_pos hq h
      have e := Option.some.inj h
      subst e
      exact hRP
    · have h := i_neg hq h
      have ⟨_, hc, h⟩ := b_some h
      refine Exists.intro _ (Exists.intro _ (Exists.intro _ (And.intro (c7_toDo F _ _ _ _ hc) (And.intro (by decide) (And.intro (fun q => absurd q (by decide)) ?_)))))
      refine And.intro (fun hq => ?_) (fun hq => ?_)
      · have h := i_pos hq h
        exact ih _ _ h
      · have h := i_neg hq h
        exact ih _ _ h
set_option maxHeartbeats 4000000 in
set_option maxRecDepth 20000 in
theorem c0_workers {E : EnvT} (F : Nat) (c1 : Nat) (σ : Mem) {r : Int32} (h : m0_workers F c1 σ = some r) : MetAt E 2 3 [(.ref 56, 0), (.ref c1, 7)] σ (some (.int r, 0)) σ := by
  unfold m0_workers at h
  refine MetAt_of (tb := tb_3) (by decide) tbok_3 (Nat.le_of_ble_eq_true rfl) (fun a q => by cases q; trivial) (fun G hG => ?_)
  have hRP : (fun (a : Option AV) (τ : Mem) => a.map (conc E) = ((some (.int r, 0)) : Option AV).map (conc E) ∧ τ = σ) (some (.int r, 0)) σ := ⟨rfl, rfl⟩
  change G 0 [some (.ref 56, 0), some (.ref c1, 7), none, none] [] σ
  refine bk hG (cut := [4]) 400 ?_
  exact w0_workers_4 hG hRP F F _ _ h
set_option maxHeartbeats 4000000 in
set_option maxRecDepth 20000 in
theorem w7_jobOf_5 {E : EnvT} {G : GT} {RP : Option AV → Mem → Prop} {c0 : Nat} {c1 : Nat} {i2 : Int32} {σ : Mem} (hG : Cl E 53 1 tb_53 G RP) {r : Int32} (hRP : RP (some (.int r, 0)) σ) (F : Nat) : ∀ (n : Nat) (x3 : Int32) (x4 : Int32), m7_jobOf_5 F c0 c1 i2 σ n x3 x4 = some r → G 5 [some (.ref c0, 7), some (.ref c1, 4), some (.int i2, 0), some (.int x3, 0), some (.int x4, 0)] [] σ := by
  intro n
  induction n with
  | zero => intro x3 x4 h; unfold m7_jobOf_5 at h; cases h
  | succ n ih =>
    intro x3 x4 h
    refine bk hG (cut := [5]) 400 ?_
    unfold m7_jobOf_5 at h
    refine And.intro (fun hq => ?_) (fun hq => ?_)
    · have h := i_pos hq h
      have e := Option.some.inj h
      subst e
      exact hRP
    · have h := i_neg hq h
      have ⟨_, hc, h⟩ := b_some h
      refine Exists.intro _ (Exists.intro _ (Exists.intro _ (And.intro (c7_isToDo F _ _ _ _ _ hc) (And.intro (by decide) (And.intro (fun q => absurd q (by decide)) ?_)))))
      refine And.intro (fun hq => ?_) (fun hq => ?_)
      · have h := i_pos hq h
        exact ih _ _ h
      · have h := i_neg hq h
        refine And.intro (fun hq => ?_) (fun hq => ?_)
        · have h := i_pos hq h
          exact ih _ _ h
        · have h := i_neg hq h
          have ⟨hg, h⟩ := g_gd h
          refine And.intro (inB_of hg) ?_
          have ⟨hg, h⟩ := g_gd h
          refine And.intro (inB_of hg) ?_
          refine And.intro (fun hq => ?_) (fun hq => ?_)
          · have h := i_pos hq h
            exact ih _ _ h
          · have h := i_neg hq h
            exact ih _ _ h
set_option maxHeartbeats 4000000 in
set_option maxRecDepth 20000 in
theorem c7_jobOf {E : EnvT} (F : Nat) (c0 : Nat) (c1 : Nat) (i2 : Int32) (σ : Mem) {r : Int32} (h : m7_jobOf F c0 c1 i2 σ = some r) : MetAt E 1 53 [(.ref c0, 7), (.ref c1, 4), (.int i2, 0)] σ (some (.int r, 0)) σ := by
  unfold m7_jobOf at h
  refine MetAt_of (tb := tb_53) (by decide) tbok_53 (Nat.le_of_ble_eq_true rfl) (fun a q => by cases q; trivial) (fun G hG => ?_)
  have hRP : (fun (a : Option AV) (τ : Mem) => a.map (conc E) = ((some (.int r, 0)) : Option AV).map (conc E) ∧ τ = σ) (some (.int r, 0)) σ := ⟨rfl, rfl⟩
  change G 0 [some (.ref c0, 7), some (.ref c1, 4), some (.int i2, 0), none, none] [] σ
  refine bk hG (cut := [5]) 400 ?_
  exact w7_jobOf_5 hG hRP F F _ _ h
set_option maxHeartbeats 4000000 in
set_option maxRecDepth 20000 in
theorem w2_assign_2 {E : EnvT} {G : GT} {RP : Option AV → Mem → Prop} {c1 : Nat} (hG : Cl E 15 2 tb_15 G RP) {r : Mem} (hRP : RP none r) (F : Nat) : ∀ (n : Nat) (x2 : Int32) (σ : Mem), m2_assign_2 F c1 n x2 σ = some r → G 2 [some (.ref 40, 2), some (.ref c1, 7), some (.int x2, 0)] [] σ := by
  intro n
  induction n with
  | zero => intro x2 σ h; unfold m2_assign_2 at h; cases h
  | succ n ih =>
    intro x2 σ h
    refine bk hG (cut := [2]) 400 ?_
    unfold m2_assign_2 at h
    refine And.intro (fun hq => ?_) (fun hq => ?_)
    · have h := i_pos hq h
      have e := Option.some.inj h
      subst e
      exact hRP
    · have h := i_neg hq h
      refine And.intro (fun hq => ?_) (fun hq => ?_)
      · have h := i_pos hq h
        have ⟨hg, h⟩ := g_gd h
        refine And.intro (inB_of hg) ?_
        exact ih _ _ h
      · have h := i_neg hq h
        have ⟨_, hc, h⟩ := b_some h
        refine Exists.intro _ (Exists.intro _ (Exists.intro _ (And.intro (c7_jobOf F _ _ _ _ hc) (And.intro (by decide) (And.intro (fun q => absurd q (by decide)) ?_)))))
        have ⟨hg, h⟩ := g_gd h
        refine And.intro (inB_of hg) ?_
        exact ih _ _ h
set_option maxHeartbeats 4000000 in
set_option maxRecDepth 20000 in
theorem c2_assign {E : EnvT} (F : Nat) (c1 : Nat) (σ : Mem) {r : Mem} (h : m2_assign F c1 σ = some r) : MetAt E 2 15 [(.ref 40, 2), (.ref c1, 7)] σ none r := by
  unfold m2_assign at h
  refine MetAt_of (tb := tb_15) (by decide) tbok_15 (Nat.le_of_ble_eq_true rfl) (fun a q => by cases q) (fun G hG => ?_)
  have hRP : (fun (a : Option AV) (τ : Mem) => a.map (conc E) = (none : Option AV).map (conc E) ∧ τ = r) none r := ⟨rfl, rfl⟩
  change G 0 [some (.ref 40, 2), some (.ref c1, 7), none] [] σ
  refine bk hG (cut := [2]) 400 ?_
  exact w2_assign_2 hG hRP F F _ _ h
set_option maxHeartbeats 4000000 in
set_option maxRecDepth 20000 in
theorem c2_isHot {E : EnvT} (F : Nat) (c1 : Nat) (i2 : Int32) (σ : Mem) {r : Int32} (h : m2_isHot F c1 i2 σ = some r) : MetAt E 0 17 [(.ref 40, 2), (.ref c1, 7), (.int i2, 0)] σ (some (.int r, 0)) σ := by
  unfold m2_isHot at h
  refine MetAt_of (tb := tb_17) (by decide) tbok_17 (Nat.le_of_ble_eq_true rfl) (fun a q => by cases q; trivial) (fun G hG => ?_)
  have hRP : (fun (a : Option AV) (τ : Mem) => a.map (conc E) = ((some (.int r, 0)) : Option AV).map (conc E) ∧ τ = σ) (some (.int r, 0)) σ := ⟨rfl, rfl⟩
  change G 0 [some (.ref 40, 2), some (.ref c1, 7), some (.int i2, 0)] [] σ
  refine bk hG (cut := []) 400 ?_
  have ⟨hg, h⟩ := g_gd h
  refine And.intro (inB_of hg) ?_
  have ⟨hg, h⟩ := g_gd h
  refine And.intro (inB_of hg) ?_
  have ⟨hg, h⟩ := g_gd h
  refine And.intro (inB_of hg) ?_
  refine And.intro (fun hq => ?_) (fun hq => ?_)
  · have h := i_pos hq h
    have e := Option.some.inj h
    subst e
    exact And.intro (Or.inl rfl) hRP
  · have h := i_neg hq h
    have e := Option.some.inj h
    subst e
    exact And.intro (Or.inr rfl) hRP
set_option maxHeartbeats 4000000 in
set_option maxRecDepth 20000 in
theorem w2_rivals_4 {E : EnvT} {G : GT} {RP : Option AV → Mem → Prop} {i1 : Int32} {σ : Mem} (hG : Cl E 19 0 tb_19 G RP) {r : Int32} (hRP : RP (some (.int r, 0)) σ) (F : Nat) : ∀ (n : Nat) (x2 : Int32) (x3 : Int32), m2_rivals_4 F i1 σ n x2 x3 = some r → G 4 [some (.ref 40, 2), some (.int i1, 0), some (.int x2, 0), some (.int x3, 0)] [] σ := by
  intro n
  induction n with
  | zero => intro x2 x3 h; unfold m2_rivals_4 at h; cases h
  | succ n ih =>
    intro x2 x3 h
    refine bk hG (cut := [4]) 400 ?_
    unfold m2_rivals_4 at h
    refine And.intro (fun hq => ?_) (fun hq => ?_)
    · have h := i_pos hq h
      have e := Option.some.inj h
      subst e
      exact hRP
    · have h := i_neg hq h
      refine And.intro (fun hq => ?_) (fun hq => ?_)
      · have h := i_pos hq h
        exact ih _ _ h
      · have h := i_neg hq h
        have ⟨hg, h⟩ := g_gd h
        refine And.intro (inB_of hg) ?_
        refine And.intro (fun hq => ?_) (fun hq => ?_)
        · have h := i_pos hq h
          exact ih _ _ h
        · have h := i_neg hq h
          have ⟨hg, h⟩ := g_gd h
          refine And.intro (inB_of hg) ?_
          have ⟨hg, h⟩ := g_gd h
          refine And.intro (inB_of hg) ?_
          have ⟨hg, h⟩ := g_gd h
          refine And.intro (inB_of hg) ?_
          have ⟨hg, h⟩ := g_gd h
          refine And.intro (inB_of hg) ?_
          refine And.intro (fun hq => ?_) (fun hq => ?_)
          · have h := i_pos hq h
            exact ih _ _ h
          · have h := i_neg hq h
            exact ih _ _ h
set_option maxHeartbeats 4000000 in
set_option maxRecDepth 20000 in
theorem c2_rivals {E : EnvT} (F : Nat) (i1 : Int32) (σ : Mem) {r : Int32} (h : m2_rivals F i1 σ = some r) : MetAt E 0 19 [(.ref 40, 2), (.int i1, 0)] σ (some (.int r, 0)) σ := by
  unfold m2_rivals at h
  refine MetAt_of (tb := tb_19) (by decide) tbok_19 (Nat.le_of_ble_eq_true rfl) (fun a q => by cases q; trivial) (fun G hG => ?_)
  have hRP : (fun (a : Option AV) (τ : Mem) => a.map (conc E) = ((some (.int r, 0)) : Option AV).map (conc E) ∧ τ = σ) (some (.int r, 0)) σ := ⟨rfl, rfl⟩
  change G 0 [some (.ref 40, 2), some (.int i1, 0), none, none] [] σ
  refine bk hG (cut := [4]) 400 ?_
  exact w2_rivals_4 hG hRP F F _ _ h
set_option maxHeartbeats 4000000 in
set_option maxRecDepth 20000 in
theorem w2_fillWords_175 {E : EnvT} {G : GT} {RP : Option AV → Mem → Prop} {c1 : Nat} {i2 : Int32} (hG : Cl E 18 1 tb_18 G RP) {r : Mem} (hRP : RP none r) (F : Nat) : ∀ (s1 : Int32) (s2 : Int64) (d3 : Option AV) (σ : Mem), m2_fillWords_175 F c1 i2 s1 s2 σ = some r → G 175 [some (.ref 40, 2), some (.ref c1, 7), some (.int i2, 0), d3] [(.long s2, 0), (.int s1, 0), (.ref 44, 107)] σ := by
  intro s1 s2 d3 σ h
  refine bk hG (cut := [47, 175]) 400 ?_
  unfold m2_fillWords_175 at h
  have ⟨hg, h⟩ := g_gd h
  refine And.intro (inB_of hg) ?_
  have ⟨_, hc, h⟩ := b_some h
  refine Exists.intro _ (Exists.intro _ (Exists.intro _ (And.intro (c2_rivals F _ _ hc) (And.intro (by decide) (And.intro (fun q => absurd q (by decide)) ?_)))))
  have ⟨hg, h⟩ := g_gd h
  refine And.intro (inB_of hg) ?_
  have ⟨hg, h⟩ := g_gd h
  refine And.intro (inB_of hg) ?_
  have ⟨hg, h⟩ := g_gd h
  refine And.intro (inB_of hg) ?_
  have ⟨hg, h⟩ := g_gd h
  refine And.intro (inB_of hg) ?_
  have ⟨hg, h⟩ := g_gd h
  refine And.intro (inB_of hg) ?_
  have ⟨hg, h⟩ := g_gd h
  refine And.intro (inB_of hg) ?_
  have ⟨hg, h⟩ := g_gd h
  refine And.intro (inB_of hg) ?_
  have e := Option.some.inj h
  subst e
  exact hRP
set_option maxHeartbeats 4000000 in
set_option maxRecDepth 20000 in
theorem w2_fillWords_47 {E : EnvT} {G : GT} {RP : Option AV → Mem → Prop} {c1 : Nat} {i2 : Int32} (hG : Cl E 18 1 tb_18 G RP) {r : Mem} (hRP : RP none r) (F : Nat) : ∀ (x3 : Int32) (s1 : Int32) (s2 : Int64) (σ : Mem), m2_fillWords_47 F c1 i2 x3 s1 s2 σ = some r → G 47 [some (.ref 40, 2), some (.ref c1, 7), some (.int i2, 0), some (.int x3, 0)] [(.long s2, 0), (.int s1, 0), (.ref 44, 107)] σ := by
  intro x3 s1 s2 σ h
  refine bk hG (cut := [47, 175]) 400 ?_
  unfold m2_fillWords_47 at h
  have ⟨hg, h⟩ := g_gd h
  refine And.intro (inB_of hg) ?_
  have ⟨hg, h⟩ := g_gd h
  refine And.intro (inB_of hg) ?_
  have ⟨hg, h⟩ := g_gd h
  refine And.intro (inB_of hg) ?_
  have ⟨hg, h⟩ := g_gd h
  refine And.intro (inB_of hg) ?_
  have ⟨hg, h⟩ := g_gd h
  refine And.intro (inB_of hg) ?_
  have ⟨hg, h⟩ := g_gd h
  refine And.intro (inB_of hg) ?_
  have ⟨hg, h⟩ := g_gd h
  refine And.intro (inB_of hg) ?_
  have ⟨hg, h⟩ := g_gd h
  refine And.intro (inB_of hg) ?_
  have ⟨hg, h⟩ := g_gd h
  refine And.intro (inB_of hg) ?_
  have ⟨hg, h⟩ := g_gd h
  refine And.intro (inB_of hg) ?_
  have ⟨hg, h⟩ := g_gd h
  refine And.intro (inB_of hg) ?_
  refine And.intro (fun hq => ?_) (fun hq => ?_)
  · have h := i_pos hq h
    have ⟨hg, h⟩ := g_gd h
    refine And.intro (inB_of hg) ?_
    have ⟨hg, h⟩ := g_gd h
    refine And.intro (inB_of hg) ?_
    exact w2_fillWords_175 hG hRP F _ _ _ _ h
  · have h := i_neg hq h
    have ⟨hg, h⟩ := g_gd h
    refine And.intro (inB_of hg) ?_
    have ⟨hg, h⟩ := g_gd h
    refine And.intro (inB_of hg) ?_
    exact w2_fillWords_175 hG hRP F _ _ _ _ h
set_option maxHeartbeats 4000000 in
set_option maxRecDepth 20000 in
theorem c2_fillWords {E : EnvT} (F : Nat) (c1 : Nat) (i2 : Int32) (σ : Mem) {r : Mem} (h : m2_fillWords F c1 i2 σ = some r) : MetAt E 1 18 [(.ref 40, 2), (.ref c1, 7), (.int i2, 0)] σ none r := by
  unfold m2_fillWords at h
  refine MetAt_of (tb := tb_18) (by decide) tbok_18 (Nat.le_of_ble_eq_true rfl) (fun a q => by cases q) (fun G hG => ?_)
  have hRP : (fun (a : Option AV) (τ : Mem) => a.map (conc E) = (none : Option AV).map (conc E) ∧ τ = r) none r := ⟨rfl, rfl⟩
  change G 0 [some (.ref 40, 2), some (.ref c1, 7), some (.int i2, 0), none] [] σ
  refine bk hG (cut := [47, 175]) 400 ?_
  have ⟨hg, h⟩ := g_gd h
  refine And.intro (inB_of hg) ?_
  have ⟨hg, h⟩ := g_gd h
  refine And.intro (inB_of hg) ?_
  have ⟨hg, h⟩ := g_gd h
  refine And.intro (inB_of hg) ?_
  have ⟨hg, h⟩ := g_gd h
  refine And.intro (inB_of hg) ?_
  have ⟨_, hc, h⟩ := b_some h
  refine Exists.intro _ (Exists.intro _ (Exists.intro _ (And.intro (c2_isHot F _ _ _ hc) (And.intro (by decide) (And.intro (fun q => absurd q (by decide)) ?_)))))
  refine And.intro (fun hq => ?_) (fun hq => ?_)
  · have h := i_pos hq h
    exact w2_fillWords_47 hG hRP F _ _ _ _ h
  · have h := i_neg hq h
    exact w2_fillWords_47 hG hRP F _ _ _ _ h
set_option maxHeartbeats 4000000 in
set_option maxRecDepth 20000 in
theorem w5_worked_383 {E : EnvT} {G : GT} {RP : Option AV → Mem → Prop} {c0 : Nat} {i1 : Int32} {i2 : Int32} (hG : Cl E 43 0 tb_43 G RP) {r : Int64 × Mem} (hRP : RP (some (.long r.1, 0)) r.2) (F : Nat) {k6 : Int32 → Int32 → Mem → Option (Int64 × Mem)} (hk6 : ∀ (x4 : Int32) (x5 : Int32) (d6 : Option AV) (d7 : Option AV) (d8 : Option AV) (d9 : Option AV) (d10 : Option AV) (σ : Mem), k6 x4 x5 σ = some r → G 6 [some (.ref c0, 5), some (.int i1, 0), some (.int i2, 0), some (.ref 44, 107), some (.int x4, 0), some (.int x5, 0), d6, d7, d8, d9, d10] [] σ) : ∀ (x4 : Int32) (x5 : Int32) (x7 : Int64) (d6 : Option AV) (d8 : Option AV) (d9 : Option AV) (d10 : Option AV) (σ : Mem), m5_worked_383 F c0 i1 i2 k6 x4 x5 x7 σ = some r → G 383 [some (.ref c0, 5), some (.int i1, 0), some (.int i2, 0), some (.ref 44, 107), some (.int x4, 0), some (.int x5, 0), d6, some (.long x7, 0), d8, d9, d10] [] σ := by
  intro x4 x5 x7 d6 d8 d9 d10 σ h
  refine bk hG (cut := [6, 250, 271, 289, 307, 325, 343, 361, 383]) 400 ?_
  unfold m5_worked_383 at h
  have ⟨hg, h⟩ := g_gd h
  refine And.intro (inB_of hg) ?_
  exact hk6 _ _ _ _ _ _ _ _ h
set_option maxHeartbeats 4000000 in
set_option maxRecDepth 20000 in
theorem w5_worked_361 {E : EnvT} {G : GT} {RP : Option AV → Mem → Prop} {c0 : Nat} {i1 : Int32} {i2 : Int32} (hG : Cl E 43 0 tb_43 G RP) {r : Int64 × Mem} (hRP : RP (some (.long r.1, 0)) r.2) (F : Nat) {k383 : Int32 → Int32 → Int64 → Mem → Option (Int64 × Mem)} (hk383 : ∀ (x4 : Int32) (x5 : Int32) (x7 : Int64) (d6 : Option AV) (d8 : Option AV) (d9 : Option AV) (d10 : Option AV) (σ : Mem), k383 x4 x5 x7 σ = some r → G 383 [some (.ref c0, 5), some (.int i1, 0), some (.int i2, 0), some (.ref 44, 107), some (.int x4, 0), some (.int x5, 0), d6, some (.long x7, 0), d8, d9, d10] [] σ) : ∀ (x4 : Int32) (x5 : Int32) (s0 : Int64) (d6 : Option AV) (d7 : Option AV) (d8 : Option AV) (d9 : Option AV) (d10 : Option AV) (σ : Mem), m5_worked_361 F c0 i1 i2 k383 x4 x5 s0 σ = some r → G 361 [some (.ref c0, 5), some (.int i1, 0), some (.int i2, 0), some (.ref 44, 107), some (.int x4, 0), some (.int x5, 0), d6, d7, d8, d9, d10] [(.long s0, 0)] σ := by
  intro x4 x5 s0 d6 d7 d8 d9 d10 σ h
  refine bk hG (cut := [6, 250, 271, 289, 307, 325, 343, 361, 383]) 400 ?_
  unfold m5_worked_361 at h
  exact hk383 _ _ _ _ _ _ _ _ h
set_option maxHeartbeats 4000000 in
set_option maxRecDepth 20000 in
theorem w5_worked_343 {E : EnvT} {G : GT} {RP : Option AV → Mem → Prop} {c0 : Nat} {i1 : Int32} {i2 : Int32} (hG : Cl E 43 0 tb_43 G RP) {r : Int64 × Mem} (hRP : RP (some (.long r.1, 0)) r.2) (F : Nat) {k383 : Int32 → Int32 → Int64 → Mem → Option (Int64 × Mem)} (hk383 : ∀ (x4 : Int32) (x5 : Int32) (x7 : Int64) (d6 : Option AV) (d8 : Option AV) (d9 : Option AV) (d10 : Option AV) (σ : Mem), k383 x4 x5 x7 σ = some r → G 383 [some (.ref c0, 5), some (.int i1, 0), some (.int i2, 0), some (.ref 44, 107), some (.int x4, 0), some (.int x5, 0), d6, some (.long x7, 0), d8, d9, d10] [] σ) : ∀ (x4 : Int32) (x5 : Int32) (s0 : Int64) (d6 : Option AV) (d7 : Option AV) (d8 : Option AV) (d9 : Option AV) (d10 : Option AV) (σ : Mem), m5_worked_343 F c0 i1 i2 k383 x4 x5 s0 σ = some r → G 343 [some (.ref c0, 5), some (.int i1, 0), some (.int i2, 0), some (.ref 44, 107), some (.int x4, 0), some (.int x5, 0), d6, d7, d8, d9, d10] [(.long s0, 0)] σ := by
  intro x4 x5 s0 d6 d7 d8 d9 d10 σ h
  refine bk hG (cut := [6, 250, 271, 289, 307, 325, 343, 361, 383]) 400 ?_
  unfold m5_worked_343 at h
  exact hk383 _ _ _ _ _ _ _ _ h
set_option maxHeartbeats 4000000 in
set_option maxRecDepth 20000 in
theorem w5_worked_325 {E : EnvT} {G : GT} {RP : Option AV → Mem → Prop} {c0 : Nat} {i1 : Int32} {i2 : Int32} (hG : Cl E 43 0 tb_43 G RP) {r : Int64 × Mem} (hRP : RP (some (.long r.1, 0)) r.2) (F : Nat) {k383 : Int32 → Int32 → Int64 → Mem → Option (Int64 × Mem)} (hk383 : ∀ (x4 : Int32) (x5 : Int32) (x7 : Int64) (d6 : Option AV) (d8 : Option AV) (d9 : Option AV) (d10 : Option AV) (σ : Mem), k383 x4 x5 x7 σ = some r → G 383 [some (.ref c0, 5), some (.int i1, 0), some (.int i2, 0), some (.ref 44, 107), some (.int x4, 0), some (.int x5, 0), d6, some (.long x7, 0), d8, d9, d10] [] σ) : ∀ (x4 : Int32) (x5 : Int32) (s0 : Int64) (d6 : Option AV) (d7 : Option AV) (d8 : Option AV) (d9 : Option AV) (d10 : Option AV) (σ : Mem), m5_worked_325 F c0 i1 i2 k383 x4 x5 s0 σ = some r → G 325 [some (.ref c0, 5), some (.int i1, 0), some (.int i2, 0), some (.ref 44, 107), some (.int x4, 0), some (.int x5, 0), d6, d7, d8, d9, d10] [(.long s0, 0)] σ := by
  intro x4 x5 s0 d6 d7 d8 d9 d10 σ h
  refine bk hG (cut := [6, 250, 271, 289, 307, 325, 343, 361, 383]) 400 ?_
  unfold m5_worked_325 at h
  exact hk383 _ _ _ _ _ _ _ _ h
set_option maxHeartbeats 4000000 in
set_option maxRecDepth 20000 in
theorem w5_worked_307 {E : EnvT} {G : GT} {RP : Option AV → Mem → Prop} {c0 : Nat} {i1 : Int32} {i2 : Int32} (hG : Cl E 43 0 tb_43 G RP) {r : Int64 × Mem} (hRP : RP (some (.long r.1, 0)) r.2) (F : Nat) {k383 : Int32 → Int32 → Int64 → Mem → Option (Int64 × Mem)} (hk383 : ∀ (x4 : Int32) (x5 : Int32) (x7 : Int64) (d6 : Option AV) (d8 : Option AV) (d9 : Option AV) (d10 : Option AV) (σ : Mem), k383 x4 x5 x7 σ = some r → G 383 [some (.ref c0, 5), some (.int i1, 0), some (.int i2, 0), some (.ref 44, 107), some (.int x4, 0), some (.int x5, 0), d6, some (.long x7, 0), d8, d9, d10] [] σ) : ∀ (x4 : Int32) (x5 : Int32) (s0 : Int64) (d6 : Option AV) (d7 : Option AV) (d8 : Option AV) (d9 : Option AV) (d10 : Option AV) (σ : Mem), m5_worked_307 F c0 i1 i2 k383 x4 x5 s0 σ = some r → G 307 [some (.ref c0, 5), some (.int i1, 0), some (.int i2, 0), some (.ref 44, 107), some (.int x4, 0), some (.int x5, 0), d6, d7, d8, d9, d10] [(.long s0, 0)] σ := by
  intro x4 x5 s0 d6 d7 d8 d9 d10 σ h
  refine bk hG (cut := [6, 250, 271, 289, 307, 325, 343, 361, 383]) 400 ?_
  unfold m5_worked_307 at h
  exact hk383 _ _ _ _ _ _ _ _ h
set_option maxHeartbeats 4000000 in
set_option maxRecDepth 20000 in
theorem w5_worked_289 {E : EnvT} {G : GT} {RP : Option AV → Mem → Prop} {c0 : Nat} {i1 : Int32} {i2 : Int32} (hG : Cl E 43 0 tb_43 G RP) {r : Int64 × Mem} (hRP : RP (some (.long r.1, 0)) r.2) (F : Nat) {k383 : Int32 → Int32 → Int64 → Mem → Option (Int64 × Mem)} (hk383 : ∀ (x4 : Int32) (x5 : Int32) (x7 : Int64) (d6 : Option AV) (d8 : Option AV) (d9 : Option AV) (d10 : Option AV) (σ : Mem), k383 x4 x5 x7 σ = some r → G 383 [some (.ref c0, 5), some (.int i1, 0), some (.int i2, 0), some (.ref 44, 107), some (.int x4, 0), some (.int x5, 0), d6, some (.long x7, 0), d8, d9, d10] [] σ) : ∀ (x4 : Int32) (x5 : Int32) (s0 : Int64) (d6 : Option AV) (d7 : Option AV) (d8 : Option AV) (d9 : Option AV) (d10 : Option AV) (σ : Mem), m5_worked_289 F c0 i1 i2 k383 x4 x5 s0 σ = some r → G 289 [some (.ref c0, 5), some (.int i1, 0), some (.int i2, 0), some (.ref 44, 107), some (.int x4, 0), some (.int x5, 0), d6, d7, d8, d9, d10] [(.long s0, 0)] σ := by
  intro x4 x5 s0 d6 d7 d8 d9 d10 σ h
  refine bk hG (cut := [6, 250, 271, 289, 307, 325, 343, 361, 383]) 400 ?_
  unfold m5_worked_289 at h
  exact hk383 _ _ _ _ _ _ _ _ h
set_option maxHeartbeats 4000000 in
set_option maxRecDepth 20000 in
theorem w5_worked_271 {E : EnvT} {G : GT} {RP : Option AV → Mem → Prop} {c0 : Nat} {i1 : Int32} {i2 : Int32} (hG : Cl E 43 0 tb_43 G RP) {r : Int64 × Mem} (hRP : RP (some (.long r.1, 0)) r.2) (F : Nat) {k383 : Int32 → Int32 → Int64 → Mem → Option (Int64 × Mem)} (hk383 : ∀ (x4 : Int32) (x5 : Int32) (x7 : Int64) (d6 : Option AV) (d8 : Option AV) (d9 : Option AV) (d10 : Option AV) (σ : Mem), k383 x4 x5 x7 σ = some r → G 383 [some (.ref c0, 5), some (.int i1, 0), some (.int i2, 0), some (.ref 44, 107), some (.int x4, 0), some (.int x5, 0), d6, some (.long x7, 0), d8, d9, d10] [] σ) : ∀ (x4 : Int32) (x5 : Int32) (s0 : Int64) (d6 : Option AV) (d7 : Option AV) (d8 : Option AV) (d9 : Option AV) (d10 : Option AV) (σ : Mem), m5_worked_271 F c0 i1 i2 k383 x4 x5 s0 σ = some r → G 271 [some (.ref c0, 5), some (.int i1, 0), some (.int i2, 0), some (.ref 44, 107), some (.int x4, 0), some (.int x5, 0), d6, d7, d8, d9, d10] [(.long s0, 0)] σ := by
  intro x4 x5 s0 d6 d7 d8 d9 d10 σ h
  refine bk hG (cut := [6, 250, 271, 289, 307, 325, 343, 361, 383]) 400 ?_
  unfold m5_worked_271 at h
  exact hk383 _ _ _ _ _ _ _ _ h
set_option maxHeartbeats 4000000 in
set_option maxRecDepth 20000 in
theorem w5_worked_250 {E : EnvT} {G : GT} {RP : Option AV → Mem → Prop} {c0 : Nat} {i1 : Int32} {i2 : Int32} (hG : Cl E 43 0 tb_43 G RP) {r : Int64 × Mem} (hRP : RP (some (.long r.1, 0)) r.2) (F : Nat) {k383 : Int32 → Int32 → Int64 → Mem → Option (Int64 × Mem)} (hk383 : ∀ (x4 : Int32) (x5 : Int32) (x7 : Int64) (d6 : Option AV) (d8 : Option AV) (d9 : Option AV) (d10 : Option AV) (σ : Mem), k383 x4 x5 x7 σ = some r → G 383 [some (.ref c0, 5), some (.int i1, 0), some (.int i2, 0), some (.ref 44, 107), some (.int x4, 0), some (.int x5, 0), d6, some (.long x7, 0), d8, d9, d10] [] σ) : ∀ (x4 : Int32) (x5 : Int32) (s0 : Int64) (d6 : Option AV) (d7 : Option AV) (d8 : Option AV) (d9 : Option AV) (d10 : Option AV) (σ : Mem), m5_worked_250 F c0 i1 i2 k383 x4 x5 s0 σ = some r → G 250 [some (.ref c0, 5), some (.int i1, 0), some (.int i2, 0), some (.ref 44, 107), some (.int x4, 0), some (.int x5, 0), d6, d7, d8, d9, d10] [(.long s0, 0)] σ := by
  intro x4 x5 s0 d6 d7 d8 d9 d10 σ h
  refine bk hG (cut := [6, 250, 271, 289, 307, 325, 343, 361, 383]) 400 ?_
  unfold m5_worked_250 at h
  exact hk383 _ _ _ _ _ _ _ _ h
set_option maxHeartbeats 4000000 in
set_option maxRecDepth 20000 in
theorem w5_worked_6 {E : EnvT} {G : GT} {RP : Option AV → Mem → Prop} {c0 : Nat} {i1 : Int32} {i2 : Int32} (hG : Cl E 43 0 tb_43 G RP) {r : Int64 × Mem} (hRP : RP (some (.long r.1, 0)) r.2) (F : Nat) : ∀ (n : Nat) (x4 : Int32) (x5 : Int32) (d6 : Option AV) (d7 : Option AV) (d8 : Option AV) (d9 : Option AV) (d10 : Option AV) (σ : Mem), m5_worked_6 F c0 i1 i2 n x4 x5 σ = some r → G 6 [some (.ref c0, 5), some (.int i1, 0), some (.int i2, 0), some (.ref 44, 107), some (.int x4, 0), some (.int x5, 0), d6, d7, d8, d9, d10] [] σ := by
  intro n
  induction n with
  | zero => intro x4 x5 d6 d7 d8 d9 d10 σ h; unfold m5_worked_6 at h; cases h
  | succ n ih =>
    intro x4 x5 d6 d7 d8 d9 d10 σ h
    refine bk hG (cut := [6, 250, 271, 289, 307, 325, 343, 361, 383]) 400 ?_
    unfold m5_worked_6 at h
    refine And.intro (fun hq => ?_) (fun hq => ?_)
    · have h := i_pos hq h
      refine And.intro (fun hq => ?_) (fun hq => ?_)
      · have h := i_pos hq h
        have e := Option.some.inj h
        subst e
        exact hRP
      · have h := i_neg hq h
        have ⟨hg, h⟩ := g_gd h
        refine And.intro (inB_of hg) ?_
        have e := Option.some.inj h
        subst e
        exact hRP
    · have h := i_neg hq h
      have ⟨hg, h⟩ := g_gd h
      refine And.intro (inB_of hg) ?_
      refine And.intro (fun hq => ?_) (fun hq => ?_)
      · have h := i_pos hq h
        refine And.intro (fun hq => ?_) (fun hq => ?_)
        · have h := i_pos hq h
          refine And.intro (fun hq => ?_) (fun hq => ?_)
          · have h := i_pos hq h
            exact ih _ _ _ _ _ _ _ _ h
          · have h := i_neg hq h
            have ⟨hg, h⟩ := g_gd h
            refine And.intro (inB_of hg) ?_
            have ⟨hg, h⟩ := g_gd h
            refine And.intro (inB_of hg) ?_
            exact ih _ _ _ _ _ _ _ _ h
        · have h := i_neg hq h
          refine And.intro (fun hq => ?_) (fun hq => ?_)
          · have h := i_pos hq h
            exact ih _ _ _ _ _ _ _ _ h
          · have h := i_neg hq h
            have ⟨hg, h⟩ := g_gd h
            refine And.intro (inB_of hg) ?_
            have ⟨hg, h⟩ := g_gd h
            refine And.intro (inB_of hg) ?_
            refine And.intro (fun hq => ?_) (fun hq => ?_)
            · have h := i_pos hq h
              exact w5_worked_383 hG hRP F (fun _ _ _ _ _ _ _ _ h => ih _ _ _ _ _ _ _ _ h) _ _ _ _ _ _ _ _ h
            have h := i_neg hq h
            refine And.intro (fun hq => ?_) (fun hq => ?_)
            · have h := i_pos hq h
              exact w5_worked_383 hG hRP F (fun _ _ _ _ _ _ _ _ h => ih _ _ _ _ _ _ _ _ h) _ _ _ _ _ _ _ _ h
            have h := i_neg hq h
            refine And.intro (fun hq => ?_) (fun hq => ?_)
            · have h := i_pos hq h
              refine And.intro (fun hq => ?_) (fun hq => ?_)
              · have h := i_pos hq h
                exact w5_worked_361 hG hRP F (fun _ _ _ _ _ _ _ _ h => w5_worked_383 hG hRP F (fun _ _ _ _ _ _ _ _ h => ih _ _ _ _ _ _ _ _ h) _ _ _ _ _ _ _ _ h) _ _ _ _ _ _ _ _ _ h
              · have h := i_neg hq h
                exact w5_worked_361 hG hRP F (fun _ _ _ _ _ _ _ _ h => w5_worked_383 hG hRP F (fun _ _ _ _ _ _ _ _ h => ih _ _ _ _ _ _ _ _ h) _ _ _ _ _ _ _ _ h) _ _ _ _ _ _ _ _ _ h
            have h := i_neg hq h
            refine And.intro (fun hq => ?_) (fun hq => ?_)
            · have h := i_pos hq h
              refine And.intro (fun hq => ?_) (fun hq => ?_)
              · have h := i_pos hq h
                exact w5_worked_343 hG hRP F (fun _ _ _ _ _ _ _ _ h => w5_worked_383 hG hRP F (fun _ _ _ _ _ _ _ _ h => ih _ _ _ _ _ _ _ _ h) _ _ _ _ _ _ _ _ h) _ _ _ _ _ _ _ _ _ h
              · have h := i_neg hq h
                exact w5_worked_343 hG hRP F (fun _ _ _ _ _ _ _ _ h => w5_worked_383 hG hRP F (fun _ _ _ _ _ _ _ _ h => ih _ _ _ _ _ _ _ _ h) _ _ _ _ _ _ _ _ h) _ _ _ _ _ _ _ _ _ h
            have h := i_neg hq h
            refine And.intro (fun hq => ?_) (fun hq => ?_)
            · have h := i_pos hq h
              refine And.intro (fun hq => ?_) (fun hq => ?_)
              · have h := i_pos hq h
                exact w5_worked_325 hG hRP F (fun _ _ _ _ _ _ _ _ h => w5_worked_383 hG hRP F (fun _ _ _ _ _ _ _ _ h => ih _ _ _ _ _ _ _ _ h) _ _ _ _ _ _ _ _ h) _ _ _ _ _ _ _ _ _ h
              · have h := i_neg hq h
                exact w5_worked_325 hG hRP F (fun _ _ _ _ _ _ _ _ h => w5_worked_383 hG hRP F (fun _ _ _ _ _ _ _ _ h => ih _ _ _ _ _ _ _ _ h) _ _ _ _ _ _ _ _ h) _ _ _ _ _ _ _ _ _ h
            have h := i_neg hq h
            refine And.intro (fun hq => ?_) (fun hq => ?_)
            · have h := i_pos hq h
              refine And.intro (fun hq => ?_) (fun hq => ?_)
              · have h := i_pos hq h
                exact w5_worked_307 hG hRP F (fun _ _ _ _ _ _ _ _ h => w5_worked_383 hG hRP F (fun _ _ _ _ _ _ _ _ h => ih _ _ _ _ _ _ _ _ h) _ _ _ _ _ _ _ _ h) _ _ _ _ _ _ _ _ _ h
              · have h := i_neg hq h
                exact w5_worked_307 hG hRP F (fun _ _ _ _ _ _ _ _ h => w5_worked_383 hG hRP F (fun _ _ _ _ _ _ _ _ h => ih _ _ _ _ _ _ _ _ h) _ _ _ _ _ _ _ _ h) _ _ _ _ _ _ _ _ _ h
            have h := i_neg hq h
            refine And.intro (fun hq => ?_) (fun hq => ?_)
            · have h := i_pos hq h
              refine And.intro (fun hq => ?_) (fun hq => ?_)
              · have h := i_pos hq h
                exact w5_worked_289 hG hRP F (fun _ _ _ _ _ _ _ _ h => w5_worked_383 hG hRP F (fun _ _ _ _ _ _ _ _ h => ih _ _ _ _ _ _ _ _ h) _ _ _ _ _ _ _ _ h) _ _ _ _ _ _ _ _ _ h
              · have h := i_neg hq h
                exact w5_worked_289 hG hRP F (fun _ _ _ _ _ _ _ _ h => w5_worked_383 hG hRP F (fun _ _ _ _ _ _ _ _ h => ih _ _ _ _ _ _ _ _ h) _ _ _ _ _ _ _ _ h) _ _ _ _ _ _ _ _ _ h
            have h := i_neg hq h
            refine And.intro (fun hq => ?_) (fun hq => ?_)
            · have h := i_pos hq h
              refine And.intro (fun hq => ?_) (fun hq => ?_)
              · have h := i_pos hq h
                exact w5_worked_271 hG hRP F (fun _ _ _ _ _ _ _ _ h => w5_worked_383 hG hRP F (fun _ _ _ _ _ _ _ _ h => ih _ _ _ _ _ _ _ _ h) _ _ _ _ _ _ _ _ h) _ _ _ _ _ _ _ _ _ h
              · have h := i_neg hq h
                have ⟨hg, h⟩ := g_gd h
                refine And.intro hg ?_
                exact w5_worked_271 hG hRP F (fun _ _ _ _ _ _ _ _ h => w5_worked_383 hG hRP F (fun _ _ _ _ _ _ _ _ h => ih _ _ _ _ _ _ _ _ h) _ _ _ _ _ _ _ _ h) _ _ _ _ _ _ _ _ _ h
            have h := i_neg hq h
            refine And.intro (fun hq => ?_) (fun hq => ?_)
            · have h := i_pos hq h
              refine And.intro (fun hq => ?_) (fun hq => ?_)
              · have h := i_pos hq h
                exact w5_worked_250 hG hRP F (fun _ _ _ _ _ _ _ _ h => w5_worked_383 hG hRP F (fun _ _ _ _ _ _ _ _ h => ih _ _ _ _ _ _ _ _ h) _ _ _ _ _ _ _ _ h) _ _ _ _ _ _ _ _ _ h
              · have h := i_neg hq h
                have ⟨hg, h⟩ := g_gd h
                refine And.intro hg ?_
                exact w5_worked_250 hG hRP F (fun _ _ _ _ _ _ _ _ h => w5_worked_383 hG hRP F (fun _ _ _ _ _ _ _ _ h => ih _ _ _ _ _ _ _ _ h) _ _ _ _ _ _ _ _ h) _ _ _ _ _ _ _ _ _ h
            have h := i_neg hq h
            refine And.intro (fun hq => ?_) (fun hq => ?_)
            · have h := i_pos hq h
              exact w5_worked_383 hG hRP F (fun _ _ _ _ _ _ _ _ h => ih _ _ _ _ _ _ _ _ h) _ _ _ _ _ _ _ _ h
            have h := i_neg hq h
            refine And.intro (fun hq => ?_) (fun hq => ?_)
            · have h := i_pos hq h
              exact w5_worked_383 hG hRP F (fun _ _ _ _ _ _ _ _ h => ih _ _ _ _ _ _ _ _ h) _ _ _ _ _ _ _ _ h
            have h := i_neg hq h
            refine And.intro (fun hq => ?_) (fun hq => ?_)
            · have h := i_pos hq h
              exact w5_worked_383 hG hRP F (fun _ _ _ _ _ _ _ _ h => ih _ _ _ _ _ _ _ _ h) _ _ _ _ _ _ _ _ h
            have h := i_neg hq h
            exact w5_worked_383 hG hRP F (fun _ _ _ _ _ _ _ _ h => ih _ _ _ _ _ _ _ _ h) _ _ _ _ _ _ _ _ h
      · have h := i_neg hq h
        refine And.intro (fun hq => ?_) (fun hq => ?_)
        · have h := i_pos hq h
          exact ih _ _ _ _ _ _ _ _ h
        · have h := i_neg hq h
          refine And.intro (fun hq => ?_) (fun hq => ?_)
          · have h := i_pos hq h
            exact ih _ _ _ _ _ _ _ _ h
          · have h := i_neg hq h
            refine And.intro (fun hq => ?_) (fun hq => ?_)
            · have h := i_pos hq h
              have ⟨hg, h⟩ := g_gd h
              refine And.intro (inB_of hg) ?_
              have ⟨hg, h⟩ := g_gd h
              refine And.intro (inB_of hg) ?_
              exact ih _ _ _ _ _ _ _ _ h
            · have h := i_neg hq h
              have ⟨hg, h⟩ := g_gd h
              refine And.intro (inB_of hg) ?_
              exact ih _ _ _ _ _ _ _ _ h
set_option maxHeartbeats 4000000 in
set_option maxRecDepth 20000 in
theorem c5_worked {E : EnvT} (F : Nat) (c0 : Nat) (i1 : Int32) (i2 : Int32) (σ : Mem) {r : Int64 × Mem} (h : m5_worked F c0 i1 i2 σ = some r) : MetAt E 0 43 [(.ref c0, 5), (.int i1, 0), (.int i2, 0), (.ref 44, 107)] σ (some (.long r.1, 0)) r.2 := by
  unfold m5_worked at h
  refine MetAt_of (tb := tb_43) (by decide) tbok_43 (Nat.le_of_ble_eq_true rfl) (fun a q => by cases q; trivial) (fun G hG => ?_)
  have hRP : (fun (a : Option AV) (τ : Mem) => a.map (conc E) = ((some (.long r.1, 0)) : Option AV).map (conc E) ∧ τ = r.2) (some (.long r.1, 0)) r.2 := ⟨rfl, rfl⟩
  change G 0 [some (.ref c0, 5), some (.int i1, 0), some (.int i2, 0), some (.ref 44, 107), none, none, none, none, none, none, none] [] σ
  refine bk hG (cut := [6, 250, 271, 289, 307, 325, 343, 361, 383]) 400 ?_
  exact w5_worked_6 hG hRP F F _ _ _ _ _ _ _ _ h
set_option maxHeartbeats 4000000 in
set_option maxRecDepth 20000 in
theorem w5_strikes_53 {E : EnvT} {G : GT} {RP : Option AV → Mem → Prop} {c0 : Nat} (hG : Cl E 42 1 tb_42 G RP) {r : Int32 × Mem} (hRP : RP (some (.int r.1, 0)) r.2) (F : Nat) : ∀ (x2 : Int32) (σ : Mem), m5_strikes_53 F c0 x2 σ = some r → G 53 [some (.ref c0, 5), some (.ref 44, 107), some (.int x2, 0)] [] σ := by
  intro x2 σ h
  refine bk hG (cut := [2, 53]) 400 ?_
  unfold m5_strikes_53 at h
  have ⟨hg, h⟩ := g_gd h
  refine And.intro (inB_of hg) ?_
  have ⟨hg, h⟩ := g_gd h
  refine And.intro (inB_of hg) ?_
  have ⟨_, hc, h⟩ := b_some h
  refine Exists.intro _ (Exists.intro _ (Exists.intro _ (And.intro (c5_worked F _ _ _ _ hc) (And.intro (by decide) (And.intro (fun q => absurd q (by decide)) ?_)))))
  refine And.intro (fun hq => ?_) (fun hq => ?_)
  · have h := i_pos hq h
    have e := Option.some.inj h
    subst e
    exact And.intro (Or.inl rfl) hRP
  · have h := i_neg hq h
    have e := Option.some.inj h
    subst e
    exact And.intro (Or.inr rfl) hRP
set_option maxHeartbeats 4000000 in
set_option maxRecDepth 20000 in
theorem w5_strikes_2 {E : EnvT} {G : GT} {RP : Option AV → Mem → Prop} {c0 : Nat} (hG : Cl E 42 1 tb_42 G RP) {r : Int32 × Mem} (hRP : RP (some (.int r.1, 0)) r.2) (F : Nat) : ∀ (n : Nat) (x2 : Int32) (σ : Mem), m5_strikes_2 F c0 n x2 σ = some r → G 2 [some (.ref c0, 5), some (.ref 44, 107), some (.int x2, 0)] [] σ := by
  intro n
  induction n with
  | zero => intro x2 σ h; unfold m5_strikes_2 at h; cases h
  | succ n ih =>
    intro x2 σ h
    refine bk hG (cut := [2, 53]) 400 ?_
    unfold m5_strikes_2 at h
    refine And.intro (fun hq => ?_) (fun hq => ?_)
    · have h := i_pos hq h
      have e := Option.some.inj h
      subst e
      exact And.intro (Or.inl rfl) hRP
    · have h := i_neg hq h
      refine And.intro (fun hq => ?_) (fun hq => ?_)
      · have h := i_pos hq h
        have e := Option.some.inj h
        subst e
        exact And.intro (Or.inl rfl) hRP
      · have h := i_neg hq h
        have ⟨hg, h⟩ := g_gd h
        refine And.intro (inB_of hg) ?_
        have ⟨hg, h⟩ := g_gd h
        refine And.intro (inB_of hg) ?_
        refine And.intro (fun hq => ?_) (fun hq => ?_)
        · have h := i_pos hq h
          exact w5_strikes_53 hG hRP F _ _ h
        · have h := i_neg hq h
          have ⟨hg, h⟩ := g_gd h
          refine And.intro (inB_of hg) ?_
          have ⟨hg, h⟩ := g_gd h
          refine And.intro (inB_of hg) ?_
          have ⟨_, hc, h⟩ := b_some h
          refine Exists.intro _ (Exists.intro _ (Exists.intro _ (And.intro (c5_worked F _ _ _ _ hc) (And.intro (by decide) (And.intro (fun q => absurd q (by decide)) ?_)))))
          refine And.intro (fun hq => ?_) (fun hq => ?_)
          · have h := i_pos hq h
            exact ih _ _ h
          · have h := i_neg hq h
            exact w5_strikes_53 hG hRP F _ _ h
set_option maxHeartbeats 4000000 in
set_option maxRecDepth 20000 in
theorem c5_strikes {E : EnvT} (F : Nat) (c0 : Nat) (σ : Mem) {r : Int32 × Mem} (h : m5_strikes F c0 σ = some r) : MetAt E 1 42 [(.ref c0, 5), (.ref 44, 107)] σ (some (.int r.1, 0)) r.2 := by
  unfold m5_strikes at h
  refine MetAt_of (tb := tb_42) (by decide) tbok_42 (Nat.le_of_ble_eq_true rfl) (fun a q => by cases q; trivial) (fun G hG => ?_)
  have hRP : (fun (a : Option AV) (τ : Mem) => a.map (conc E) = ((some (.int r.1, 0)) : Option AV).map (conc E) ∧ τ = r.2) (some (.int r.1, 0)) r.2 := ⟨rfl, rfl⟩
  change G 0 [some (.ref c0, 5), some (.ref 44, 107), none] [] σ
  refine bk hG (cut := [2, 53]) 400 ?_
  exact w5_strikes_2 hG hRP F F _ _ h
set_option maxHeartbeats 4000000 in
set_option maxRecDepth 20000 in
theorem c2_willsToStrike {E : EnvT} (F : Nat) (c1 : Nat) (i2 : Int32) (σ : Mem) {r : Int32 × Mem} (h : m2_willsToStrike F c1 i2 σ = some r) : MetAt E 2 16 [(.ref 40, 2), (.ref c1, 7), (.int i2, 0)] σ (some (.int r.1, 0)) r.2 := by
  unfold m2_willsToStrike at h
  refine MetAt_of (tb := tb_16) (by decide) tbok_16 (Nat.le_of_ble_eq_true rfl) (fun a q => by cases q; trivial) (fun G hG => ?_)
  have hRP : (fun (a : Option AV) (τ : Mem) => a.map (conc E) = ((some (.int r.1, 0)) : Option AV).map (conc E) ∧ τ = r.2) (some (.int r.1, 0)) r.2 := ⟨rfl, rfl⟩
  change G 0 [some (.ref 40, 2), some (.ref c1, 7), some (.int i2, 0)] [] σ
  refine bk hG (cut := []) 400 ?_
  refine And.intro (fun hq => ?_) (fun hq => ?_)
  · have h := i_pos hq h
    have ⟨hg, h⟩ := g_gd h
    refine And.intro hg ?_
    refine And.intro (fun hq => ?_) (fun hq => ?_)
    · have h := i_pos hq h
      have ⟨_, hc, h⟩ := b_some h
      refine Exists.intro _ (Exists.intro _ (Exists.intro _ (And.intro (c2_isHot F _ _ _ hc) (And.intro (by decide) (And.intro (fun q => absurd q (by decide)) ?_)))))
      have ⟨hg, h⟩ := g_gd h
      have e := Option.some.inj h
      subst e
      exact And.intro (hg) hRP
    · have h := i_neg hq h
      have ⟨_, hc, h⟩ := b_some h
      refine Exists.intro _ (Exists.intro _ (Exists.intro _ (And.intro (c2_fillWords F _ _ _ hc) (And.intro (by decide) (And.intro (fun q => absurd q (by decide)) ?_)))))
      have ⟨hg, h⟩ := g_gd h
      refine And.intro hg ?_
      have ⟨hz, h⟩ := g_ifn h
      have ⟨_, hc, h⟩ := b_some h
      refine Exists.intro _ (Exists.intro _ (Exists.intro _ (And.intro (c5_strikes F _ _ hc) (And.intro (by decide) (And.intro (fun _ => hz) ?_)))))
      have ⟨hg, h⟩ := g_gd h
      have e := Option.some.inj h
      subst e
      exact And.intro (hg) hRP
  · have h := i_neg hq h
    refine And.intro (fun hq => ?_) (fun hq => ?_)
    · have h := i_pos hq h
      have e := Option.some.inj h
      subst e
      exact And.intro (Or.inr rfl) hRP
    · have h := i_neg hq h
      have e := Option.some.inj h
      subst e
      exact And.intro (Or.inl rfl) hRP
set_option maxHeartbeats 4000000 in
set_option maxRecDepth 20000 in
theorem w2_heatUp_32 {E : EnvT} {G : GT} {RP : Option AV → Mem → Prop} {c1 : Nat} {i2 : Int32} (hG : Cl E 21 0 tb_21 G RP) {r : Mem} (hRP : RP none r) (F : Nat) : ∀ (σ : Mem), m2_heatUp_32 F c1 i2 σ = some r → G 32 [some (.ref 40, 2), some (.ref c1, 7), some (.int i2, 0)] [] σ := by
  intro σ h
  refine bk hG (cut := [32]) 400 ?_
  unfold m2_heatUp_32 at h
  have ⟨hg, h⟩ := g_gd h
  refine And.intro (inB_of hg) ?_
  refine And.intro (fun hq => ?_) (fun hq => ?_)
  · have h := i_pos hq h
    have e := Option.some.inj h
    subst e
    exact hRP
  · have h := i_neg hq h
    have ⟨hg, h⟩ := g_gd h
    refine And.intro (inB_of hg) ?_
    have ⟨hg, h⟩ := g_gd h
    refine And.intro (inB_of hg) ?_
    have ⟨hg, h⟩ := g_gd h
    refine And.intro (inB_of hg) ?_
    have ⟨hg, h⟩ := g_gd h
    refine And.intro (inB_of hg) ?_
    have ⟨hg, h⟩ := g_gd h
    refine And.intro (inB_of hg) ?_
    have ⟨hg, h⟩ := g_gd h
    refine And.intro (inB_of hg) ?_
    have ⟨hg, h⟩ := g_gd h
    refine And.intro (inB_of hg) ?_
    have e := Option.some.inj h
    subst e
    exact hRP
set_option maxHeartbeats 4000000 in
set_option maxRecDepth 20000 in
theorem c2_heatUp {E : EnvT} (F : Nat) (c1 : Nat) (i2 : Int32) (σ : Mem) {r : Mem} (h : m2_heatUp F c1 i2 σ = some r) : MetAt E 0 21 [(.ref 40, 2), (.ref c1, 7), (.int i2, 0)] σ none r := by
  unfold m2_heatUp at h
  refine MetAt_of (tb := tb_21) (by decide) tbok_21 (Nat.le_of_ble_eq_true rfl) (fun a q => by cases q) (fun G hG => ?_)
  have hRP : (fun (a : Option AV) (τ : Mem) => a.map (conc E) = (none : Option AV).map (conc E) ∧ τ = r) none r := ⟨rfl, rfl⟩
  change G 0 [some (.ref 40, 2), some (.ref c1, 7), some (.int i2, 0)] [] σ
  refine bk hG (cut := [32]) 400 ?_
  have ⟨hg, h⟩ := g_gd h
  refine And.intro (inB_of hg) ?_
  refine And.intro (fun hq => ?_) (fun hq => ?_)
  · have h := i_pos hq h
    have ⟨hg, h⟩ := g_gd h
    refine And.intro (inB_of hg) ?_
    have ⟨hg, h⟩ := g_gd h
    refine And.intro (inB_of hg) ?_
    have ⟨hg, h⟩ := g_gd h
    refine And.intro (inB_of hg) ?_
    exact w2_heatUp_32 hG hRP F _ h
  · have h := i_neg hq h
    exact w2_heatUp_32 hG hRP F _ h
set_option maxHeartbeats 4000000 in
set_option maxRecDepth 20000 in
theorem c2_isFree {E : EnvT} (F : Nat) (c1 : Nat) (i2 : Int32) (σ : Mem) {r : Int32} (h : m2_isFree F c1 i2 σ = some r) : MetAt E 0 23 [(.ref 40, 2), (.ref c1, 7), (.int i2, 0)] σ (some (.int r, 0)) σ := by
  unfold m2_isFree at h
  refine MetAt_of (tb := tb_23) (by decide) tbok_23 (Nat.le_of_ble_eq_true rfl) (fun a q => by cases q; trivial) (fun G hG => ?_)
  have hRP : (fun (a : Option AV) (τ : Mem) => a.map (conc E) = ((some (.int r, 0)) : Option AV).map (conc E) ∧ τ = σ) (some (.int r, 0)) σ := ⟨rfl, rfl⟩
  change G 0 [some (.ref 40, 2), some (.ref c1, 7), some (.int i2, 0)] [] σ
  refine bk hG (cut := []) 400 ?_
  have ⟨hg, h⟩ := g_gd h
  refine And.intro (inB_of hg) ?_
  refine And.intro (fun hq => ?_) (fun hq => ?_)
  · have h := i_pos hq h
    have ⟨hg, h⟩ := g_gd h
    refine And.intro (inB_of hg) ?_
    refine And.intro (fun hq => ?_) (fun hq => ?_)
    · have h := i_pos hq h
      have e := Option.some.inj h
      subst e
      exact And.intro (Or.inl rfl) hRP
    · have h := i_neg hq h
      have e := Option.some.inj h
      subst e
      exact And.intro (Or.inr rfl) hRP
  · have h := i_neg hq h
    have e := Option.some.inj h
    subst e
    exact And.intro (Or.inl rfl) hRP
set_option maxHeartbeats 4000000 in
set_option maxRecDepth 20000 in
theorem w2_takes_79 {E : EnvT} {G : GT} {RP : Option AV → Mem → Prop} {c1 : Nat} {i2 : Int32} (hG : Cl E 22 1 tb_22 G RP) {r : Int32 × Mem} (hRP : RP (some (.int r.1, 0)) r.2) (F : Nat) : ∀ (n : Nat) (x3 : Int32) (x4 : Int32) (σ : Mem), m2_takes_79 F c1 i2 n x3 x4 σ = some r → G 79 [some (.ref 40, 2), some (.ref c1, 7), some (.int i2, 0), some (.int x3, 0), some (.int x4, 0)] [] σ := by
  intro n
  induction n with
  | zero => intro x3 x4 σ h; unfold m2_takes_79 at h; cases h
  | succ n ih =>
    intro x3 x4 σ h
    refine bk hG (cut := [42, 79]) 400 ?_
    unfold m2_takes_79 at h
    refine And.intro (fun hq => ?_) (fun hq => ?_)
    · have h := i_pos hq h
      have e := Option.some.inj h
      subst e
      exact And.intro (Or.inr rfl) hRP
    · have h := i_neg hq h
      refine And.intro (fun hq => ?_) (fun hq => ?_)
      · have h := i_pos hq h
        have ⟨hg, h⟩ := g_gd h
        refine And.intro (inB_of hg) ?_
        exact ih _ _ _ h
      · have h := i_neg hq h
        exact ih _ _ _ h
set_option maxHeartbeats 4000000 in
set_option maxRecDepth 20000 in
theorem w2_takes_42 {E : EnvT} {G : GT} {RP : Option AV → Mem → Prop} {c1 : Nat} {i2 : Int32} (hG : Cl E 22 1 tb_22 G RP) {r : Int32 × Mem} (hRP : RP (some (.int r.1, 0)) r.2) (F : Nat) : ∀ (n : Nat) (x3 : Int32) (x4 : Int32) (σ : Mem), m2_takes_42 F c1 i2 n x3 x4 σ = some r → G 42 [some (.ref 40, 2), some (.ref c1, 7), some (.int i2, 0), some (.int x3, 0), some (.int x4, 0)] [] σ := by
  intro n
  induction n with
  | zero => intro x3 x4 σ h; unfold m2_takes_42 at h; cases h
  | succ n ih =>
    intro x3 x4 σ h
    refine bk hG (cut := [42, 79]) 400 ?_
    unfold m2_takes_42 at h
    refine And.intro (fun hq => ?_) (fun hq => ?_)
    · have h := i_pos hq h
      exact w2_takes_79 hG hRP F F _ _ _ h
    · have h := i_neg hq h
      refine And.intro (fun hq => ?_) (fun hq => ?_)
      · have h := i_pos hq h
        have ⟨_, hc, h⟩ := b_some h
        refine Exists.intro _ (Exists.intro _ (Exists.intro _ (And.intro (c2_isFree F _ _ _ hc) (And.intro (by decide) (And.intro (fun q => absurd q (by decide)) ?_)))))
        refine And.intro (fun hq => ?_) (fun hq => ?_)
        · have h := i_pos hq h
          have e := Option.some.inj h
          subst e
          exact And.intro (Or.inl rfl) hRP
        · have h := i_neg hq h
          exact ih _ _ _ h
      · have h := i_neg hq h
        exact ih _ _ _ h
set_option maxHeartbeats 4000000 in
set_option maxRecDepth 20000 in
theorem c2_takes {E : EnvT} (F : Nat) (c1 : Nat) (i2 : Int32) (σ : Mem) {r : Int32 × Mem} (h : m2_takes F c1 i2 σ = some r) : MetAt E 1 22 [(.ref 40, 2), (.ref c1, 7), (.int i2, 0)] σ (some (.int r.1, 0)) r.2 := by
  unfold m2_takes at h
  refine MetAt_of (tb := tb_22) (by decide) tbok_22 (Nat.le_of_ble_eq_true rfl) (fun a q => by cases q; trivial) (fun G hG => ?_)
  have hRP : (fun (a : Option AV) (τ : Mem) => a.map (conc E) = ((some (.int r.1, 0)) : Option AV).map (conc E) ∧ τ = r.2) (some (.int r.1, 0)) r.2 := ⟨rfl, rfl⟩
  change G 0 [some (.ref 40, 2), some (.ref c1, 7), some (.int i2, 0), none, none] [] σ
  refine bk hG (cut := [42, 79]) 400 ?_
  have ⟨hg, h⟩ := g_gd h
  refine And.intro (inB_of hg) ?_
  have ⟨hg, h⟩ := g_gd h
  refine And.intro (inB_of hg) ?_
  refine And.intro (fun hq => ?_) (fun hq => ?_)
  · have h := i_pos hq h
    exact w2_takes_42 hG hRP F F _ _ _ h
  · have h := i_neg hq h
    refine And.intro (fun hq => ?_) (fun hq => ?_)
    · have h := i_pos hq h
      have ⟨_, hc, h⟩ := b_some h
      refine Exists.intro _ (Exists.intro _ (Exists.intro _ (And.intro (c2_isFree F _ _ _ hc) (And.intro (by decide) (And.intro (fun q => absurd q (by decide)) ?_)))))
      refine And.intro (fun hq => ?_) (fun hq => ?_)
      · have h := i_pos hq h
        exact w2_takes_42 hG hRP F F _ _ _ h
      · have h := i_neg hq h
        exact w2_takes_42 hG hRP F F _ _ _ h
    · have h := i_neg hq h
      exact w2_takes_42 hG hRP F F _ _ _ h
set_option maxHeartbeats 4000000 in
set_option maxRecDepth 20000 in
theorem c2_strikeOnce {E : EnvT} (F : Nat) (c1 : Nat) (i2 : Int32) (σ : Mem) {r : Mem} (h : m2_strikeOnce F c1 i2 σ = some r) : MetAt E 1 24 [(.ref 40, 2), (.ref c1, 7), (.int i2, 0)] σ none r := by
  unfold m2_strikeOnce at h
  refine MetAt_of (tb := tb_24) (by decide) tbok_24 (Nat.le_of_ble_eq_true rfl) (fun a q => by cases q) (fun G hG => ?_)
  have hRP : (fun (a : Option AV) (τ : Mem) => a.map (conc E) = (none : Option AV).map (conc E) ∧ τ = r) none r := ⟨rfl, rfl⟩
  change G 0 [some (.ref 40, 2), some (.ref c1, 7), some (.int i2, 0), none, none] [] σ
  refine bk hG (cut := []) 400 ?_
  have ⟨hg, h⟩ := g_gd h
  refine And.intro (inB_of hg) ?_
  have ⟨_, hc, h⟩ := b_some h
  refine Exists.intro _ (Exists.intro _ (Exists.intro _ (And.intro (c2_isHot F _ _ _ hc) (And.intro (by decide) (And.intro (fun q => absurd q (by decide)) ?_)))))
  have ⟨hg, h⟩ := g_gd h
  refine And.intro (inB_of hg) ?_
  have ⟨hg, h⟩ := g_gd h
  refine And.intro (inB_of hg) ?_
  have ⟨hg, h⟩ := g_gd h
  refine And.intro (inB_of hg) ?_
  refine And.intro (fun hq => ?_) (fun hq => ?_)
  · have h := i_pos hq h
    have ⟨hg, h⟩ := g_gd h
    refine And.intro (inB_of hg) ?_
    have ⟨hg, h⟩ := g_gd h
    refine And.intro (inB_of hg) ?_
    have e := Option.some.inj h
    subst e
    exact hRP
  · have h := i_neg hq h
    refine And.intro (fun hq => ?_) (fun hq => ?_)
    · have h := i_pos hq h
      have ⟨hg, h⟩ := g_gd h
      refine And.intro (inB_of hg) ?_
      have ⟨hg, h⟩ := g_gd h
      refine And.intro (inB_of hg) ?_
      have ⟨hg, h⟩ := g_gd h
      refine And.intro (inB_of hg) ?_
      refine And.intro (fun hq => ?_) (fun hq => ?_)
      · have h := i_pos hq h
        have ⟨hg, h⟩ := g_gd h
        refine And.intro (inB_of hg) ?_
        have ⟨hg, h⟩ := g_gd h
        refine And.intro (inB_of hg) ?_
        have ⟨hg, h⟩ := g_gd h
        refine And.intro (inB_of hg) ?_
        have ⟨hg, h⟩ := g_gd h
        refine And.intro (inB_of hg) ?_
        have e := Option.some.inj h
        subst e
        exact hRP
      · have h := i_neg hq h
        have e := Option.some.inj h
        subst e
        exact hRP
    · have h := i_neg hq h
      have e := Option.some.inj h
      subst e
      exact hRP
set_option maxHeartbeats 4000000 in
set_option maxRecDepth 20000 in
theorem w2_work_37 {E : EnvT} {G : GT} {RP : Option AV → Mem → Prop} {c1 : Nat} (hG : Cl E 20 2 tb_20 G RP) {r : Mem} (hRP : RP none r) (F : Nat) : ∀ (n : Nat) (x2 : Int32) (σ : Mem), m2_work_37 F c1 n x2 σ = some r → G 37 [some (.ref 40, 2), some (.ref c1, 7), some (.int x2, 0)] [] σ := by
  intro n
  induction n with
  | zero => intro x2 σ h; unfold m2_work_37 at h; cases h
  | succ n ih =>
    intro x2 σ h
    refine bk hG (cut := [17, 37]) 400 ?_
    unfold m2_work_37 at h
    refine And.intro (fun hq => ?_) (fun hq => ?_)
    · have h := i_pos hq h
      have e := Option.some.inj h
      subst e
      exact hRP
    · have h := i_neg hq h
      have ⟨hg, h⟩ := g_gd h
      refine And.intro (inB_of hg) ?_
      refine And.intro (fun hq => ?_) (fun hq => ?_)
      · have h := i_pos hq h
        exact ih _ _ h
      · have h := i_neg hq h
        have ⟨hg, h⟩ := g_gd h
        refine And.intro (inB_of hg) ?_
        refine And.intro (fun hq => ?_) (fun hq => ?_)
        · have h := i_pos hq h
          have ⟨_, hc, h⟩ := b_some h
          refine Exists.intro _ (Exists.intro _ (Exists.intro _ (And.intro (c2_heatUp F _ _ _ hc) (And.intro (by decide) (And.intro (fun q => absurd q (by decide)) ?_)))))
          exact ih _ _ h
        · have h := i_neg hq h
          have ⟨_, hc, h⟩ := b_some h
          refine Exists.intro _ (Exists.intro _ (Exists.intro _ (And.intro (c2_takes F _ _ _ hc) (And.intro (by decide) (And.intro (fun q => absurd q (by decide)) ?_)))))
          refine And.intro (fun hq => ?_) (fun hq => ?_)
          · have h := i_pos hq h
            have ⟨hg, h⟩ := g_gd h
            refine And.intro (inB_of hg) ?_
            have ⟨hg, h⟩ := g_gd h
            refine And.intro (inB_of hg) ?_
            have ⟨hg, h⟩ := g_gd h
            refine And.intro (inB_of hg) ?_
            have ⟨hg, h⟩ := g_gd h
            refine And.intro (inB_of hg) ?_
            exact ih _ _ h
          · have h := i_neg hq h
            have ⟨_, hc, h⟩ := b_some h
            refine Exists.intro _ (Exists.intro _ (Exists.intro _ (And.intro (c2_strikeOnce F _ _ _ hc) (And.intro (by decide) (And.intro (fun q => absurd q (by decide)) ?_)))))
            exact ih _ _ h
set_option maxHeartbeats 4000000 in
set_option maxRecDepth 20000 in
theorem w2_work_17 {E : EnvT} {G : GT} {RP : Option AV → Mem → Prop} {c1 : Nat} (hG : Cl E 20 2 tb_20 G RP) {r : Mem} (hRP : RP none r) (F : Nat) : ∀ (n : Nat) (x2 : Int32) (σ : Mem), m2_work_17 F c1 n x2 σ = some r → G 17 [some (.ref 40, 2), some (.ref c1, 7), some (.int x2, 0)] [] σ := by
  intro n
  induction n with
  | zero => intro x2 σ h; unfold m2_work_17 at h; cases h
  | succ n ih =>
    intro x2 σ h
    refine bk hG (cut := [17, 37]) 400 ?_
    unfold m2_work_17 at h
    refine And.intro (fun hq => ?_) (fun hq => ?_)
    · have h := i_pos hq h
      exact w2_work_37 hG hRP F F _ _ h
    · have h := i_neg hq h
      have ⟨hg, h⟩ := g_gd h
      refine And.intro (inB_of hg) ?_
      exact ih _ _ h
set_option maxHeartbeats 4000000 in
set_option maxRecDepth 20000 in
theorem c2_work {E : EnvT} (F : Nat) (c1 : Nat) (σ : Mem) {r : Mem} (h : m2_work F c1 σ = some r) : MetAt E 2 20 [(.ref 40, 2), (.ref c1, 7)] σ none r := by
  unfold m2_work at h
  refine MetAt_of (tb := tb_20) (by decide) tbok_20 (Nat.le_of_ble_eq_true rfl) (fun a q => by cases q) (fun G hG => ?_)
  have hRP : (fun (a : Option AV) (τ : Mem) => a.map (conc E) = (none : Option AV).map (conc E) ∧ τ = r) none r := ⟨rfl, rfl⟩
  change G 0 [some (.ref 40, 2), some (.ref c1, 7), none] [] σ
  refine bk hG (cut := [17, 37]) 400 ?_
  exact w2_work_17 hG hRP F F _ _ h
set_option maxHeartbeats 4000000 in
set_option maxRecDepth 20000 in
theorem w2_go_55 {E : EnvT} {G : GT} {RP : Option AV → Mem → Prop} {c1 : Nat} (hG : Cl E 14 3 tb_14 G RP) {r : Mem} (hRP : RP none r) (F : Nat) : ∀ (n : Nat) (x2 : Int32) (σ : Mem), m2_go_55 F c1 n x2 σ = some r → G 55 [some (.ref 40, 2), some (.ref c1, 7), some (.int x2, 0)] [] σ := by
  intro n
  induction n with
  | zero => intro x2 σ h; unfold m2_go_55 at h; cases h
  | succ n ih =>
    intro x2 σ h
    refine bk hG (cut := [7, 55]) 400 ?_
    unfold m2_go_55 at h
    refine And.intro (fun hq => ?_) (fun hq => ?_)
    · have h := i_pos hq h
      have e := Option.some.inj h
      subst e
      exact hRP
    · have h := i_neg hq h
      have ⟨hg, h⟩ := g_gd h
      refine And.intro (inB_of hg) ?_
      refine And.intro (fun hq => ?_) (fun hq => ?_)
      · have h := i_pos hq h
        exact ih _ _ h
      · have h := i_neg hq h
        have ⟨hg, h⟩ := g_gd h
        refine And.intro (inB_of hg) ?_
        refine And.intro (fun hq => ?_) (fun hq => ?_)
        · have h := i_pos hq h
          exact ih _ _ h
        · have h := i_neg hq h
          have ⟨hg, h⟩ := g_gd h
          refine And.intro (inB_of hg) ?_
          have ⟨hg, h⟩ := g_gd h
          refine And.intro (inB_of hg) ?_
          exact ih _ _ h
set_option maxHeartbeats 4000000 in
set_option maxRecDepth 20000 in
theorem w2_go_7 {E : EnvT} {G : GT} {RP : Option AV → Mem → Prop} {c1 : Nat} (hG : Cl E 14 3 tb_14 G RP) {r : Mem} (hRP : RP none r) (F : Nat) : ∀ (n : Nat) (x2 : Int32) (σ : Mem), m2_go_7 F c1 n x2 σ = some r → G 7 [some (.ref 40, 2), some (.ref c1, 7), some (.int x2, 0)] [] σ := by
  intro n
  induction n with
  | zero => intro x2 σ h; unfold m2_go_7 at h; cases h
  | succ n ih =>
    intro x2 σ h
    refine bk hG (cut := [7, 55]) 400 ?_
    unfold m2_go_7 at h
    refine And.intro (fun hq => ?_) (fun hq => ?_)
    · have h := i_pos hq h
      have ⟨_, hc, h⟩ := b_some h
      refine Exists.intro _ (Exists.intro _ (Exists.intro _ (And.intro (c2_work F _ _ hc) (And.intro (by decide) (And.intro (fun q => absurd q (by decide)) ?_)))))
      exact w2_go_55 hG hRP F F _ _ h
    · have h := i_neg hq h
      have ⟨hg, h⟩ := g_gd h
      refine And.intro (inB_of hg) ?_
      refine And.intro (fun hq => ?_) (fun hq => ?_)
      · have h := i_pos hq h
        have ⟨hg, h⟩ := g_gd h
        refine And.intro (inB_of hg) ?_
        exact ih _ _ h
      · have h := i_neg hq h
        have ⟨_, hc, h⟩ := b_some h
        refine Exists.intro _ (Exists.intro _ (Exists.intro _ (And.intro (c2_willsToStrike F _ _ _ hc) (And.intro (by decide) (And.intro (fun q => absurd q (by decide)) ?_)))))
        refine And.intro (fun hq => ?_) (fun hq => ?_)
        · have h := i_pos hq h
          have ⟨hg, h⟩ := g_gd h
          refine And.intro (inB_of hg) ?_
          exact ih _ _ h
        · have h := i_neg hq h
          have ⟨hg, h⟩ := g_gd h
          refine And.intro (inB_of hg) ?_
          exact ih _ _ h
set_option maxHeartbeats 4000000 in
set_option maxRecDepth 20000 in
theorem c2_go {E : EnvT} (F : Nat) (c1 : Nat) (σ : Mem) {r : Mem} (h : m2_go F c1 σ = some r) : MetAt E 3 14 [(.ref 40, 2), (.ref c1, 7)] σ none r := by
  unfold m2_go at h
  refine MetAt_of (tb := tb_14) (by decide) tbok_14 (Nat.le_of_ble_eq_true rfl) (fun a q => by cases q) (fun G hG => ?_)
  have hRP : (fun (a : Option AV) (τ : Mem) => a.map (conc E) = (none : Option AV).map (conc E) ∧ τ = r) none r := ⟨rfl, rfl⟩
  change G 0 [some (.ref 40, 2), some (.ref c1, 7), none] [] σ
  refine bk hG (cut := [7, 55]) 400 ?_
  have ⟨_, hc, h⟩ := b_some h
  refine Exists.intro _ (Exists.intro _ (Exists.intro _ (And.intro (c2_assign F _ _ hc) (And.intro (by decide) (And.intro (fun q => absurd q (by decide)) ?_)))))
  exact w2_go_7 hG hRP F F _ _ h
set_option maxHeartbeats 4000000 in
set_option maxRecDepth 20000 in
theorem w0_chooseSets_40 {E : EnvT} {G : GT} {RP : Option AV → Mem → Prop} {D : Nat} {i1 : Int32} {i2 : Int32} {rec : Int32 → Int32 → Mem → Option (Mem)} (hG : Cl E 2 (4 + 1 * (D + 1)) tb_2 G RP) {r : Mem} (hRP : RP none r) (F : Nat) (hrec : ∀ (i1 : Int32) (i2 : Int32) (σ : Mem) {r : Mem}, rec i1 i2 σ = some r → MetAt E (4 + 1 * D) 2 [(.ref 56, 0), (.int i1, 0), (.int i2, 0)] σ none r) : ∀ (n : Nat) (x3 : Int32) (x4 : Int32) (d5 : Option AV) (σ : Mem), m0_chooseSets_40 F rec i1 i2 n x3 x4 σ = some r → G 40 [some (.ref 56, 0), some (.int i1, 0), some (.int i2, 0), some (.int x3, 0), some (.int x4, 0), d5] [] σ := by
  intro n
  induction n with
  | zero => intro x3 x4 d5 σ h; unfold m0_chooseSets_40 at h; cases h
  | succ n ih =>
    intro x3 x4 d5 σ h
    refine bk hG (cut := [40]) 400 ?_
    unfold m0_chooseSets_40 at h
    refine And.intro (fun hq => ?_) (fun hq => ?_)
    · have h := i_pos hq h
      have e := Option.some.inj h
      subst e
      exact hRP
    · have h := i_neg hq h
      refine And.intro (fun hq => ?_) (fun hq => ?_)
      · have h := i_pos hq h
        have ⟨hg, h⟩ := g_gd h
        refine And.intro (inB_of hg) ?_
        have ⟨hg, h⟩ := g_gd h
        refine And.intro (inB_of hg) ?_
        have ⟨_, hc, h⟩ := b_some h
        refine Exists.intro _ (Exists.intro _ (Exists.intro _ (And.intro (c7_copyFrom F _ _ _ hc) (And.intro (by omega) (And.intro (fun q => absurd q (by decide)) ?_)))))
        have ⟨_, hc, h⟩ := b_some h
        refine Exists.intro _ (Exists.intro _ (Exists.intro _ (And.intro (c2_go F _ _ hc) (And.intro (by omega) (And.intro (fun q => absurd q (by decide)) ?_)))))
        have ⟨hg, h⟩ := g_gd h
        refine And.intro (inB_of hg) ?_
        have ⟨_, hc, h⟩ := b_some h
        refine Exists.intro _ (Exists.intro _ (Exists.intro _ (And.intro (hrec _ _ _ hc) (And.intro (by omega) (And.intro (fun q => absurd q (by decide)) ?_)))))
        exact ih _ _ _ _ h
      · have h := i_neg hq h
        exact ih _ _ _ _ h
set_option maxHeartbeats 4000000 in
set_option maxRecDepth 20000 in
theorem c0_chooseSets {E : EnvT} (F : Nat) : ∀ (D : Nat) (i1 : Int32) (i2 : Int32) (σ : Mem) {r : Mem}, m0_chooseSets F D i1 i2 σ = some r → MetAt E (4 + 1 * D) 2 [(.ref 56, 0), (.int i1, 0), (.int i2, 0)] σ none r := by
  intro D
  induction D with
  | zero => intro i1 i2 σ r h; cases h
  | succ D ih =>
    intro i1 i2 σ r h
    have hrec := @ih
    change m0_chooseSets_e F (m0_chooseSets F D) i1 i2 σ = some r at h
    unfold m0_chooseSets_e at h
    refine MetAt_of (tb := tb_2) (by decide) tbok_2 (Nat.le_of_ble_eq_true rfl) (fun a q => by cases q) (fun G hG => ?_)
    have hRP : (fun (a : Option AV) (τ : Mem) => a.map (conc E) = (none : Option AV).map (conc E) ∧ τ = r) none r := ⟨rfl, rfl⟩
    change G 0 [some (.ref 56, 0), some (.int i1, 0), some (.int i2, 0), none, none, none] [] σ
    refine bk hG (cut := [40]) 400 ?_
    refine And.intro (fun hq => ?_) (fun hq => ?_)
    · have h := i_pos hq h
      have ⟨hg, h⟩ := g_gd h
      refine And.intro (inB_of hg) ?_
      have ⟨_, hc, h⟩ := b_some h
      refine Exists.intro _ (Exists.intro _ (Exists.intro _ (And.intro (c0_workers F _ _ hc) (And.intro (by omega) (And.intro (fun q => absurd q (by decide)) ?_)))))
      exact w0_chooseSets_40 hG hRP F hrec F _ _ _ _ h
    · have h := i_neg hq h
      refine And.intro (fun hq => ?_) (fun hq => ?_)
      · have h := i_pos hq h
        have e := Option.some.inj h
        subst e
        exact hRP
      · have h := i_neg hq h
        have ⟨_, hc, h⟩ := b_some h
        refine Exists.intro _ (Exists.intro _ (Exists.intro _ (And.intro (c0_keepRow F _ hc) (And.intro (by omega) (And.intro (fun q => absurd q (by decide)) ?_)))))
        have e := Option.some.inj h
        subst e
        exact hRP
set_option maxHeartbeats 4000000 in
set_option maxRecDepth 20000 in
theorem c0_bestRota {E : EnvT} (F : Nat) (c1 : Nat) (i2 : Int32) (i3 : Int32) (σ : Mem) {r : Int32 × Mem} (h : m0_bestRota F c1 i2 i3 σ = some r) : MetAt E 11 1 [(.ref 56, 0), (.ref c1, 7), (.int i2, 0), (.int i3, 0)] σ (some (.int r.1, 0)) r.2 := by
  unfold m0_bestRota at h
  refine MetAt_of (tb := tb_1) (by decide) tbok_1 (Nat.le_of_ble_eq_true rfl) (fun a q => by cases q; trivial) (fun G hG => ?_)
  have hRP : (fun (a : Option AV) (τ : Mem) => a.map (conc E) = ((some (.int r.1, 0)) : Option AV).map (conc E) ∧ τ = r.2) (some (.int r.1, 0)) r.2 := ⟨rfl, rfl⟩
  change G 0 [some (.ref 56, 0), some (.ref c1, 7), some (.int i2, 0), some (.int i3, 0)] [] σ
  refine bk hG (cut := []) 400 ?_
  have ⟨hg, h⟩ := g_gd h
  refine And.intro (inB_of hg) ?_
  have ⟨_, hc, h⟩ := b_some h
  refine Exists.intro _ (Exists.intro _ (Exists.intro _ (And.intro (c7_copyFrom F _ _ _ hc) (And.intro (by decide) (And.intro (fun q => absurd q (by decide)) ?_)))))
  have ⟨_, hc, h⟩ := b_some h
  refine Exists.intro _ (Exists.intro _ (Exists.intro _ (And.intro (c0_chooseSets F 6 _ _ _ hc) (And.intro (by decide) (And.intro (fun q => absurd q (by decide)) ?_)))))
  refine And.intro (fun hq => ?_) (fun hq => ?_)
  · have h := i_pos hq h
    have e := Option.some.inj h
    subst e
    exact hRP
  · have h := i_neg hq h
    refine And.intro (fun hq => ?_) (fun hq => ?_)
    · have h := i_pos hq h
      have e := Option.some.inj h
      subst e
      exact hRP
    · have h := i_neg hq h
      have ⟨hg, h⟩ := g_gd h
      refine And.intro (inB_of hg) ?_
      have e := Option.some.inj h
      subst e
      exact hRP
