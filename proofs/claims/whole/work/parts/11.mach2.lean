set_option maxHeartbeats 4000000 in
set_option maxRecDepth 20000 in
theorem w4_read_94 {E : EnvT} {G : GT} {RP : Option AV → Mem → Prop} {c0 : Nat} (hG : Cl E 30 7 tb_30 G RP) {r : Int32 × Mem} (hRP : RP (some (.int r.1, 0)) r.2) (F : Nat) {k41 : Int32 → Mem → Option (Int32 × Mem)} (hk41 : ∀ (x2 : Int32) (d3 : Option AV) (σ : Mem), k41 x2 σ = some r → G 41 [some (.ref c0, 4), some (.ref 1, 8), some (.int x2, 0), d3] [] σ) : ∀ (x2 : Int32) (d3 : Option AV) (σ : Mem), m4_read_94 F c0 k41 x2 σ = some r → G 94 [some (.ref c0, 4), some (.ref 1, 8), some (.int x2, 0), d3] [] σ := by
  intro x2 d3 σ h
  refine bk hG (cut := [17, 41, 79, 94]) 400 ?_
  unfold m4_read_94 at h
  exact hk41 _ _ _ h
set_option maxHeartbeats 4000000 in
set_option maxRecDepth 20000 in
theorem w4_read_79 {E : EnvT} {G : GT} {RP : Option AV → Mem → Prop} {c0 : Nat} (hG : Cl E 30 7 tb_30 G RP) {r : Int32 × Mem} (hRP : RP (some (.int r.1, 0)) r.2) (F : Nat) {k41 : Int32 → Mem → Option (Int32 × Mem)} (hk41 : ∀ (x2 : Int32) (d3 : Option AV) (σ : Mem), k41 x2 σ = some r → G 41 [some (.ref c0, 4), some (.ref 1, 8), some (.int x2, 0), d3] [] σ) : ∀ (x2 : Int32) (x3 : Int32) (σ : Mem), m4_read_79 F c0 k41 x2 x3 σ = some r → G 79 [some (.ref c0, 4), some (.ref 1, 8), some (.int x2, 0), some (.int x3, 0)] [] σ := by
  intro x2 x3 σ h
  refine bk hG (cut := [17, 41, 79, 94]) 400 ?_
  unfold m4_read_79 at h
  refine And.intro (fun hq => ?_) (fun hq => ?_)
  · have h := i_pos hq h
    exact w4_read_94 hG hRP F (fun _ _ _ h => hk41 _ _ _ h) _ _ _ h
  · have h := i_neg hq h
    have ⟨_, hc, h⟩ := b_some h
    refine Exists.intro _ (Exists.intro _ (Exists.intro _ (And.intro (c8_fail F _ _ _ hc) (And.intro (by decide) (And.intro (fun q => absurd q (by decide)) ?_)))))
    exact w4_read_94 hG hRP F (fun _ _ _ h => hk41 _ _ _ h) _ _ _ h
set_option maxHeartbeats 4000000 in
set_option maxRecDepth 20000 in
theorem w4_read_41 {E : EnvT} {G : GT} {RP : Option AV → Mem → Prop} {c0 : Nat} (hG : Cl E 30 7 tb_30 G RP) {r : Int32 × Mem} (hRP : RP (some (.int r.1, 0)) r.2) (F : Nat) : ∀ (n : Nat) (x2 : Int32) (d3 : Option AV) (σ : Mem), m4_read_41 F c0 n x2 σ = some r → G 41 [some (.ref c0, 4), some (.ref 1, 8), some (.int x2, 0), d3] [] σ := by
  intro n
  induction n with
  | zero => intro x2 d3 σ h; unfold m4_read_41 at h; cases h
  | succ n ih =>
    intro x2 d3 σ h
    refine bk hG (cut := [17, 41, 79, 94]) 400 ?_
    unfold m4_read_41 at h
    refine And.intro (fun hq => ?_) (fun hq => ?_)
    · have h := i_pos hq h
      have e := Option.some.inj h
      subst e
      exact hRP
    · have h := i_neg hq h
      refine And.intro (fun hq => ?_) (fun hq => ?_)
      · have h := i_pos hq h
        have ⟨_, hc, h⟩ := b_some h
        refine Exists.intro _ (Exists.intro _ (Exists.intro _ (And.intro (c4_readClause F _ _ _ hc) (And.intro (by decide) (And.intro (fun q => absurd q (by decide)) ?_)))))
        have ⟨_, hc, h⟩ := b_some h
        refine Exists.intro _ (Exists.intro _ (Exists.intro _ (And.intro (c8_next F _ hc) (And.intro (by decide) (And.intro (fun q => absurd q (by decide)) ?_)))))
        refine And.intro (fun hq => ?_) (fun hq => ?_)
        · have h := i_pos hq h
          refine And.intro (fun hq => ?_) (fun hq => ?_)
          · have h := i_pos hq h
            have e := Option.some.inj h
            subst e
            exact hRP
          · have h := i_neg hq h
            exact w4_read_79 hG hRP F (fun _ _ _ h => ih _ _ _ h) _ _ _ h
        · have h := i_neg hq h
          exact w4_read_79 hG hRP F (fun _ _ _ h => ih _ _ _ h) _ _ _ h
      · have h := i_neg hq h
        have e := Option.some.inj h
        subst e
        exact hRP
set_option maxHeartbeats 4000000 in
set_option maxRecDepth 20000 in
theorem w4_read_17 {E : EnvT} {G : GT} {RP : Option AV → Mem → Prop} {c0 : Nat} (hG : Cl E 30 7 tb_30 G RP) {r : Int32 × Mem} (hRP : RP (some (.int r.1, 0)) r.2) (F : Nat) : ∀ (n : Nat) (x2 : Int32) (d3 : Option AV) (σ : Mem), m4_read_17 F c0 n x2 σ = some r → G 17 [some (.ref c0, 4), some (.ref 1, 8), some (.int x2, 0), d3] [] σ := by
  intro n
  induction n with
  | zero => intro x2 d3 σ h; unfold m4_read_17 at h; cases h
  | succ n ih =>
    intro x2 d3 σ h
    refine bk hG (cut := [17, 41, 79, 94]) 400 ?_
    unfold m4_read_17 at h
    refine And.intro (fun hq => ?_) (fun hq => ?_)
    · have h := i_pos hq h
      have ⟨_, hc, h⟩ := b_some h
      refine Exists.intro _ (Exists.intro _ (Exists.intro _ (And.intro (c8_rewind F _ hc) (And.intro (by decide) (And.intro (fun q => absurd q (by decide)) ?_)))))
      exact w4_read_41 hG hRP F F _ _ _ h
    · have h := i_neg hq h
      have ⟨hg, h⟩ := g_gd h
      refine And.intro (inB_of hg) ?_
      exact ih _ _ _ h
set_option maxHeartbeats 4000000 in
set_option maxRecDepth 20000 in
theorem c4_read {E : EnvT} (F : Nat) (c0 : Nat) (σ : Mem) {r : Int32 × Mem} (h : m4_read F c0 σ = some r) : MetAt E 7 30 [(.ref c0, 4), (.ref 1, 8)] σ (some (.int r.1, 0)) r.2 := by
  unfold m4_read at h
  refine MetAt_of (tb := tb_30) (by decide) tbok_30 (Nat.le_of_ble_eq_true rfl) (fun a q => by cases q; trivial) (fun G hG => ?_)
  have hRP : (fun (a : Option AV) (τ : Mem) => a.map (conc E) = ((some (.int r.1, 0)) : Option AV).map (conc E) ∧ τ = r.2) (some (.int r.1, 0)) r.2 := ⟨rfl, rfl⟩
  change G 0 [some (.ref c0, 4), some (.ref 1, 8), none, none] [] σ
  refine bk hG (cut := [17, 41, 79, 94]) 400 ?_
  refine And.intro (Or.inr rfl) ?_
  exact w4_read_17 hG hRP F F _ _ _ h
set_option maxHeartbeats 4000000 in
set_option maxRecDepth 20000 in
theorem w5_passStrike_40 {E : EnvT} {G : GT} {RP : Option AV → Mem → Prop} {i1 : Int32} (hG : Cl E 34 5 tb_34 G RP) {r : Mem} (hRP : RP none r) (F : Nat) : ∀ (σ : Mem), m5_passStrike_40 F i1 σ = some r → G 40 [some (.ref 1, 8), some (.int i1, 0)] [] σ := by
  intro σ h
  refine bk hG (cut := [40]) 400 ?_
  unfold m5_passStrike_40 at h
  have ⟨_, hc, h⟩ := b_some h
  refine Exists.intro _ (Exists.intro _ (Exists.intro _ (And.intro (c8_passWord F _ hc) (And.intro (by decide) (And.intro (fun q => absurd q (by decide)) ?_)))))
  have e := Option.some.inj h
  subst e
  exact hRP
set_option maxHeartbeats 4000000 in
set_option maxRecDepth 20000 in
theorem c5_passStrike {E : EnvT} (F : Nat) (i1 : Int32) (σ : Mem) {r : Mem} (h : m5_passStrike F i1 σ = some r) : MetAt E 5 34 [(.ref 1, 8), (.int i1, 0)] σ none r := by
  unfold m5_passStrike at h
  refine MetAt_of (tb := tb_34) (by decide) tbok_34 (Nat.le_of_ble_eq_true rfl) (fun a q => by cases q) (fun G hG => ?_)
  have hRP : (fun (a : Option AV) (τ : Mem) => a.map (conc E) = (none : Option AV).map (conc E) ∧ τ = r) none r := ⟨rfl, rfl⟩
  change G 0 [some (.ref 1, 8), some (.int i1, 0)] [] σ
  refine bk hG (cut := [40]) 400 ?_
  have ⟨_, hc, h⟩ := b_some h
  refine Exists.intro _ (Exists.intro _ (Exists.intro _ (And.intro (c8_next F _ hc) (And.intro (by decide) (And.intro (fun q => absurd q (by decide)) ?_)))))
  have ⟨_, hc, h⟩ := b_some h
  refine Exists.intro _ (Exists.intro _ (Exists.intro _ (And.intro (c8_word F _ _ hc) (And.intro (by decide) (And.intro (fun q => absurd q (by decide)) ?_)))))
  refine And.intro (fun hq => ?_) (fun hq => ?_)
  · have h := i_pos hq h
    have ⟨_, hc, h⟩ := b_some h
    refine Exists.intro _ (Exists.intro _ (Exists.intro _ (And.intro (c8_fail F _ _ _ hc) (And.intro (by decide) (And.intro (fun q => absurd q (by decide)) ?_)))))
    exact w5_passStrike_40 hG hRP F _ h
  · have h := i_neg hq h
    refine And.intro (fun hq => ?_) (fun hq => ?_)
    · have h := i_pos hq h
      exact w5_passStrike_40 hG hRP F _ h
    · have h := i_neg hq h
      have ⟨_, hc, h⟩ := b_some h
      refine Exists.intro _ (Exists.intro _ (Exists.intro _ (And.intro (c8_fail F _ _ _ hc) (And.intro (by decide) (And.intro (fun q => absurd q (by decide)) ?_)))))
      exact w5_passStrike_40 hG hRP F _ h
set_option maxHeartbeats 4000000 in
set_option maxRecDepth 20000 in
theorem c5_put {E : EnvT} (F : Nat) (c0 : Nat) (i1 : Int32) (σ : Mem) {r : Mem} (h : m5_put F c0 i1 σ = some r) : MetAt E 0 35 [(.ref c0, 5), (.int i1, 0)] σ none r := by
  unfold m5_put at h
  refine MetAt_of (tb := tb_35) (by decide) tbok_35 (Nat.le_of_ble_eq_true rfl) (fun a q => by cases q) (fun G hG => ?_)
  have hRP : (fun (a : Option AV) (τ : Mem) => a.map (conc E) = (none : Option AV).map (conc E) ∧ τ = r) none r := ⟨rfl, rfl⟩
  change G 0 [some (.ref c0, 5), some (.int i1, 0)] [] σ
  refine bk hG (cut := []) 400 ?_
  refine And.intro (fun hq => ?_) (fun hq => ?_)
  · have h := i_pos hq h
    have e := Option.some.inj h
    subst e
    exact hRP
  · have h := i_neg hq h
    have ⟨hg, h⟩ := g_gd h
    refine And.intro (inB_of hg) ?_
    have e := Option.some.inj h
    subst e
    exact hRP
set_option maxHeartbeats 4000000 in
set_option maxRecDepth 20000 in
theorem w5_readValue_79 {E : EnvT} {G : GT} {RP : Option AV → Mem → Prop} {c0 : Nat} (hG : Cl E 41 5 tb_41 G RP) {r : Mem} (hRP : RP none r) (F : Nat) : ∀ (x4 : Int32) (d2 : Option AV) (d3 : Option AV) (d5 : Option AV) (σ : Mem), m5_readValue_79 F c0 x4 σ = some r → G 79 [some (.ref c0, 5), some (.ref 1, 8), d2, d3, some (.int x4, 0), d5] [] σ := by
  intro x4 d2 d3 d5 σ h
  refine bk hG (cut := [42, 55, 64, 79]) 400 ?_
  unfold m5_readValue_79 at h
  have ⟨_, hc, h⟩ := b_some h
  refine Exists.intro _ (Exists.intro _ (Exists.intro _ (And.intro (c5_put F _ _ _ hc) (And.intro (by decide) (And.intro (fun q => absurd q (by decide)) ?_)))))
  have e := Option.some.inj h
  subst e
  exact hRP
set_option maxHeartbeats 4000000 in
set_option maxRecDepth 20000 in
theorem w5_readValue_64 {E : EnvT} {G : GT} {RP : Option AV → Mem → Prop} {c0 : Nat} (hG : Cl E 41 5 tb_41 G RP) {r : Mem} (hRP : RP none r) (F : Nat) : ∀ (x3 : Int32) (x4 : Int32) (d2 : Option AV) (d5 : Option AV) (σ : Mem), m5_readValue_64 F c0 x3 x4 σ = some r → G 64 [some (.ref c0, 5), some (.ref 1, 8), d2, some (.int x3, 0), some (.int x4, 0), d5] [] σ := by
  intro x3 x4 d2 d5 σ h
  refine bk hG (cut := [42, 55, 64, 79]) 400 ?_
  unfold m5_readValue_64 at h
  refine And.intro (fun hq => ?_) (fun hq => ?_)
  · have h := i_pos hq h
    exact w5_readValue_79 hG hRP F _ _ _ _ _ h
  · have h := i_neg hq h
    have ⟨_, hc, h⟩ := b_some h
    refine Exists.intro _ (Exists.intro _ (Exists.intro _ (And.intro (c8_fail F _ _ _ hc) (And.intro (by decide) (And.intro (fun q => absurd q (by decide)) ?_)))))
    exact w5_readValue_79 hG hRP F _ _ _ _ _ h
set_option maxHeartbeats 4000000 in
set_option maxRecDepth 20000 in
theorem w5_readValue_55 {E : EnvT} {G : GT} {RP : Option AV → Mem → Prop} {c0 : Nat} (hG : Cl E 41 5 tb_41 G RP) {r : Mem} (hRP : RP none r) (F : Nat) {k64 : Int32 → Int32 → Mem → Option (Mem)} (hk64 : ∀ (x3 : Int32) (x4 : Int32) (d2 : Option AV) (d5 : Option AV) (σ : Mem), k64 x3 x4 σ = some r → G 64 [some (.ref c0, 5), some (.ref 1, 8), d2, some (.int x3, 0), some (.int x4, 0), d5] [] σ) : ∀ (x3 : Int32) (d2 : Option AV) (d4 : Option AV) (d5 : Option AV) (σ : Mem), m5_readValue_55 F c0 k64 x3 σ = some r → G 55 [some (.ref c0, 5), some (.ref 1, 8), d2, some (.int x3, 0), d4, d5] [] σ := by
  intro x3 d2 d4 d5 σ h
  refine bk hG (cut := [42, 55, 64, 79]) 400 ?_
  unfold m5_readValue_55 at h
  have ⟨_, hc, h⟩ := b_some h
  refine Exists.intro _ (Exists.intro _ (Exists.intro _ (And.intro (c8_number F _ _ _ hc) (And.intro (by decide) (And.intro (fun q => absurd q (by decide)) ?_)))))
  exact hk64 _ _ _ _ _ h
set_option maxHeartbeats 4000000 in
set_option maxRecDepth 20000 in
theorem w5_readValue_42 {E : EnvT} {G : GT} {RP : Option AV → Mem → Prop} {c0 : Nat} (hG : Cl E 41 5 tb_41 G RP) {r : Mem} (hRP : RP none r) (F : Nat) {k64 : Int32 → Int32 → Mem → Option (Mem)} (hk64 : ∀ (x3 : Int32) (x4 : Int32) (d2 : Option AV) (d5 : Option AV) (σ : Mem), k64 x3 x4 σ = some r → G 64 [some (.ref c0, 5), some (.ref 1, 8), d2, some (.int x3, 0), some (.int x4, 0), d5] [] σ) : ∀ (x3 : Int32) (x5 : Int32) (d2 : Option AV) (d4 : Option AV) (σ : Mem), m5_readValue_42 F c0 k64 x3 x5 σ = some r → G 42 [some (.ref c0, 5), some (.ref 1, 8), d2, some (.int x3, 0), d4, some (.int x5, 0)] [] σ := by
  intro x3 x5 d2 d4 σ h
  refine bk hG (cut := [42, 55, 64, 79]) 400 ?_
  unfold m5_readValue_42 at h
  have ⟨_, hc, h⟩ := b_some h
  refine Exists.intro _ (Exists.intro _ (Exists.intro _ (And.intro (c8_passWord F _ hc) (And.intro (by decide) (And.intro (fun q => absurd q (by decide)) ?_)))))
  exact hk64 _ _ _ _ _ h
set_option maxHeartbeats 4000000 in
set_option maxRecDepth 20000 in
theorem c5_readValue {E : EnvT} (F : Nat) (c0 : Nat) (σ : Mem) {r : Mem} (h : m5_readValue F c0 σ = some r) : MetAt E 5 41 [(.ref c0, 5), (.ref 1, 8)] σ none r := by
  unfold m5_readValue at h
  refine MetAt_of (tb := tb_41) (by decide) tbok_41 (Nat.le_of_ble_eq_true rfl) (fun a q => by cases q) (fun G hG => ?_)
  have hRP : (fun (a : Option AV) (τ : Mem) => a.map (conc E) = (none : Option AV).map (conc E) ∧ τ = r) none r := ⟨rfl, rfl⟩
  change G 0 [some (.ref c0, 5), some (.ref 1, 8), none, none, none, none] [] σ
  refine bk hG (cut := [42, 55, 64, 79]) 400 ?_
  have ⟨_, hc, h⟩ := b_some h
  refine Exists.intro _ (Exists.intro _ (Exists.intro _ (And.intro (c8_next F _ hc) (And.intro (by decide) (And.intro (fun q => absurd q (by decide)) ?_)))))
  refine And.intro (fun hq => ?_) (fun hq => ?_)
  · have h := i_pos hq h
    exact w5_readValue_55 hG hRP F (fun _ _ _ _ _ h => w5_readValue_64 hG hRP F _ _ _ _ _ h) _ _ _ _ _ h
  · have h := i_neg hq h
    refine And.intro (fun hq => ?_) (fun hq => ?_)
    · have h := i_pos hq h
      exact w5_readValue_55 hG hRP F (fun _ _ _ _ _ h => w5_readValue_64 hG hRP F _ _ _ _ _ h) _ _ _ _ _ h
    · have h := i_neg hq h
      have ⟨_, hc, h⟩ := b_some h
      refine Exists.intro _ (Exists.intro _ (Exists.intro _ (And.intro (c8_word F _ _ hc) (And.intro (by decide) (And.intro (fun q => absurd q (by decide)) ?_)))))
      refine And.intro (fun hq => ?_) (fun hq => ?_)
      · have h := i_pos hq h
        have ⟨_, hc, h⟩ := b_some h
        refine Exists.intro _ (Exists.intro _ (Exists.intro _ (And.intro (c8_fail F _ _ _ hc) (And.intro (by decide) (And.intro (fun q => absurd q (by decide)) ?_)))))
        exact w5_readValue_42 hG hRP F (fun _ _ _ _ _ h => w5_readValue_64 hG hRP F _ _ _ _ _ h) _ _ _ _ _ h
      · have h := i_neg hq h
        exact w5_readValue_42 hG hRP F (fun _ _ _ _ _ h => w5_readValue_64 hG hRP F _ _ _ _ _ h) _ _ _ _ _ h
set_option maxHeartbeats 4000000 in
set_option maxRecDepth 20000 in
theorem c5_signOf {E : EnvT} (F : Nat) (i0 : Int32) (σ : Mem) {r : Int32} (h : m5_signOf F i0 σ = some r) : MetAt E 0 40 [(.int i0, 0)] σ (some (.int r, 0)) σ := by
  unfold m5_signOf at h
  refine MetAt_of (tb := tb_40) (by decide) tbok_40 (Nat.le_of_ble_eq_true rfl) (fun a q => by cases q; trivial) (fun G hG => ?_)
  have hRP : (fun (a : Option AV) (τ : Mem) => a.map (conc E) = ((some (.int r, 0)) : Option AV).map (conc E) ∧ τ = σ) (some (.int r, 0)) σ := ⟨rfl, rfl⟩
  change G 0 [some (.int i0, 0)] [] σ
  refine bk hG (cut := []) 400 ?_
  refine And.intro (fun hq => ?_) (fun hq => ?_)
  · have h := i_pos hq h
    have e := Option.some.inj h
    subst e
    exact hRP
  have h := i_neg hq h
  refine And.intro (fun hq => ?_) (fun hq => ?_)
  · have h := i_pos hq h
    have e := Option.some.inj h
    subst e
    exact hRP
  have h := i_neg hq h
  refine And.intro (fun hq => ?_) (fun hq => ?_)
  · have h := i_pos hq h
    have e := Option.some.inj h
    subst e
    exact hRP
  have h := i_neg hq h
  refine And.intro (fun hq => ?_) (fun hq => ?_)
  · have h := i_pos hq h
    have e := Option.some.inj h
    subst e
    exact hRP
  have h := i_neg hq h
  refine And.intro (fun hq => ?_) (fun hq => ?_)
  · have h := i_pos hq h
    have e := Option.some.inj h
    subst e
    exact hRP
  have h := i_neg hq h
  refine And.intro (fun hq => ?_) (fun hq => ?_)
  · have h := i_pos hq h
    have e := Option.some.inj h
    subst e
    exact hRP
  have h := i_neg hq h
  refine And.intro (fun hq => ?_) (fun hq => ?_)
  · have h := i_pos hq h
    have e := Option.some.inj h
    subst e
    exact hRP
  have h := i_neg hq h
  refine And.intro (fun hq => ?_) (fun hq => ?_)
  · have h := i_pos hq h
    have e := Option.some.inj h
    subst e
    exact hRP
  have h := i_neg hq h
  refine And.intro (fun hq => ?_) (fun hq => ?_)
  · have h := i_pos hq h
    have e := Option.some.inj h
    subst e
    exact hRP
  have h := i_neg hq h
  refine And.intro (fun hq => ?_) (fun hq => ?_)
  · have h := i_pos hq h
    have e := Option.some.inj h
    subst e
    exact hRP
  have h := i_neg hq h
  refine And.intro (fun hq => ?_) (fun hq => ?_)
  · have h := i_pos hq h
    have e := Option.some.inj h
    subst e
    exact hRP
  have h := i_neg hq h
  have e := Option.some.inj h
  subst e
  exact hRP
set_option maxHeartbeats 4000000 in
set_option maxRecDepth 20000 in
theorem w5_readSum_85 {E : EnvT} {G : GT} {RP : Option AV → Mem → Prop} {c0 : Nat} (hG : Cl E 39 6 tb_39 G RP) {r : Mem} (hRP : RP none r) (F : Nat) {k9 : Int32 → Int32 → Mem → Option (Mem)} (hk9 : ∀ (x2 : Int32) (x3 : Int32) (d4 : Option AV) (d5 : Option AV) (σ : Mem), k9 x2 x3 σ = some r → G 9 [some (.ref c0, 5), some (.ref 1, 8), some (.int x2, 0), some (.int x3, 0), d4, d5] [] σ) : ∀ (x2 : Int32) (x3 : Int32) (x4 : Int32) (x5 : Int32) (σ : Mem), m5_readSum_85 F c0 k9 x2 x3 x4 x5 σ = some r → G 85 [some (.ref c0, 5), some (.ref 1, 8), some (.int x2, 0), some (.int x3, 0), some (.int x4, 0), some (.int x5, 0)] [] σ := by
  intro x2 x3 x4 x5 σ h
  refine bk hG (cut := [9, 64, 69, 85, 113]) 400 ?_
  unfold m5_readSum_85 at h
  have ⟨_, hc, h⟩ := b_some h
  refine Exists.intro _ (Exists.intro _ (Exists.intro _ (And.intro (c5_readValue F _ _ hc) (And.intro (by decide) (And.intro (fun q => absurd q (by decide)) ?_)))))
  refine And.intro (fun hq => ?_) (fun hq => ?_)
  · have h := i_pos hq h
    have ⟨_, hc, h⟩ := b_some h
    refine Exists.intro _ (Exists.intro _ (Exists.intro _ (And.intro (c5_put F _ _ _ hc) (And.intro (by decide) (And.intro (fun q => absurd q (by decide)) ?_)))))
    exact hk9 _ _ _ _ _ h
  · have h := i_neg hq h
    exact hk9 _ _ _ _ _ h
set_option maxHeartbeats 4000000 in
set_option maxRecDepth 20000 in
theorem w5_readSum_113 {E : EnvT} {G : GT} {RP : Option AV → Mem → Prop} {c0 : Nat} (hG : Cl E 39 6 tb_39 G RP) {r : Mem} (hRP : RP none r) (F : Nat) : ∀ (x2 : Int32) (d3 : Option AV) (d4 : Option AV) (d5 : Option AV) (σ : Mem), m5_readSum_113 F c0 x2 σ = some r → G 113 [some (.ref c0, 5), some (.ref 1, 8), some (.int x2, 0), d3, d4, d5] [] σ := by
  intro x2 d3 d4 d5 σ h
  refine bk hG (cut := [9, 64, 69, 85, 113]) 400 ?_
  unfold m5_readSum_113 at h
  refine And.intro (fun hq => ?_) (fun hq => ?_)
  · have h := i_pos hq h
    have e := Option.some.inj h
    subst e
    exact hRP
  · have h := i_neg hq h
    have ⟨_, hc, h⟩ := b_some h
    refine Exists.intro _ (Exists.intro _ (Exists.intro _ (And.intro (c5_put F _ _ _ hc) (And.intro (by decide) (And.intro (fun q => absurd q (by decide)) ?_)))))
    have e := Option.some.inj h
    subst e
    exact hRP
set_option maxHeartbeats 4000000 in
set_option maxRecDepth 20000 in
theorem w5_readSum_69 {E : EnvT} {G : GT} {RP : Option AV → Mem → Prop} {c0 : Nat} (hG : Cl E 39 6 tb_39 G RP) {r : Mem} (hRP : RP none r) (F : Nat) {k9 : Int32 → Int32 → Mem → Option (Mem)} (hk9 : ∀ (x2 : Int32) (x3 : Int32) (d4 : Option AV) (d5 : Option AV) (σ : Mem), k9 x2 x3 σ = some r → G 9 [some (.ref c0, 5), some (.ref 1, 8), some (.int x2, 0), some (.int x3, 0), d4, d5] [] σ) : ∀ (x2 : Int32) (x3 : Int32) (x4 : Int32) (s0 : Int32) (d5 : Option AV) (σ : Mem), m5_readSum_69 F c0 k9 x2 x3 x4 s0 σ = some r → G 69 [some (.ref c0, 5), some (.ref 1, 8), some (.int x2, 0), some (.int x3, 0), some (.int x4, 0), d5] [(.int s0, 0)] σ := by
  intro x2 x3 x4 s0 d5 σ h
  refine bk hG (cut := [9, 64, 69, 85, 113]) 400 ?_
  unfold m5_readSum_69 at h
  refine And.intro (fun hq => ?_) (fun hq => ?_)
  · have h := i_pos hq h
    exact w5_readSum_85 hG hRP F (fun _ _ _ _ _ h => hk9 _ _ _ _ _ h) _ _ _ _ _ h
  · have h := i_neg hq h
    refine And.intro (fun hq => ?_) (fun hq => ?_)
    · have h := i_pos hq h
      exact w5_readSum_85 hG hRP F (fun _ _ _ _ _ h => hk9 _ _ _ _ _ h) _ _ _ _ _ h
    · have h := i_neg hq h
      have ⟨_, hc, h⟩ := b_some h
      refine Exists.intro _ (Exists.intro _ (Exists.intro _ (And.intro (c5_put F _ _ _ hc) (And.intro (by decide) (And.intro (fun q => absurd q (by decide)) ?_)))))
      exact w5_readSum_85 hG hRP F (fun _ _ _ _ _ h => hk9 _ _ _ _ _ h) _ _ _ _ _ h
set_option maxHeartbeats 4000000 in
set_option maxRecDepth 20000 in
theorem w5_readSum_64 {E : EnvT} {G : GT} {RP : Option AV → Mem → Prop} {c0 : Nat} (hG : Cl E 39 6 tb_39 G RP) {r : Mem} (hRP : RP none r) (F : Nat) {k69 : Int32 → Int32 → Int32 → Int32 → Mem → Option (Mem)} (hk69 : ∀ (x2 : Int32) (x3 : Int32) (x4 : Int32) (s0 : Int32) (d5 : Option AV) (σ : Mem), k69 x2 x3 x4 s0 σ = some r → G 69 [some (.ref c0, 5), some (.ref 1, 8), some (.int x2, 0), some (.int x3, 0), some (.int x4, 0), d5] [(.int s0, 0)] σ) : ∀ (x2 : Int32) (x3 : Int32) (x4 : Int32) (d5 : Option AV) (σ : Mem), m5_readSum_64 F c0 k69 x2 x3 x4 σ = some r → G 64 [some (.ref c0, 5), some (.ref 1, 8), some (.int x2, 0), some (.int x3, 0), some (.int x4, 0), d5] [] σ := by
  intro x2 x3 x4 d5 σ h
  refine bk hG (cut := [9, 64, 69, 85, 113]) 400 ?_
  unfold m5_readSum_64 at h
  exact hk69 _ _ _ _ _ _ h
set_option maxHeartbeats 4000000 in
set_option maxRecDepth 20000 in
theorem w5_readSum_9 {E : EnvT} {G : GT} {RP : Option AV → Mem → Prop} {c0 : Nat} (hG : Cl E 39 6 tb_39 G RP) {r : Mem} (hRP : RP none r) (F : Nat) : ∀ (n : Nat) (x2 : Int32) (x3 : Int32) (d4 : Option AV) (d5 : Option AV) (σ : Mem), m5_readSum_9 F c0 n x2 x3 σ = some r → G 9 [some (.ref c0, 5), some (.ref 1, 8), some (.int x2, 0), some (.int x3, 0), d4, d5] [] σ := by
  intro n
  induction n with
  | zero => intro x2 x3 d4 d5 σ h; unfold m5_readSum_9 at h; cases h
  | succ n ih =>
    intro x2 x3 d4 d5 σ h
    refine bk hG (cut := [9, 64, 69, 85, 113]) 400 ?_
    unfold m5_readSum_9 at h
    refine And.intro (fun hq => ?_) (fun hq => ?_)
    · have h := i_pos hq h
      exact w5_readSum_113 hG hRP F _ _ _ _ _ h
    · have h := i_neg hq h
      refine And.intro (fun hq => ?_) (fun hq => ?_)
      · have h := i_pos hq h
        have ⟨_, hc, h⟩ := b_some h
        refine Exists.intro _ (Exists.intro _ (Exists.intro _ (And.intro (c8_next F _ hc) (And.intro (by decide) (And.intro (fun q => absurd q (by decide)) ?_)))))
        have ⟨_, hc, h⟩ := b_some h
        refine Exists.intro _ (Exists.intro _ (Exists.intro _ (And.intro (c5_signOf F _ _ hc) (And.intro (by decide) ?_))))
        refine And.intro (fun hq => ?_) (fun hq => ?_)
        · have h := i_pos hq h
          exact w5_readSum_113 hG hRP F _ _ _ _ _ h
        · have h := i_neg hq h
          refine And.intro (fun hq => ?_) (fun hq => ?_)
          · have h := i_pos hq h
            exact w5_readSum_64 hG hRP F (fun _ _ _ _ _ _ h => w5_readSum_69 hG hRP F (fun _ _ _ _ _ h => ih _ _ _ _ _ h) _ _ _ _ _ _ h) _ _ _ _ _ h
          · have h := i_neg hq h
            refine And.intro (fun hq => ?_) (fun hq => ?_)
            · have h := i_pos hq h
              exact w5_readSum_64 hG hRP F (fun _ _ _ _ _ _ h => w5_readSum_69 hG hRP F (fun _ _ _ _ _ h => ih _ _ _ _ _ h) _ _ _ _ _ _ h) _ _ _ _ _ h
            · have h := i_neg hq h
              exact w5_readSum_69 hG hRP F (fun _ _ _ _ _ h => ih _ _ _ _ _ h) _ _ _ _ _ _ h
      · have h := i_neg hq h
        exact w5_readSum_113 hG hRP F _ _ _ _ _ h
set_option maxHeartbeats 4000000 in
set_option maxRecDepth 20000 in
theorem c5_readSum {E : EnvT} (F : Nat) (c0 : Nat) (σ : Mem) {r : Mem} (h : m5_readSum F c0 σ = some r) : MetAt E 6 39 [(.ref c0, 5), (.ref 1, 8)] σ none r := by
  unfold m5_readSum at h
  refine MetAt_of (tb := tb_39) (by decide) tbok_39 (Nat.le_of_ble_eq_true rfl) (fun a q => by cases q) (fun G hG => ?_)
  have hRP : (fun (a : Option AV) (τ : Mem) => a.map (conc E) = (none : Option AV).map (conc E) ∧ τ = r) none r := ⟨rfl, rfl⟩
  change G 0 [some (.ref c0, 5), some (.ref 1, 8), none, none, none, none] [] σ
  refine bk hG (cut := [9, 64, 69, 85, 113]) 400 ?_
  have ⟨_, hc, h⟩ := b_some h
  refine Exists.intro _ (Exists.intro _ (Exists.intro _ (And.intro (c5_readValue F _ _ hc) (And.intro (by decide) (And.intro (fun q => absurd q (by decide)) ?_)))))
  exact w5_readSum_9 hG hRP F F _ _ _ _ _ h
set_option maxHeartbeats 4000000 in
set_option maxRecDepth 20000 in
theorem w5_readSign_127 {E : EnvT} {G : GT} {RP : Option AV → Mem → Prop} {c0 : Nat} (hG : Cl E 38 1 tb_38 G RP) {r : Int32 × Mem} (hRP : RP (some (.int r.1, 0)) r.2) (F : Nat) : ∀ (x2 : Int32) (x3 : Int32) (σ : Mem), m5_readSign_127 F c0 x2 x3 σ = some r → G 127 [some (.ref c0, 5), some (.ref 1, 8), some (.int x2, 0), some (.int x3, 0)] [] σ := by
  intro x2 x3 σ h
  refine bk hG (cut := [35, 53, 111, 112, 127]) 400 ?_
  unfold m5_readSign_127 at h
  refine And.intro (fun hq => ?_) (fun hq => ?_)
  · have h := i_pos hq h
    refine And.intro (fun hq => ?_) (fun hq => ?_)
    · have h := i_pos hq h
      have e := Option.some.inj h
      subst e
      exact hRP
    · have h := i_neg hq h
      have e := Option.some.inj h
      subst e
      exact hRP
  · have h := i_neg hq h
    refine And.intro (fun hq => ?_) (fun hq => ?_)
    · have h := i_pos hq h
      have e := Option.some.inj h
      subst e
      exact hRP
    · have h := i_neg hq h
      have e := Option.some.inj h
      subst e
      exact hRP
set_option maxHeartbeats 4000000 in
set_option maxRecDepth 20000 in
theorem w5_readSign_112 {E : EnvT} {G : GT} {RP : Option AV → Mem → Prop} {c0 : Nat} (hG : Cl E 38 1 tb_38 G RP) {r : Int32 × Mem} (hRP : RP (some (.int r.1, 0)) r.2) (F : Nat) : ∀ (x2 : Int32) (s0 : Int32) (d3 : Option AV) (σ : Mem), m5_readSign_112 F c0 x2 s0 σ = some r → G 112 [some (.ref c0, 5), some (.ref 1, 8), some (.int x2, 0), d3] [(.int s0, 0)] σ := by
  intro x2 s0 d3 σ h
  refine bk hG (cut := [35, 53, 111, 112, 127]) 400 ?_
  unfold m5_readSign_112 at h
  refine And.intro (fun hq => ?_) (fun hq => ?_)
  · have h := i_pos hq h
    exact w5_readSign_127 hG hRP F _ _ _ h
  · have h := i_neg hq h
    exact w5_readSign_127 hG hRP F _ _ _ h
set_option maxHeartbeats 4000000 in
set_option maxRecDepth 20000 in
theorem w5_readSign_111 {E : EnvT} {G : GT} {RP : Option AV → Mem → Prop} {c0 : Nat} (hG : Cl E 38 1 tb_38 G RP) {r : Int32 × Mem} (hRP : RP (some (.int r.1, 0)) r.2) (F : Nat) {k112 : Int32 → Int32 → Mem → Option (Int32 × Mem)} (hk112 : ∀ (x2 : Int32) (s0 : Int32) (d3 : Option AV) (σ : Mem), k112 x2 s0 σ = some r → G 112 [some (.ref c0, 5), some (.ref 1, 8), some (.int x2, 0), d3] [(.int s0, 0)] σ) : ∀ (x2 : Int32) (d3 : Option AV) (σ : Mem), m5_readSign_111 F c0 k112 x2 σ = some r → G 111 [some (.ref c0, 5), some (.ref 1, 8), some (.int x2, 0), d3] [] σ := by
  intro x2 d3 σ h
  refine bk hG (cut := [35, 53, 111, 112, 127]) 400 ?_
  unfold m5_readSign_111 at h
  exact hk112 _ _ _ _ h
set_option maxHeartbeats 4000000 in
set_option maxRecDepth 20000 in
theorem w5_readSign_53 {E : EnvT} {G : GT} {RP : Option AV → Mem → Prop} {c0 : Nat} (hG : Cl E 38 1 tb_38 G RP) {r : Int32 × Mem} (hRP : RP (some (.int r.1, 0)) r.2) (F : Nat) : ∀ (x2 : Int32) (d3 : Option AV) (σ : Mem), m5_readSign_53 F c0 x2 σ = some r → G 53 [some (.ref c0, 5), some (.ref 1, 8), some (.int x2, 0), d3] [] σ := by
  intro x2 d3 σ h
  refine bk hG (cut := [35, 53, 111, 112, 127]) 400 ?_
  unfold m5_readSign_53 at h
  refine And.intro (fun hq => ?_) (fun hq => ?_)
  · have h := i_pos hq h
    have e := Option.some.inj h
    subst e
    exact hRP
  · have h := i_neg hq h
    refine And.intro (fun hq => ?_) (fun hq => ?_)
    · have h := i_pos hq h
      exact w5_readSign_111 hG hRP F (fun _ _ _ _ h => w5_readSign_112 hG hRP F _ _ _ _ h) _ _ _ h
    · have h := i_neg hq h
      have ⟨hg, h⟩ := g_gd h
      refine And.intro (inB_of hg) ?_
      refine And.intro (fun hq => ?_) (fun hq => ?_)
      · have h := i_pos hq h
        exact w5_readSign_112 hG hRP F _ _ _ _ h
      · have h := i_neg hq h
        exact w5_readSign_111 hG hRP F (fun _ _ _ _ h => w5_readSign_112 hG hRP F _ _ _ _ h) _ _ _ h
set_option maxHeartbeats 4000000 in
set_option maxRecDepth 20000 in
theorem w5_readSign_35 {E : EnvT} {G : GT} {RP : Option AV → Mem → Prop} {c0 : Nat} (hG : Cl E 38 1 tb_38 G RP) {r : Int32 × Mem} (hRP : RP (some (.int r.1, 0)) r.2) (F : Nat) : ∀ (x2 : Int32) (d3 : Option AV) (σ : Mem), m5_readSign_35 F c0 x2 σ = some r → G 35 [some (.ref c0, 5), some (.ref 1, 8), some (.int x2, 0), d3] [] σ := by
  intro x2 d3 σ h
  refine bk hG (cut := [35, 53, 111, 112, 127]) 400 ?_
  unfold m5_readSign_35 at h
  refine And.intro (fun hq => ?_) (fun hq => ?_)
  · have h := i_pos hq h
    exact w5_readSign_53 hG hRP F _ _ _ h
  · have h := i_neg hq h
    have ⟨_, hc, h⟩ := b_some h
    refine Exists.intro _ (Exists.intro _ (Exists.intro _ (And.intro (c8_fail F _ _ _ hc) (And.intro (by decide) (And.intro (fun q => absurd q (by decide)) ?_)))))
    exact w5_readSign_53 hG hRP F _ _ _ h
set_option maxHeartbeats 4000000 in
set_option maxRecDepth 20000 in
theorem c5_readSign {E : EnvT} (F : Nat) (c0 : Nat) (σ : Mem) {r : Int32 × Mem} (h : m5_readSign F c0 σ = some r) : MetAt E 1 38 [(.ref c0, 5), (.ref 1, 8)] σ (some (.int r.1, 0)) r.2 := by
  unfold m5_readSign at h
  refine MetAt_of (tb := tb_38) (by decide) tbok_38 (Nat.le_of_ble_eq_true rfl) (fun a q => by cases q; trivial) (fun G hG => ?_)
  have hRP : (fun (a : Option AV) (τ : Mem) => a.map (conc E) = ((some (.int r.1, 0)) : Option AV).map (conc E) ∧ τ = r.2) (some (.int r.1, 0)) r.2 := ⟨rfl, rfl⟩
  change G 0 [some (.ref c0, 5), some (.ref 1, 8), none, none] [] σ
  refine bk hG (cut := [35, 53, 111, 112, 127]) 400 ?_
  have ⟨_, hc, h⟩ := b_some h
  refine Exists.intro _ (Exists.intro _ (Exists.intro _ (And.intro (c8_next F _ hc) (And.intro (by decide) (And.intro (fun q => absurd q (by decide)) ?_)))))
  refine And.intro (fun hq => ?_) (fun hq => ?_)
  · have h := i_pos hq h
    exact w5_readSign_35 hG hRP F _ _ _ h
  · have h := i_neg hq h
    refine And.intro (fun hq => ?_) (fun hq => ?_)
    · have h := i_pos hq h
      exact w5_readSign_35 hG hRP F _ _ _ h
    · have h := i_neg hq h
      refine And.intro (fun hq => ?_) (fun hq => ?_)
      · have h := i_pos hq h
        exact w5_readSign_35 hG hRP F _ _ _ h
      · have h := i_neg hq h
        have ⟨_, hc, h⟩ := b_some h
        refine Exists.intro _ (Exists.intro _ (Exists.intro _ (And.intro (c8_fail F _ _ _ hc) (And.intro (by decide) (And.intro (fun q => absurd q (by decide)) ?_)))))
        have e := Option.some.inj h
        subst e
        exact hRP
set_option maxHeartbeats 4000000 in
set_option maxRecDepth 20000 in
theorem w5_readTest_96 {E : EnvT} {G : GT} {RP : Option AV → Mem → Prop} {D : Nat} {c0 : Nat} {i2 : Int32} {rec : Nat → Int32 → Mem → Option (Mem)} (hG : Cl E 36 (8 + 2 * D) tb_36 G RP) {r : Mem} (hRP : RP none r) (F : Nat) (hrec : ∀ (c0 : Nat) (i2 : Int32) (σ : Mem) {r : Mem}, rec c0 i2 σ = some r → MetAt E (7 + 2 * D) 37 [(.ref c0, 5), (.ref 1, 8), (.int i2, 0)] σ none r) : ∀ (x3 : Int32) (d4 : Option AV) (d5 : Option AV) (σ : Mem), m5_readTest_96 F rec c0 i2 x3 σ = some r → G 96 [some (.ref c0, 5), some (.ref 1, 8), some (.int i2, 0), some (.int x3, 0), d4, d5] [] σ := by
  intro x3 d4 d5 σ h
  refine bk hG (cut := [11, 68, 96]) 400 ?_
  unfold m5_readTest_96 at h
  refine And.intro (fun hq => ?_) (fun hq => ?_)
  · have h := i_pos hq h
    have e := Option.some.inj h
    subst e
    exact hRP
  · have h := i_neg hq h
    have ⟨_, hc, h⟩ := b_some h
    refine Exists.intro _ (Exists.intro _ (Exists.intro _ (And.intro (c5_put F _ _ _ hc) (And.intro (by omega) (And.intro (fun q => absurd q (by decide)) ?_)))))
    have e := Option.some.inj h
    subst e
    exact hRP
set_option maxHeartbeats 4000000 in
set_option maxRecDepth 20000 in
theorem w5_readTest_68 {E : EnvT} {G : GT} {RP : Option AV → Mem → Prop} {D : Nat} {c0 : Nat} {i2 : Int32} {rec : Nat → Int32 → Mem → Option (Mem)} (hG : Cl E 36 (8 + 2 * D) tb_36 G RP) {r : Mem} (hRP : RP none r) (F : Nat) (hrec : ∀ (c0 : Nat) (i2 : Int32) (σ : Mem) {r : Mem}, rec c0 i2 σ = some r → MetAt E (7 + 2 * D) 37 [(.ref c0, 5), (.ref 1, 8), (.int i2, 0)] σ none r) {k11 : Int32 → Int32 → Mem → Option (Mem)} (hk11 : ∀ (x3 : Int32) (x4 : Int32) (d5 : Option AV) (σ : Mem), k11 x3 x4 σ = some r → G 11 [some (.ref c0, 5), some (.ref 1, 8), some (.int i2, 0), some (.int x3, 0), some (.int x4, 0), d5] [] σ) : ∀ (x3 : Int32) (x4 : Int32) (x5 : Int32) (σ : Mem), m5_readTest_68 F rec c0 i2 k11 x3 x4 x5 σ = some r → G 68 [some (.ref c0, 5), some (.ref 1, 8), some (.int i2, 0), some (.int x3, 0), some (.int x4, 0), some (.int x5, 0)] [] σ := by
  intro x3 x4 x5 σ h
  refine bk hG (cut := [11, 68, 96]) 400 ?_
  unfold m5_readTest_68 at h
  have ⟨_, hc, h⟩ := b_some h
  refine Exists.intro _ (Exists.intro _ (Exists.intro _ (And.intro (hrec _ _ _ hc) (And.intro (by omega) (And.intro (fun q => absurd q (by decide)) ?_)))))
  refine And.intro (fun hq => ?_) (fun hq => ?_)
  · have h := i_pos hq h
    have ⟨_, hc, h⟩ := b_some h
    refine Exists.intro _ (Exists.intro _ (Exists.intro _ (And.intro (c5_put F _ _ _ hc) (And.intro (by omega) (And.intro (fun q => absurd q (by decide)) ?_)))))
    exact hk11 _ _ _ _ h
  · have h := i_neg hq h
    exact hk11 _ _ _ _ h
set_option maxHeartbeats 4000000 in
set_option maxRecDepth 20000 in
theorem w5_readTest_11 {E : EnvT} {G : GT} {RP : Option AV → Mem → Prop} {D : Nat} {c0 : Nat} {i2 : Int32} {rec : Nat → Int32 → Mem → Option (Mem)} (hG : Cl E 36 (8 + 2 * D) tb_36 G RP) {r : Mem} (hRP : RP none r) (F : Nat) (hrec : ∀ (c0 : Nat) (i2 : Int32) (σ : Mem) {r : Mem}, rec c0 i2 σ = some r → MetAt E (7 + 2 * D) 37 [(.ref c0, 5), (.ref 1, 8), (.int i2, 0)] σ none r) : ∀ (n : Nat) (x3 : Int32) (x4 : Int32) (d5 : Option AV) (σ : Mem), m5_readTest_11 F rec c0 i2 n x3 x4 σ = some r → G 11 [some (.ref c0, 5), some (.ref 1, 8), some (.int i2, 0), some (.int x3, 0), some (.int x4, 0), d5] [] σ := by
  intro n
  induction n with
  | zero => intro x3 x4 d5 σ h; unfold m5_readTest_11 at h; cases h
  | succ n ih =>
    intro x3 x4 d5 σ h
    refine bk hG (cut := [11, 68, 96]) 400 ?_
    unfold m5_readTest_11 at h
    refine And.intro (fun hq => ?_) (fun hq => ?_)
    · have h := i_pos hq h
      exact w5_readTest_96 hG hRP F hrec _ _ _ _ h
    · have h := i_neg hq h
      refine And.intro (fun hq => ?_) (fun hq => ?_)
      · have h := i_pos hq h
        have ⟨_, hc, h⟩ := b_some h
        refine Exists.intro _ (Exists.intro _ (Exists.intro _ (And.intro (c8_next F _ hc) (And.intro (by omega) (And.intro (fun q => absurd q (by decide)) ?_)))))
        have ⟨_, hc, h⟩ := b_some h
        refine Exists.intro _ (Exists.intro _ (Exists.intro _ (And.intro (c8_word F _ _ hc) (And.intro (by omega) (And.intro (fun q => absurd q (by decide)) ?_)))))
        refine And.intro (fun hq => ?_) (fun hq => ?_)
        · have h := i_pos hq h
          exact w5_readTest_96 hG hRP F hrec _ _ _ _ h
        · have h := i_neg hq h
          have ⟨_, hc, h⟩ := b_some h
          refine Exists.intro _ (Exists.intro _ (Exists.intro _ (And.intro (c8_passWord F _ hc) (And.intro (by omega) (And.intro (fun q => absurd q (by decide)) ?_)))))
          refine And.intro (fun hq => ?_) (fun hq => ?_)
          · have h := i_pos hq h
            refine And.intro (fun hq => ?_) (fun hq => ?_)
            · have h := i_pos hq h
              exact w5_readTest_68 hG hRP F hrec (fun _ _ _ _ h => ih _ _ _ _ h) _ _ _ _ h
            · have h := i_neg hq h
              have ⟨_, hc, h⟩ := b_some h
              refine Exists.intro _ (Exists.intro _ (Exists.intro _ (And.intro (c5_put F _ _ _ hc) (And.intro (by omega) (And.intro (fun q => absurd q (by decide)) ?_)))))
              exact w5_readTest_68 hG hRP F hrec (fun _ _ _ _ h => ih _ _ _ _ h) _ _ _ _ h
          · have h := i_neg hq h
            exact w5_readTest_68 hG hRP F hrec (fun _ _ _ _ h => ih _ _ _ _ h) _ _ _ _ h
      · have h := i_neg hq h
        exact w5_readTest_96 hG hRP F hrec _ _ _ _ h
set_option maxHeartbeats 4000000 in
set_option maxRecDepth 20000 in
theorem c5_readTest {E : EnvT} (F : Nat) {D : Nat} {rec : Nat → Int32 → Mem → Option (Mem)} (hrec : ∀ (c0 : Nat) (i2 : Int32) (σ : Mem) {r : Mem}, rec c0 i2 σ = some r → MetAt E (7 + 2 * D) 37 [(.ref c0, 5), (.ref 1, 8), (.int i2, 0)] σ none r) (c0 : Nat) (i2 : Int32) (σ : Mem) {r : Mem} (h : m5_readTest F rec c0 i2 σ = some r) : MetAt E (8 + 2 * D) 36 [(.ref c0, 5), (.ref 1, 8), (.int i2, 0)] σ none r := by
  unfold m5_readTest at h
  refine MetAt_of (tb := tb_36) (by decide) tbok_36 (Nat.le_of_ble_eq_true rfl) (fun a q => by cases q) (fun G hG => ?_)
  have hRP : (fun (a : Option AV) (τ : Mem) => a.map (conc E) = (none : Option AV).map (conc E) ∧ τ = r) none r := ⟨rfl, rfl⟩
  change G 0 [some (.ref c0, 5), some (.ref 1, 8), some (.int i2, 0), none, none, none] [] σ
  refine bk hG (cut := [11, 68, 96]) 400 ?_
  have ⟨_, hc, h⟩ := b_some h
  refine Exists.intro _ (Exists.intro _ (Exists.intro _ (And.intro (hrec _ _ _ hc) (And.intro (by omega) (And.intro (fun q => absurd q (by decide)) ?_)))))
  exact w5_readTest_11 hG hRP F hrec F _ _ _ _ h
set_option maxHeartbeats 4000000 in
set_option maxRecDepth 20000 in
theorem w5_readFact_67 {E : EnvT} {G : GT} {RP : Option AV → Mem → Prop} {D : Nat} {c0 : Nat} {i2 : Int32} {rec : Nat → Int32 → Mem → Option (Mem)} (hG : Cl E 37 (7 + 2 * (D + 1)) tb_37 G RP) {r : Mem} (hRP : RP none r) (F : Nat) (hrec : ∀ (c0 : Nat) (i2 : Int32) (σ : Mem) {r : Mem}, rec c0 i2 σ = some r → MetAt E (7 + 2 * D) 37 [(.ref c0, 5), (.ref 1, 8), (.int i2, 0)] σ none r) : ∀ (x4 : Int32) (d3 : Option AV) (d5 : Option AV) (σ : Mem), m5_readFact_67 F rec c0 i2 x4 σ = some r → G 67 [some (.ref c0, 5), some (.ref 1, 8), some (.int i2, 0), d3, some (.int x4, 0), d5] [] σ := by
  intro x4 d3 d5 σ h
  refine bk hG (cut := [14, 30, 67]) 400 ?_
  unfold m5_readFact_67 at h
  refine And.intro (fun hq => ?_) (fun hq => ?_)
  · have h := i_pos hq h
    refine And.intro (fun hq => ?_) (fun hq => ?_)
    · have h := i_pos hq h
      have ⟨_, hc, h⟩ := b_some h
      refine Exists.intro _ (Exists.intro _ (Exists.intro _ (And.intro (c5_readTest F hrec _ _ _ hc) (And.intro (by omega) (And.intro (fun q => absurd q (by decide)) ?_)))))
      have ⟨_, hc, h⟩ := b_some h
      refine Exists.intro _ (Exists.intro _ (Exists.intro _ (And.intro (c8_next F _ hc) (And.intro (by omega) (And.intro (fun q => absurd q (by decide)) ?_)))))
      refine And.intro (fun hq => ?_) (fun hq => ?_)
      · have h := i_pos hq h
        have e := Option.some.inj h
        subst e
        exact hRP
      · have h := i_neg hq h
        have ⟨_, hc, h⟩ := b_some h
        refine Exists.intro _ (Exists.intro _ (Exists.intro _ (And.intro (c8_fail F _ _ _ hc) (And.intro (by omega) (And.intro (fun q => absurd q (by decide)) ?_)))))
        have e := Option.some.inj h
        subst e
        exact hRP
    · have h := i_neg hq h
      have ⟨_, hc, h⟩ := b_some h
      refine Exists.intro _ (Exists.intro _ (Exists.intro _ (And.intro (c8_passWord F _ hc) (And.intro (by omega) (And.intro (fun q => absurd q (by decide)) ?_)))))
      have ⟨_, hc, h⟩ := b_some h
      refine Exists.intro _ (Exists.intro _ (Exists.intro _ (And.intro (hrec _ _ _ hc) (And.intro (by omega) (And.intro (fun q => absurd q (by decide)) ?_)))))
      have ⟨_, hc, h⟩ := b_some h
      refine Exists.intro _ (Exists.intro _ (Exists.intro _ (And.intro (c5_put F _ _ _ hc) (And.intro (by omega) (And.intro (fun q => absurd q (by decide)) ?_)))))
      have e := Option.some.inj h
      subst e
      exact hRP
  · have h := i_neg hq h
    have ⟨_, hc, h⟩ := b_some h
    refine Exists.intro _ (Exists.intro _ (Exists.intro _ (And.intro (c8_fail F _ _ _ hc) (And.intro (by omega) (And.intro (fun q => absurd q (by decide)) ?_)))))
    have e := Option.some.inj h
    subst e
    exact hRP
set_option maxHeartbeats 4000000 in
set_option maxRecDepth 20000 in
theorem w5_readFact_30 {E : EnvT} {G : GT} {RP : Option AV → Mem → Prop} {D : Nat} {c0 : Nat} {i2 : Int32} {rec : Nat → Int32 → Mem → Option (Mem)} (hG : Cl E 37 (7 + 2 * (D + 1)) tb_37 G RP) {r : Mem} (hRP : RP none r) (F : Nat) (hrec : ∀ (c0 : Nat) (i2 : Int32) (σ : Mem) {r : Mem}, rec c0 i2 σ = some r → MetAt E (7 + 2 * D) 37 [(.ref c0, 5), (.ref 1, 8), (.int i2, 0)] σ none r) : ∀ (x3 : Int32) (s0 : Int32) (d4 : Option AV) (d5 : Option AV) (σ : Mem), m5_readFact_30 F rec c0 i2 x3 s0 σ = some r → G 30 [some (.ref c0, 5), some (.ref 1, 8), some (.int i2, 0), some (.int x3, 0), d4, d5] [(.int s0, 0)] σ := by
  intro x3 s0 d4 d5 σ h
  refine bk hG (cut := [14, 30, 67]) 400 ?_
  unfold m5_readFact_30 at h
  refine And.intro (fun hq => ?_) (fun hq => ?_)
  · have h := i_pos hq h
    refine And.intro (fun hq => ?_) (fun hq => ?_)
    · have h := i_pos hq h
      have ⟨_, hc, h⟩ := b_some h
      refine Exists.intro _ (Exists.intro _ (Exists.intro _ (And.intro (c5_readSum F _ _ hc) (And.intro (by omega) (And.intro (fun q => absurd q (by decide)) ?_)))))
      have ⟨_, hc, h⟩ := b_some h
      refine Exists.intro _ (Exists.intro _ (Exists.intro _ (And.intro (c5_readSign F _ _ hc) (And.intro (by omega) (And.intro (fun q => absurd q (by decide)) ?_)))))
      have ⟨_, hc, h⟩ := b_some h
      refine Exists.intro _ (Exists.intro _ (Exists.intro _ (And.intro (c5_readSum F _ _ hc) (And.intro (by omega) (And.intro (fun q => absurd q (by decide)) ?_)))))
      have ⟨_, hc, h⟩ := b_some h
      refine Exists.intro _ (Exists.intro _ (Exists.intro _ (And.intro (c5_put F _ _ _ hc) (And.intro (by omega) (And.intro (fun q => absurd q (by decide)) ?_)))))
      have e := Option.some.inj h
      subst e
      exact hRP
    · have h := i_neg hq h
      exact w5_readFact_67 hG hRP F hrec _ _ _ _ h
  · have h := i_neg hq h
    exact w5_readFact_67 hG hRP F hrec _ _ _ _ h
set_option maxHeartbeats 4000000 in
set_option maxRecDepth 20000 in
theorem w5_readFact_14 {E : EnvT} {G : GT} {RP : Option AV → Mem → Prop} {D : Nat} {c0 : Nat} {i2 : Int32} {rec : Nat → Int32 → Mem → Option (Mem)} (hG : Cl E 37 (7 + 2 * (D + 1)) tb_37 G RP) {r : Mem} (hRP : RP none r) (F : Nat) (hrec : ∀ (c0 : Nat) (i2 : Int32) (σ : Mem) {r : Mem}, rec c0 i2 σ = some r → MetAt E (7 + 2 * D) 37 [(.ref c0, 5), (.ref 1, 8), (.int i2, 0)] σ none r) : ∀ (s0 : Int32) (d3 : Option AV) (d4 : Option AV) (d5 : Option AV) (σ : Mem), m5_readFact_14 F rec c0 i2 s0 σ = some r → G 14 [some (.ref c0, 5), some (.ref 1, 8), some (.int i2, 0), d3, d4, d5] [(.int s0, 0)] σ := by
  intro s0 d3 d4 d5 σ h
  refine bk hG (cut := [14, 30, 67]) 400 ?_
  unfold m5_readFact_14 at h
  have ⟨_, hc, h⟩ := b_some h
  refine Exists.intro _ (Exists.intro _ (Exists.intro _ (And.intro (c8_word F _ _ hc) (And.intro (by omega) (And.intro (fun q => absurd q (by decide)) ?_)))))
  refine And.intro (fun hq => ?_) (fun hq => ?_)
  · have h := i_pos hq h
    exact w5_readFact_30 hG hRP F hrec _ _ _ _ _ h
  · have h := i_neg hq h
    exact w5_readFact_30 hG hRP F hrec _ _ _ _ _ h
set_option maxHeartbeats 4000000 in
set_option maxRecDepth 20000 in
theorem c5_readFact {E : EnvT} (F : Nat) : ∀ (D : Nat) (c0 : Nat) (i2 : Int32) (σ : Mem) {r : Mem}, m5_readFact F D c0 i2 σ = some r → MetAt E (7 + 2 * D) 37 [(.ref c0, 5), (.ref 1, 8), (.int i2, 0)] σ none r := by
  intro D
  induction D with
  | zero => intro c0 i2 σ r h; cases h
  | succ D ih =>
    intro c0 i2 σ r h
    have hrec := @ih
    change m5_readFact_e F (m5_readFact F D) c0 i2 σ = some r at h
    unfold m5_readFact_e at h
    refine MetAt_of (tb := tb_37) (by decide) tbok_37 (Nat.le_of_ble_eq_true rfl) (fun a q => by cases q) (fun G hG => ?_)
    have hRP : (fun (a : Option AV) (τ : Mem) => a.map (conc E) = (none : Option AV).map (conc E) ∧ τ = r) none r := ⟨rfl, rfl⟩
    change G 0 [some (.ref c0, 5), some (.ref 1, 8), some (.int i2, 0), none, none, none] [] σ
    refine bk hG (cut := [14, 30, 67]) 400 ?_
    have ⟨_, hc, h⟩ := b_some h
    refine Exists.intro _ (Exists.intro _ (Exists.intro _ (And.intro (c8_next F _ hc) (And.intro (by omega) (And.intro (fun q => absurd q (by decide)) ?_)))))
    refine And.intro (fun hq => ?_) (fun hq => ?_)
    · have h := i_pos hq h
      exact w5_readFact_14 hG hRP F hrec _ _ _ _ _ h
    · have h := i_neg hq h
      exact w5_readFact_14 hG hRP F hrec _ _ _ _ _ h
set_option maxHeartbeats 4000000 in
set_option maxRecDepth 20000 in
theorem w5_read_136 {E : EnvT} {G : GT} {RP : Option AV → Mem → Prop} {c0 : Nat} (hG : Cl E 33 35 tb_33 G RP) {r : Int32 × Mem} (hRP : RP (some (.int r.1, 0)) r.2) (F : Nat) {k21 : Int32 → Mem → Option (Int32 × Mem)} (hk21 : ∀ (x2 : Int32) (d3 : Option AV) (σ : Mem), k21 x2 σ = some r → G 21 [some (.ref c0, 5), some (.ref 1, 8), some (.int x2, 0), d3] [] σ) : ∀ (x2 : Int32) (d3 : Option AV) (σ : Mem), m5_read_136 F c0 k21 x2 σ = some r → G 136 [some (.ref c0, 5), some (.ref 1, 8), some (.int x2, 0), d3] [] σ := by
  intro x2 d3 σ h
  refine bk hG (cut := [21, 82, 136]) 400 ?_
  unfold m5_read_136 at h
  exact hk21 _ _ _ h
set_option maxHeartbeats 4000000 in
set_option maxRecDepth 20000 in
theorem w5_read_82 {E : EnvT} {G : GT} {RP : Option AV → Mem → Prop} {c0 : Nat} (hG : Cl E 33 35 tb_33 G RP) {r : Int32 × Mem} (hRP : RP (some (.int r.1, 0)) r.2) (F : Nat) {k21 : Int32 → Mem → Option (Int32 × Mem)} (hk21 : ∀ (x2 : Int32) (d3 : Option AV) (σ : Mem), k21 x2 σ = some r → G 21 [some (.ref c0, 5), some (.ref 1, 8), some (.int x2, 0), d3] [] σ) : ∀ (x2 : Int32) (d3 : Option AV) (σ : Mem), m5_read_82 F c0 k21 x2 σ = some r → G 82 [some (.ref c0, 5), some (.ref 1, 8), some (.int x2, 0), d3] [] σ := by
  intro x2 d3 σ h
  refine bk hG (cut := [21, 82, 136]) 400 ?_
  unfold m5_read_82 at h
  have ⟨hg, h⟩ := g_gd h
  refine And.intro (inB_of hg) ?_
  have ⟨_, hc, h⟩ := b_some h
  refine Exists.intro _ (Exists.intro _ (Exists.intro _ (And.intro (c8_next F _ hc) (And.intro (by decide) (And.intro (fun q => absurd q (by decide)) ?_)))))
  refine And.intro (fun hq => ?_) (fun hq => ?_)
  · have h := i_pos hq h
    refine And.intro (fun hq => ?_) (fun hq => ?_)
    · have h := i_pos hq h
      have e := Option.some.inj h
      subst e
      exact hRP
    · have h := i_neg hq h
      refine And.intro (fun hq => ?_) (fun hq => ?_)
      · have h := i_pos hq h
        exact w5_read_136 hG hRP F (fun _ _ _ h => hk21 _ _ _ h) _ _ _ h
      · have h := i_neg hq h
        have ⟨_, hc, h⟩ := b_some h
        refine Exists.intro _ (Exists.intro _ (Exists.intro _ (And.intro (c8_fail F _ _ _ hc) (And.intro (by decide) (And.intro (fun q => absurd q (by decide)) ?_)))))
        exact w5_read_136 hG hRP F (fun _ _ _ h => hk21 _ _ _ h) _ _ _ h
  · have h := i_neg hq h
    have e := Option.some.inj h
    subst e
    exact hRP
set_option maxHeartbeats 4000000 in
set_option maxRecDepth 20000 in
theorem w5_read_21 {E : EnvT} {G : GT} {RP : Option AV → Mem → Prop} {c0 : Nat} (hG : Cl E 33 35 tb_33 G RP) {r : Int32 × Mem} (hRP : RP (some (.int r.1, 0)) r.2) (F : Nat) : ∀ (n : Nat) (x2 : Int32) (d3 : Option AV) (σ : Mem), m5_read_21 F c0 n x2 σ = some r → G 21 [some (.ref c0, 5), some (.ref 1, 8), some (.int x2, 0), d3] [] σ := by
  intro n
  induction n with
  | zero => intro x2 d3 σ h; unfold m5_read_21 at h; cases h
  | succ n ih =>
    intro x2 d3 σ h
    refine bk hG (cut := [21, 82, 136]) 400 ?_
    unfold m5_read_21 at h
    refine And.intro (fun hq => ?_) (fun hq => ?_)
    · have h := i_pos hq h
      have ⟨_, hc, h⟩ := b_some h
      refine Exists.intro _ (Exists.intro _ (Exists.intro _ (And.intro (c5_passStrike F _ _ hc) (And.intro (by decide) ?_))))
      have e := Option.some.inj h
      subst e
      exact hRP
    · have h := i_neg hq h
      have ⟨_, hc, h⟩ := b_some h
      refine Exists.intro _ (Exists.intro _ (Exists.intro _ (And.intro (c5_passStrike F _ _ hc) (And.intro (by decide) ?_))))
      have ⟨hg, h⟩ := g_gd h
      refine And.intro (inB_of hg) ?_
      have ⟨_, hc, h⟩ := b_some h
      refine Exists.intro _ (Exists.intro _ (Exists.intro _ (And.intro (c5_readSum F _ _ hc) (And.intro (by decide) (And.intro (fun q => absurd q (by decide)) ?_)))))
      have ⟨hg, h⟩ := g_gd h
      refine And.intro (inB_of hg) ?_
      have ⟨_, hc, h⟩ := b_some h
      refine Exists.intro _ (Exists.intro _ (Exists.intro _ (And.intro (c8_next F _ hc) (And.intro (by decide) (And.intro (fun q => absurd q (by decide)) ?_)))))
      have ⟨_, hc, h⟩ := b_some h
      refine Exists.intro _ (Exists.intro _ (Exists.intro _ (And.intro (c8_word F _ _ hc) (And.intro (by decide) (And.intro (fun q => absurd q (by decide)) ?_)))))
      refine And.intro (fun hq => ?_) (fun hq => ?_)
      · have h := i_pos hq h
        exact w5_read_82 hG hRP F (fun _ _ _ h => ih _ _ _ h) _ _ _ h
      · have h := i_neg hq h
        have ⟨_, hc, h⟩ := b_some h
        refine Exists.intro _ (Exists.intro _ (Exists.intro _ (And.intro (c8_passWord F _ hc) (And.intro (by decide) (And.intro (fun q => absurd q (by decide)) ?_)))))
        have ⟨_, hc, h⟩ := b_some h
        refine Exists.intro _ (Exists.intro _ (Exists.intro _ (And.intro (c5_readTest F (D := 13) (c5_readFact F 13) _ _ _ hc) (And.intro (by decide) (And.intro (fun q => absurd q (by decide)) ?_)))))
        exact w5_read_82 hG hRP F (fun _ _ _ h => ih _ _ _ h) _ _ _ h
set_option maxHeartbeats 4000000 in
set_option maxRecDepth 20000 in
theorem c5_read {E : EnvT} (F : Nat) (c0 : Nat) (σ : Mem) {r : Int32 × Mem} (h : m5_read F c0 σ = some r) : MetAt E 35 33 [(.ref c0, 5), (.ref 1, 8)] σ (some (.int r.1, 0)) r.2 := by
  unfold m5_read at h
  refine MetAt_of (tb := tb_33) (by decide) tbok_33 (Nat.le_of_ble_eq_true rfl) (fun a q => by cases q; trivial) (fun G hG => ?_)
  have hRP : (fun (a : Option AV) (τ : Mem) => a.map (conc E) = ((some (.int r.1, 0)) : Option AV).map (conc E) ∧ τ = r.2) (some (.int r.1, 0)) r.2 := ⟨rfl, rfl⟩
  change G 0 [some (.ref c0, 5), some (.ref 1, 8), none, none] [] σ
  refine bk hG (cut := [21, 82, 136]) 400 ?_
  have ⟨_, hc, h⟩ := b_some h
  refine Exists.intro _ (Exists.intro _ (Exists.intro _ (And.intro (c8_rewind F _ hc) (And.intro (by decide) (And.intro (fun q => absurd q (by decide)) ?_)))))
  exact w5_read_21 hG hRP F F _ _ _ h
set_option maxHeartbeats 4000000 in
set_option maxRecDepth 20000 in
theorem w6_goOn_10 {E : EnvT} {G : GT} {RP : Option AV → Mem → Prop} {c1 : Nat} {i2 : Int32} (hG : Cl E 44 4 tb_44 G RP) {r : Mem} (hRP : RP (some (.ref 46, 7)) r) (F : Nat) : ∀ (n : Nat) (x3 : Int32) (σ : Mem), m6_goOn_10 F c1 i2 n x3 σ = some r → G 10 [some (.ref 45, 6), some (.ref c1, 7), some (.int i2, 0), some (.int x3, 0)] [] σ := by
  intro n
  induction n with
  | zero => intro x3 σ h; unfold m6_goOn_10 at h; cases h
  | succ n ih =>
    intro x3 σ h
    refine bk hG (cut := [10]) 400 ?_
    unfold m6_goOn_10 at h
    refine And.intro (fun hq => ?_) (fun hq => ?_)
    · have h := i_pos hq h
      have e := Option.some.inj h
      subst e
      exact hRP
    · have h := i_neg hq h
      have ⟨_, hc, h⟩ := b_some h
      refine Exists.intro _ (Exists.intro _ (Exists.intro _ (And.intro (c2_go F _ _ hc) (And.intro (by decide) (And.intro (fun q => absurd q (by decide)) ?_)))))
      exact ih _ _ h
set_option maxHeartbeats 4000000 in
set_option maxRecDepth 20000 in
theorem c6_goOn {E : EnvT} (F : Nat) (c1 : Nat) (i2 : Int32) (σ : Mem) {r : Mem} (h : m6_goOn F c1 i2 σ = some r) : MetAt E 4 44 [(.ref 45, 6), (.ref c1, 7), (.int i2, 0)] σ (some (.ref 46, 7)) r := by
  unfold m6_goOn at h
  refine MetAt_of (tb := tb_44) (by decide) tbok_44 (Nat.le_of_ble_eq_true rfl) (fun a q => by cases q; exact Or.inr (Or.inr (Or.inr ⟨by decide, by decide, by decide, by decide +kernel⟩))) (fun G hG => ?_)
  have hRP : (fun (a : Option AV) (τ : Mem) => a.map (conc E) = ((some (.ref 46, 7)) : Option AV).map (conc E) ∧ τ = r) (some (.ref 46, 7)) r := ⟨rfl, rfl⟩
  change G 0 [some (.ref 45, 6), some (.ref c1, 7), some (.int i2, 0), none] [] σ
  refine bk hG (cut := [10]) 400 ?_
  have ⟨_, hc, h⟩ := b_some h
  refine Exists.intro _ (Exists.intro _ (Exists.intro _ (And.intro (c7_copyFrom F _ _ _ hc) (And.intro (by decide) (And.intro (fun q => absurd q (by decide)) ?_)))))
  exact w6_goOn_10 hG hRP F F _ _ h
set_option maxHeartbeats 4000000 in
set_option maxRecDepth 20000 in
theorem w6_readyAt_46 {E : EnvT} {G : GT} {RP : Option AV → Mem → Prop} {c1 : Nat} {i2 : Int32} (hG : Cl E 45 4 tb_45 G RP) {r : Int32 × Mem} (hRP : RP (some (.int r.1, 0)) r.2) (F : Nat) : ∀ (d3 : Option AV) (σ : Mem), m6_readyAt_46 F c1 i2 σ = some r → G 46 [some (.ref 45, 6), some (.ref c1, 7), some (.int i2, 0), d3] [] σ := by
  intro d3 σ h
  refine bk hG (cut := [10, 46]) 400 ?_
  unfold m6_readyAt_46 at h
  have ⟨hg, h⟩ := g_gd h
  refine And.intro (inB_of hg) ?_
  refine And.intro (fun hq => ?_) (fun hq => ?_)
  · have h := i_pos hq h
    have ⟨hg, h⟩ := g_gd h
    refine And.intro (inB_of hg) ?_
    have e := Option.some.inj h
    subst e
    exact hRP
  · have h := i_neg hq h
    have e := Option.some.inj h
    subst e
    exact hRP
set_option maxHeartbeats 4000000 in
set_option maxRecDepth 20000 in
theorem w6_readyAt_10 {E : EnvT} {G : GT} {RP : Option AV → Mem → Prop} {c1 : Nat} {i2 : Int32} (hG : Cl E 45 4 tb_45 G RP) {r : Int32 × Mem} (hRP : RP (some (.int r.1, 0)) r.2) (F : Nat) : ∀ (n : Nat) (x3 : Int32) (σ : Mem), m6_readyAt_10 F c1 i2 n x3 σ = some r → G 10 [some (.ref 45, 6), some (.ref c1, 7), some (.int i2, 0), some (.int x3, 0)] [] σ := by
  intro n
  induction n with
  | zero => intro x3 σ h; unfold m6_readyAt_10 at h; cases h
  | succ n ih =>
    intro x3 σ h
    refine bk hG (cut := [10, 46]) 400 ?_
    unfold m6_readyAt_10 at h
    refine And.intro (fun hq => ?_) (fun hq => ?_)
    · have h := i_pos hq h
      exact w6_readyAt_46 hG hRP F _ _ h
    · have h := i_neg hq h
      have ⟨hg, h⟩ := g_gd h
      refine And.intro (inB_of hg) ?_
      refine And.intro (fun hq => ?_) (fun hq => ?_)
      · have h := i_pos hq h
        exact w6_readyAt_46 hG hRP F _ _ h
      · have h := i_neg hq h
        have ⟨_, hc, h⟩ := b_some h
        refine Exists.intro _ (Exists.intro _ (Exists.intro _ (And.intro (c2_go F _ _ hc) (And.intro (by decide) (And.intro (fun q => absurd q (by decide)) ?_)))))
        exact ih _ _ h
set_option maxHeartbeats 4000000 in
set_option maxRecDepth 20000 in
theorem c6_readyAt {E : EnvT} (F : Nat) (c1 : Nat) (i2 : Int32) (σ : Mem) {r : Int32 × Mem} (h : m6_readyAt F c1 i2 σ = some r) : MetAt E 4 45 [(.ref 45, 6), (.ref c1, 7), (.int i2, 0)] σ (some (.int r.1, 0)) r.2 := by
  unfold m6_readyAt at h
  refine MetAt_of (tb := tb_45) (by decide) tbok_45 (Nat.le_of_ble_eq_true rfl) (fun a q => by cases q; trivial) (fun G hG => ?_)
  have hRP : (fun (a : Option AV) (τ : Mem) => a.map (conc E) = ((some (.int r.1, 0)) : Option AV).map (conc E) ∧ τ = r.2) (some (.int r.1, 0)) r.2 := ⟨rfl, rfl⟩
  change G 0 [some (.ref 45, 6), some (.ref c1, 7), some (.int i2, 0), none] [] σ
  refine bk hG (cut := [10, 46]) 400 ?_
  have ⟨_, hc, h⟩ := b_some h
  refine Exists.intro _ (Exists.intro _ (Exists.intro _ (And.intro (c7_copyFrom F _ _ _ hc) (And.intro (by decide) (And.intro (fun q => absurd q (by decide)) ?_)))))
  exact w6_readyAt_10 hG hRP F F _ _ h
set_option maxHeartbeats 4000000 in
set_option maxRecDepth 20000 in
theorem w7_allDone_2 {E : EnvT} {G : GT} {RP : Option AV → Mem → Prop} {c0 : Nat} {c1 : Nat} {σ : Mem} (hG : Cl E 57 0 tb_57 G RP) {r : Int32} (hRP : RP (some (.int r, 0)) σ) (F : Nat) : ∀ (n : Nat) (x2 : Int32), m7_allDone_2 F c0 c1 σ n x2 = some r → G 2 [some (.ref c0, 7), some (.ref c1, 4), some (.int x2, 0)] [] σ := by
  intro n
  induction n with
  | zero => intro x2 h; unfold m7_allDone_2 at h; cases h
  | succ n ih =>
    intro x2 h
    refine bk hG (cut := [2]) 400 ?_
    unfold m7_allDone_2 at h
    refine And.intro (fun hq => ?_) (fun hq => ?_)
    · have h := i_pos hq h
      have e := Option.some.inj h
      subst e
      exact And.intro (Or.inr rfl) hRP
    · have h := i_neg hq h
      have ⟨hg, h⟩ := g_gd h
      refine And.intro (inB_of hg) ?_
      refine And.intro (fun hq => ?_) (fun hq => ?_)
      · have h := i_pos hq h
        exact ih _ h
      · have h := i_neg hq h
        have e := Option.some.inj h
        subst e
        exact And.intro (Or.inl rfl) hRP
set_option maxHeartbeats 4000000 in
set_option maxRecDepth 20000 in
theorem c7_allDone {E : EnvT} (F : Nat) (c0 : Nat) (c1 : Nat) (σ : Mem) {r : Int32} (h : m7_allDone F c0 c1 σ = some r) : MetAt E 0 57 [(.ref c0, 7), (.ref c1, 4)] σ (some (.int r, 0)) σ := by
  unfold m7_allDone at h
  refine MetAt_of (tb := tb_57) (by decide) tbok_57 (Nat.le_of_ble_eq_true rfl) (fun a q => by cases q; trivial) (fun G hG => ?_)
  have hRP : (fun (a : Option AV) (τ : Mem) => a.map (conc E) = ((some (.int r, 0)) : Option AV).map (conc E) ∧ τ = σ) (some (.int r, 0)) σ := ⟨rfl, rfl⟩
  change G 0 [some (.ref c0, 7), some (.ref c1, 4), none] [] σ
  refine bk hG (cut := [2]) 400 ?_
  exact w7_allDone_2 hG hRP F F _ h
set_option maxHeartbeats 4000000 in
set_option maxRecDepth 20000 in
theorem w6_untilAll_10 {E : EnvT} {G : GT} {RP : Option AV → Mem → Prop} {c1 : Nat} (hG : Cl E 46 4 tb_46 G RP) {r : Int32 × Mem} (hRP : RP (some (.int r.1, 0)) r.2) (F : Nat) : ∀ (n : Nat) (x2 : Int32) (σ : Mem), m6_untilAll_10 F c1 n x2 σ = some r → G 10 [some (.ref 45, 6), some (.ref c1, 7), some (.int x2, 0)] [] σ := by
  intro n
  induction n with
  | zero => intro x2 σ h; unfold m6_untilAll_10 at h; cases h
  | succ n ih =>
    intro x2 σ h
    refine bk hG (cut := [10]) 400 ?_
    unfold m6_untilAll_10 at h
    refine And.intro (fun hq => ?_) (fun hq => ?_)
    · have h := i_pos hq h
      have e := Option.some.inj h
      subst e
      exact hRP
    · have h := i_neg hq h
      have ⟨_, hc, h⟩ := b_some h
      refine Exists.intro _ (Exists.intro _ (Exists.intro _ (And.intro (c7_allDone F _ _ _ hc) (And.intro (by decide) (And.intro (fun q => absurd q (by decide)) ?_)))))
      refine And.intro (fun hq => ?_) (fun hq => ?_)
      · have h := i_pos hq h
        have ⟨_, hc, h⟩ := b_some h
        refine Exists.intro _ (Exists.intro _ (Exists.intro _ (And.intro (c2_go F _ _ hc) (And.intro (by decide) (And.intro (fun q => absurd q (by decide)) ?_)))))
        exact ih _ _ h
      · have h := i_neg hq h
        have e := Option.some.inj h
        subst e
        exact hRP
set_option maxHeartbeats 4000000 in
set_option maxRecDepth 20000 in
theorem c6_untilAll {E : EnvT} (F : Nat) (c1 : Nat) (σ : Mem) {r : Int32 × Mem} (h : m6_untilAll F c1 σ = some r) : MetAt E 4 46 [(.ref 45, 6), (.ref c1, 7)] σ (some (.int r.1, 0)) r.2 := by
  unfold m6_untilAll at h
  refine MetAt_of (tb := tb_46) (by decide) tbok_46 (Nat.le_of_ble_eq_true rfl) (fun a q => by cases q; trivial) (fun G hG => ?_)
  have hRP : (fun (a : Option AV) (τ : Mem) => a.map (conc E) = ((some (.int r.1, 0)) : Option AV).map (conc E) ∧ τ = r.2) (some (.int r.1, 0)) r.2 := ⟨rfl, rfl⟩
  change G 0 [some (.ref 45, 6), some (.ref c1, 7), none] [] σ
  refine bk hG (cut := [10]) 400 ?_
  have ⟨_, hc, h⟩ := b_some h
  refine Exists.intro _ (Exists.intro _ (Exists.intro _ (And.intro (c7_copyFrom F _ _ _ hc) (And.intro (by decide) (And.intro (fun q => absurd q (by decide)) ?_)))))
  exact w6_untilAll_10 hG hRP F F _ _ h
set_option maxHeartbeats 4000000 in
set_option maxRecDepth 20000 in
theorem cJ_bitCount {E : EnvT} (F : Nat) (i0 : Int32) (σ : Mem) {r : Int32} (h : mJ_bitCount F i0 σ = some r) : MetAt E 0 229 [(.int i0, 0)] σ (some (.int r, 0)) σ := by
  unfold mJ_bitCount at h
  refine MetAt_of (tb := tb_229) (by decide) tbok_229 (Nat.le_of_ble_eq_true rfl) (fun a q => by cases q; trivial) (fun G hG => ?_)
  have hRP : (fun (a : Option AV) (τ : Mem) => a.map (conc E) = ((some (.int r, 0)) : Option AV).map (conc E) ∧ τ = σ) (some (.int r, 0)) σ := ⟨rfl, rfl⟩
  change G 0 [some (.int i0, 0)] [] σ
  refine bk hG (cut := []) 400 ?_
  have e := Option.some.inj h
  subst e
  exact hRP
set_option maxHeartbeats 4000000 in
set_option maxRecDepth 20000 in
theorem w6_blowsOfOthers_14 {E : EnvT} {G : GT} {RP : Option AV → Mem → Prop} {c1 : Nat} {i2 : Int32} {i3 : Int32} (hG : Cl E 47 4 tb_47 G RP) {r : Int32 × Mem} (hRP : RP (some (.int r.1, 0)) r.2) (F : Nat) : ∀ (n : Nat) (x4 : Int32) (x5 : Int32) (σ : Mem), m6_blowsOfOthers_14 F c1 i2 i3 n x4 x5 σ = some r → G 14 [some (.ref 45, 6), some (.ref c1, 7), some (.int i2, 0), some (.int i3, 0), some (.int x4, 0), some (.int x5, 0)] [] σ := by
  intro n
  induction n with
  | zero => intro x4 x5 σ h; unfold m6_blowsOfOthers_14 at h; cases h
  | succ n ih =>
    intro x4 x5 σ h
    refine bk hG (cut := [14]) 400 ?_
    unfold m6_blowsOfOthers_14 at h
    refine And.intro (fun hq => ?_) (fun hq => ?_)
    · have h := i_pos hq h
      have e := Option.some.inj h
      subst e
      exact hRP
    · have h := i_neg hq h
      have ⟨_, hc, h⟩ := b_some h
      refine Exists.intro _ (Exists.intro _ (Exists.intro _ (And.intro (c2_go F _ _ hc) (And.intro (by decide) (And.intro (fun q => absurd q (by decide)) ?_)))))
      have ⟨_, hc, h⟩ := b_some h
      refine Exists.intro _ (Exists.intro _ (Exists.intro _ (And.intro (cJ_bitCount F _ _ hc) (And.intro (by decide) ?_))))
      exact ih _ _ _ h
set_option maxHeartbeats 4000000 in
set_option maxRecDepth 20000 in
theorem c6_blowsOfOthers {E : EnvT} (F : Nat) (c1 : Nat) (i2 : Int32) (i3 : Int32) (σ : Mem) {r : Int32 × Mem} (h : m6_blowsOfOthers F c1 i2 i3 σ = some r) : MetAt E 4 47 [(.ref 45, 6), (.ref c1, 7), (.int i2, 0), (.int i3, 0)] σ (some (.int r.1, 0)) r.2 := by
  unfold m6_blowsOfOthers at h
  refine MetAt_of (tb := tb_47) (by decide) tbok_47 (Nat.le_of_ble_eq_true rfl) (fun a q => by cases q; trivial) (fun G hG => ?_)
  have hRP : (fun (a : Option AV) (τ : Mem) => a.map (conc E) = ((some (.int r.1, 0)) : Option AV).map (conc E) ∧ τ = r.2) (some (.int r.1, 0)) r.2 := ⟨rfl, rfl⟩
  change G 0 [some (.ref 45, 6), some (.ref c1, 7), some (.int i2, 0), some (.int i3, 0), none, none] [] σ
  refine bk hG (cut := [14]) 400 ?_
  have ⟨_, hc, h⟩ := b_some h
  refine Exists.intro _ (Exists.intro _ (Exists.intro _ (And.intro (c7_copyFrom F _ _ _ hc) (And.intro (by decide) (And.intro (fun q => absurd q (by decide)) ?_)))))
  exact w6_blowsOfOthers_14 hG hRP F F _ _ _ h
set_option maxHeartbeats 4000000 in
set_option maxRecDepth 20000 in
theorem w6_splitting_11 {E : EnvT} {G : GT} {RP : Option AV → Mem → Prop} {c1 : Nat} {i2 : Int32} {i3 : Int32} (hG : Cl E 48 4 tb_48 G RP) {r : Int32 × Mem} (hRP : RP (some (.int r.1, 0)) r.2) (F : Nat) : ∀ (n : Nat) (x4 : Int32) (d5 : Option AV) (σ : Mem), m6_splitting_11 F c1 i2 i3 n x4 σ = some r → G 11 [some (.ref 45, 6), some (.ref c1, 7), some (.int i2, 0), some (.int i3, 0), some (.int x4, 0), d5] [] σ := by
  intro n
  induction n with
  | zero => intro x4 d5 σ h; unfold m6_splitting_11 at h; cases h
  | succ n ih =>
    intro x4 d5 σ h
    refine bk hG (cut := [11]) 400 ?_
    unfold m6_splitting_11 at h
    refine And.intro (fun hq => ?_) (fun hq => ?_)
    · have h := i_pos hq h
      have e := Option.some.inj h
      subst e
      exact hRP
    · have h := i_neg hq h
      have ⟨_, hc, h⟩ := b_some h
      refine Exists.intro _ (Exists.intro _ (Exists.intro _ (And.intro (c2_go F _ _ hc) (And.intro (by decide) (And.intro (fun q => absurd q (by decide)) ?_)))))
      have ⟨hg, h⟩ := g_gd h
      refine And.intro (inB_of hg) ?_
      refine And.intro (fun hq => ?_) (fun hq => ?_)
      · have h := i_pos hq h
        exact ih _ _ _ h
      · have h := i_neg hq h
        refine And.intro (fun hq => ?_) (fun hq => ?_)
        · have h := i_pos hq h
          have e := Option.some.inj h
          subst e
          exact hRP
        · have h := i_neg hq h
          have ⟨hg, h⟩ := g_gd h
          refine And.intro (inB_of hg) ?_
          have e := Option.some.inj h
          subst e
          exact hRP
set_option maxHeartbeats 4000000 in
set_option maxRecDepth 20000 in
theorem c6_splitting {E : EnvT} (F : Nat) (c1 : Nat) (i2 : Int32) (i3 : Int32) (σ : Mem) {r : Int32 × Mem} (h : m6_splitting F c1 i2 i3 σ = some r) : MetAt E 4 48 [(.ref 45, 6), (.ref c1, 7), (.int i2, 0), (.int i3, 0)] σ (some (.int r.1, 0)) r.2 := by
  unfold m6_splitting at h
  refine MetAt_of (tb := tb_48) (by decide) tbok_48 (Nat.le_of_ble_eq_true rfl) (fun a q => by cases q; trivial) (fun G hG => ?_)
  have hRP : (fun (a : Option AV) (τ : Mem) => a.map (conc E) = ((some (.int r.1, 0)) : Option AV).map (conc E) ∧ τ = r.2) (some (.int r.1, 0)) r.2 := ⟨rfl, rfl⟩
  change G 0 [some (.ref 45, 6), some (.ref c1, 7), some (.int i2, 0), some (.int i3, 0), none, none] [] σ
  refine bk hG (cut := [11]) 400 ?_
  have ⟨_, hc, h⟩ := b_some h
  refine Exists.intro _ (Exists.intro _ (Exists.intro _ (And.intro (c7_copyFrom F _ _ _ hc) (And.intro (by decide) (And.intro (fun q => absurd q (by decide)) ?_)))))
  exact w6_splitting_11 hG hRP F F _ _ _ h
set_option maxHeartbeats 4000000 in
set_option maxRecDepth 20000 in
theorem w6_live_88 {E : EnvT} {G : GT} {RP : Option AV → Mem → Prop} {c1 : Nat} {i2 : Int32} {i3 : Int32} {i4 : Int32} (hG : Cl E 49 4 tb_49 G RP) {r : Mem} (hRP : RP none r) (F : Nat) {k40 : Int64 → Int32 → Int32 → Mem → Option (Mem)} (hk40 : ∀ (x5 : Int64) (x7 : Int32) (x8 : Int32) (d6 : Option AV) (σ : Mem), k40 x5 x7 x8 σ = some r → G 40 [some (.ref 45, 6), some (.ref c1, 10), some (.int i2, 0), some (.int i3, 0), some (.int i4, 0), some (.long x5, 0), d6, some (.int x7, 0), some (.int x8, 0)] [] σ) : ∀ (x5 : Int64) (x7 : Int32) (x8 : Int32) (s1 : Int32) (d6 : Option AV) (σ : Mem), m6_live_88 F c1 i2 i3 i4 k40 x5 x7 x8 s1 σ = some r → G 88 [some (.ref 45, 6), some (.ref c1, 10), some (.int i2, 0), some (.int i3, 0), some (.int i4, 0), some (.long x5, 0), d6, some (.int x7, 0), some (.int x8, 0)] [(.int s1, 0), (.ref 40, 2)] σ := by
  intro x5 x7 x8 s1 d6 σ h
  refine bk hG (cut := [20, 40, 88]) 400 ?_
  unfold m6_live_88 at h
  have ⟨hg, h⟩ := g_gd h
  refine And.intro hg ?_
  have ⟨_, hc, h⟩ := b_some h
  refine Exists.intro _ (Exists.intro _ (Exists.intro _ (And.intro (c2_go F _ _ hc) (And.intro (by decide) (And.intro (fun q => absurd q (by decide)) ?_)))))
  exact hk40 _ _ _ _ _ h
set_option maxHeartbeats 4000000 in
set_option maxRecDepth 20000 in
theorem w6_live_40 {E : EnvT} {G : GT} {RP : Option AV → Mem → Prop} {c1 : Nat} {i2 : Int32} {i3 : Int32} {i4 : Int32} (hG : Cl E 49 4 tb_49 G RP) {r : Mem} (hRP : RP none r) (F : Nat) {k20 : Int64 → Int32 → Mem → Option (Mem)} (hk20 : ∀ (x5 : Int64) (x7 : Int32) (d6 : Option AV) (d8 : Option AV) (σ : Mem), k20 x5 x7 σ = some r → G 20 [some (.ref 45, 6), some (.ref c1, 10), some (.int i2, 0), some (.int i3, 0), some (.int i4, 0), some (.long x5, 0), d6, some (.int x7, 0), d8] [] σ) : ∀ (n : Nat) (x5 : Int64) (x7 : Int32) (x8 : Int32) (d6 : Option AV) (σ : Mem), m6_live_40 F c1 i2 i3 i4 k20 n x5 x7 x8 σ = some r → G 40 [some (.ref 45, 6), some (.ref c1, 10), some (.int i2, 0), some (.int i3, 0), some (.int i4, 0), some (.long x5, 0), d6, some (.int x7, 0), some (.int x8, 0)] [] σ := by
  intro n
  induction n with
  | zero => intro x5 x7 x8 d6 σ h; unfold m6_live_40 at h; cases h
  | succ n ih =>
    intro x5 x7 x8 d6 σ h
    refine bk hG (cut := [20, 40, 88]) 400 ?_
    unfold m6_live_40 at h
    refine And.intro (fun hq => ?_) (fun hq => ?_)
    · have h := i_pos hq h
      exact hk20 _ _ _ _ _ h
    · have h := i_neg hq h
      refine And.intro (by decide) ?_
      refine And.intro (by decide) ?_
      refine And.intro (by decide) ?_
      refine And.intro (fun hq => ?_) (fun hq => ?_)
      · have h := i_pos hq h
        exact w6_live_88 hG hRP F (fun _ _ _ _ _ h => ih _ _ _ _ _ h) _ _ _ _ _ _ h
      · have h := i_neg hq h
        exact w6_live_88 hG hRP F (fun _ _ _ _ _ h => ih _ _ _ _ _ h) _ _ _ _ _ _ h
set_option maxHeartbeats 4000000 in
set_option maxRecDepth 20000 in
theorem w6_live_20 {E : EnvT} {G : GT} {RP : Option AV → Mem → Prop} {c1 : Nat} {i2 : Int32} {i3 : Int32} {i4 : Int32} (hG : Cl E 49 4 tb_49 G RP) {r : Mem} (hRP : RP none r) (F : Nat) : ∀ (n : Nat) (x5 : Int64) (x7 : Int32) (d6 : Option AV) (d8 : Option AV) (σ : Mem), m6_live_20 F c1 i2 i3 i4 n x5 x7 σ = some r → G 20 [some (.ref 45, 6), some (.ref c1, 10), some (.int i2, 0), some (.int i3, 0), some (.int i4, 0), some (.long x5, 0), d6, some (.int x7, 0), d8] [] σ := by
  intro n
  induction n with
  | zero => intro x5 x7 d6 d8 σ h; unfold m6_live_20 at h; cases h
  | succ n ih =>
    intro x5 x7 d6 d8 σ h
    refine bk hG (cut := [20, 40, 88]) 400 ?_
    unfold m6_live_20 at h
    refine And.intro (fun hq => ?_) (fun hq => ?_)
    · have h := i_pos hq h
      have e := Option.some.inj h
      subst e
      exact hRP
    · have h := i_neg hq h
      have ⟨_, hc, h⟩ := b_some h
      refine Exists.intro _ (Exists.intro _ (Exists.intro _ (And.intro (c7_copyFrom F _ _ _ hc) (And.intro (by decide) (And.intro (fun q => absurd q (by decide)) ?_)))))
      exact w6_live_40 hG hRP F (fun _ _ _ _ _ h => ih _ _ _ _ _ h) F _ _ _ _ _ h
set_option maxHeartbeats 4000000 in
set_option maxRecDepth 20000 in
theorem c6_live {E : EnvT} (F : Nat) (c1 : Nat) (i2 : Int32) (i3 : Int32) (i4 : Int32) (σ : Mem) {r : Mem} (h : m6_live F c1 i2 i3 i4 σ = some r) : MetAt E 4 49 [(.ref 45, 6), (.ref c1, 10), (.int i2, 0), (.int i3, 0), (.int i4, 0)] σ none r := by
  unfold m6_live at h
  refine MetAt_of (tb := tb_49) (by decide) tbok_49 (Nat.le_of_ble_eq_true rfl) (fun a q => by cases q) (fun G hG => ?_)
  have hRP : (fun (a : Option AV) (τ : Mem) => a.map (conc E) = (none : Option AV).map (conc E) ∧ τ = r) none r := ⟨rfl, rfl⟩
  change G 0 [some (.ref 45, 6), some (.ref c1, 10), some (.int i2, 0), some (.int i3, 0), some (.int i4, 0), none, none, none, none] [] σ
  refine bk hG (cut := [20, 40, 88]) 400 ?_
  exact w6_live_20 hG hRP F F _ _ _ _ _ h
set_option maxHeartbeats 4000000 in
set_option maxRecDepth 20000 in
theorem w7_putLast_13 {E : EnvT} {G : GT} {RP : Option AV → Mem → Prop} {c0 : Nat} {c1 : Nat} {i2 : Int32} (hG : Cl E 55 2 tb_55 G RP) {r : Mem} (hRP : RP none r) (F : Nat) : ∀ (n : Nat) (x3 : Int32) (x4 : Int32) (x5 : Int32) (σ : Mem), m7_putLast_13 F c0 c1 i2 n x3 x4 x5 σ = some r → G 13 [some (.ref c0, 7), some (.ref c1, 4), some (.int i2, 0), some (.int x3, 0), some (.int x4, 0), some (.int x5, 0)] [] σ := by
  intro n
  induction n with
  | zero => intro x3 x4 x5 σ h; unfold m7_putLast_13 at h; cases h
  | succ n ih =>
    intro x3 x4 x5 σ h
    refine bk hG (cut := [13]) 400 ?_
    unfold m7_putLast_13 at h
    refine And.intro (fun hq => ?_) (fun hq => ?_)
    · have h := i_pos hq h
      refine And.intro (fun hq => ?_) (fun hq => ?_)
      · have h := i_pos hq h
        have e := Option.some.inj h
        subst e
        exact hRP
      · have h := i_neg hq h
        have ⟨hg, h⟩ := g_gd h
        refine And.intro (inB_of hg) ?_
        have e := Option.some.inj h
        subst e
        exact hRP
    · have h := i_neg hq h
      have ⟨hg, h⟩ := g_gd h
      refine And.intro (inB_of hg) ?_
      exact ih _ _ _ _ h
set_option maxHeartbeats 4000000 in
set_option maxRecDepth 20000 in
theorem c7_putLast {E : EnvT} (F : Nat) (c0 : Nat) (c1 : Nat) (i2 : Int32) (σ : Mem) {r : Mem} (h : m7_putLast F c0 c1 i2 σ = some r) : MetAt E 2 55 [(.ref c0, 7), (.ref c1, 4), (.int i2, 0)] σ none r := by
  unfold m7_putLast at h
  refine MetAt_of (tb := tb_55) (by decide) tbok_55 (Nat.le_of_ble_eq_true rfl) (fun a q => by cases q) (fun G hG => ?_)
  have hRP : (fun (a : Option AV) (τ : Mem) => a.map (conc E) = (none : Option AV).map (conc E) ∧ τ = r) none r := ⟨rfl, rfl⟩
  change G 0 [some (.ref c0, 7), some (.ref c1, 4), some (.int i2, 0), none, none, none] [] σ
  refine bk hG (cut := [13]) 400 ?_
  have ⟨_, hc, h⟩ := b_some h
  refine Exists.intro _ (Exists.intro _ (Exists.intro _ (And.intro (c7_jobOf F _ _ _ _ hc) (And.intro (by decide) (And.intro (fun q => absurd q (by decide)) ?_)))))
  exact w7_putLast_13 hG hRP F F _ _ _ _ h
set_option maxHeartbeats 4000000 in
set_option maxRecDepth 20000 in
theorem w7_doneBits_4 {E : EnvT} {G : GT} {RP : Option AV → Mem → Prop} {c0 : Nat} {c1 : Nat} {σ : Mem} (hG : Cl E 56 0 tb_56 G RP) {r : Int32} (hRP : RP (some (.int r, 0)) σ) (F : Nat) : ∀ (n : Nat) (x2 : Int32) (x3 : Int32), m7_doneBits_4 F c0 c1 σ n x2 x3 = some r → G 4 [some (.ref c0, 7), some (.ref c1, 4), some (.int x2, 0), some (.int x3, 0)] [] σ := by
  intro n
  induction n with
  | zero => intro x2 x3 h; unfold m7_doneBits_4 at h; cases h
  | succ n ih =>
    intro x2 x3 h
    refine bk hG (cut := [4]) 400 ?_
    unfold m7_doneBits_4 at h
    refine And.intro (fun hq => ?_) (fun hq => ?_)
    · have h := i_pos hq h
      have e := Option.some.inj h
      subst e
      exact hRP
    · have h := i_neg hq h
      have ⟨hg, h⟩ := g_gd h
      refine And.intro (inB_of hg) ?_
      refine And.intro (fun hq => ?_) (fun hq => ?_)
      · have h := i_pos hq h
        exact ih _ _ h
      · have h := i_neg hq h
        exact ih _ _ h
set_option maxHeartbeats 4000000 in
set_option maxRecDepth 20000 in
theorem c7_doneBits {E : EnvT} (F : Nat) (c0 : Nat) (c1 : Nat) (σ : Mem) {r : Int32} (h : m7_doneBits F c0 c1 σ = some r) : MetAt E 0 56 [(.ref c0, 7), (.ref c1, 4)] σ (some (.int r, 0)) σ := by
  unfold m7_doneBits at h
  refine MetAt_of (tb := tb_56) (by decide) tbok_56 (Nat.le_of_ble_eq_true rfl) (fun a q => by cases q; trivial) (fun G hG => ?_)
  have hRP : (fun (a : Option AV) (τ : Mem) => a.map (conc E) = ((some (.int r, 0)) : Option AV).map (conc E) ∧ τ = σ) (some (.int r, 0)) σ := ⟨rfl, rfl⟩
  change G 0 [some (.ref c0, 7), some (.ref c1, 4), none, none] [] σ
  refine bk hG (cut := [4]) 400 ?_
  exact w7_doneBits_4 hG hRP F F _ _ h
set_option maxHeartbeats 4000000 in
set_option maxRecDepth 20000 in
theorem w7_earnedBy_5 {E : EnvT} {G : GT} {RP : Option AV → Mem → Prop} {c0 : Nat} {c1 : Nat} {i2 : Int32} {σ : Mem} (hG : Cl E 58 0 tb_58 G RP) {r : Int32} (hRP : RP (some (.int r, 0)) σ) (F : Nat) : ∀ (n : Nat) (x3 : Int32) (x4 : Int32), m7_earnedBy_5 F c0 c1 i2 σ n x3 x4 = some r → G 5 [some (.ref c0, 7), some (.ref c1, 4), some (.int i2, 0), some (.int x3, 0), some (.int x4, 0)] [] σ := by
  intro n
  induction n with
  | zero => intro x3 x4 h; unfold m7_earnedBy_5 at h; cases h
  | succ n ih =>
    intro x3 x4 h
    refine bk hG (cut := [5]) 400 ?_
    unfold m7_earnedBy_5 at h
    refine And.intro (fun hq => ?_) (fun hq => ?_)
    · have h := i_pos hq h
      have e := Option.some.inj h
      subst e
      exact hRP
    · have h := i_neg hq h
      have ⟨hg, h⟩ := g_gd h
      refine And.intro (inB_of hg) ?_
      refine And.intro (fun hq => ?_) (fun hq => ?_)
      · have h := i_pos hq h
        have ⟨hg, h⟩ := g_gd h
        refine And.intro (inB_of hg) ?_
        refine And.intro (fun hq => ?_) (fun hq => ?_)
        · have h := i_pos hq h
          have ⟨hg, h⟩ := g_gd h
          refine And.intro (inB_of hg) ?_
          exact ih _ _ h
        · have h := i_neg hq h
          exact ih _ _ h
      · have h := i_neg hq h
        exact ih _ _ h
set_option maxHeartbeats 4000000 in
set_option maxRecDepth 20000 in
theorem c7_earnedBy {E : EnvT} (F : Nat) (c0 : Nat) (c1 : Nat) (i2 : Int32) (σ : Mem) {r : Int32} (h : m7_earnedBy F c0 c1 i2 σ = some r) : MetAt E 0 58 [(.ref c0, 7), (.ref c1, 4), (.int i2, 0)] σ (some (.int r, 0)) σ := by
  unfold m7_earnedBy at h
  refine MetAt_of (tb := tb_58) (by decide) tbok_58 (Nat.le_of_ble_eq_true rfl) (fun a q => by cases q; trivial) (fun G hG => ?_)
  have hRP : (fun (a : Option AV) (τ : Mem) => a.map (conc E) = ((some (.int r, 0)) : Option AV).map (conc E) ∧ τ = σ) (some (.int r, 0)) σ := ⟨rfl, rfl⟩
  change G 0 [some (.ref c0, 7), some (.ref c1, 4), some (.int i2, 0), none, none] [] σ
  refine bk hG (cut := [5]) 400 ?_
  exact w7_earnedBy_5 hG hRP F F _ _ h
set_option maxHeartbeats 4000000 in
set_option maxRecDepth 20000 in
theorem w8_add_3 {E : EnvT} {G : GT} {RP : Option AV → Mem → Prop} {i1 : Int32} (hG : Cl E 59 0 tb_59 G RP) {r : Mem} (hRP : RP none r) (F : Nat) : ∀ (n : Nat) (x2 : Int32) (σ : Mem), m8_add_3 F i1 n x2 σ = some r → G 3 [some (.ref 1, 8), some (.int i1, 0), some (.int x2, 0)] [] σ := by
  intro n
  induction n with
  | zero => intro x2 σ h; unfold m8_add_3 at h; cases h
  | succ n ih =>
    intro x2 σ h
    refine bk hG (cut := [3]) 400 ?_
    unfold m8_add_3 at h
    refine And.intro (fun hq => ?_) (fun hq => ?_)
    · have h := i_pos hq h
      have e := Option.some.inj h
      subst e
      exact hRP
    · have h := i_neg hq h
      refine And.intro (fun hq => ?_) (fun hq => ?_)
      · have h := i_pos hq h
        exact ih _ _ h
      · have h := i_neg hq h
        have ⟨hg, h⟩ := g_gd h
        refine And.intro (inB_of hg) ?_
        exact ih _ _ h
set_option maxHeartbeats 4000000 in
set_option maxRecDepth 20000 in
theorem c8_add {E : EnvT} (F : Nat) (i1 : Int32) (σ : Mem) {r : Mem} (h : m8_add F i1 σ = some r) : MetAt E 0 59 [(.ref 1, 8), (.int i1, 0)] σ none r := by
  unfold m8_add at h
  refine MetAt_of (tb := tb_59) (by decide) tbok_59 (Nat.le_of_ble_eq_true rfl) (fun a q => by cases q) (fun G hG => ?_)
  have hRP : (fun (a : Option AV) (τ : Mem) => a.map (conc E) = (none : Option AV).map (conc E) ∧ τ = r) none r := ⟨rfl, rfl⟩
  change G 0 [some (.ref 1, 8), some (.int i1, 0), none] [] σ
  refine bk hG (cut := [3]) 400 ?_
  exact w8_add_3 hG hRP F F _ _ h
set_option maxHeartbeats 4000000 in
set_option maxRecDepth 20000 in
theorem w9_fillStrikes_9 {E : EnvT} {G : GT} {RP : Option AV → Mem → Prop} {c1 : Nat} (hG : Cl E 68 3 tb_68 G RP) {r : Mem} (hRP : RP none r) (F : Nat) {k2 : Int32 → Mem → Option (Mem)} (hk2 : ∀ (x2 : Int32) (d3 : Option AV) (σ : Mem), k2 x2 σ = some r → G 2 [some (.ref 121, 9), some (.ref c1, 7), some (.int x2, 0), d3] [] σ) : ∀ (n : Nat) (x2 : Int32) (x3 : Int32) (σ : Mem), m9_fillStrikes_9 F c1 k2 n x2 x3 σ = some r → G 9 [some (.ref 121, 9), some (.ref c1, 7), some (.int x2, 0), some (.int x3, 0)] [] σ := by
  intro n
  induction n with
  | zero => intro x2 x3 σ h; unfold m9_fillStrikes_9 at h; cases h
  | succ n ih =>
    intro x2 x3 σ h
    refine bk hG (cut := [2, 9]) 400 ?_
    unfold m9_fillStrikes_9 at h
    refine And.intro (fun hq => ?_) (fun hq => ?_)
    · have h := i_pos hq h
      have ⟨hg, h⟩ := g_gd h
      refine And.intro (inB_of hg) ?_
      have ⟨hg, h⟩ := g_gd h
      refine And.intro (inB_of hg) ?_
      exact hk2 _ _ _ h
    · have h := i_neg hq h
      have ⟨hg, h⟩ := g_gd h
      refine And.intro (inB_of hg) ?_
      have ⟨hg, h⟩ := g_gd h
      refine And.intro (inB_of hg) ?_
      refine And.intro (fun hq => ?_) (fun hq => ?_)
      · have h := i_pos hq h
        have ⟨hg, h⟩ := g_gd h
        refine And.intro (inB_of hg) ?_
        exact ih _ _ _ h
      · have h := i_neg hq h
        have ⟨_, hc, h⟩ := b_some h
        refine Exists.intro _ (Exists.intro _ (Exists.intro _ (And.intro (c2_willsToStrike F _ _ _ hc) (And.intro (by decide) (And.intro (fun q => absurd q (by decide)) ?_)))))
        refine And.intro (fun hq => ?_) (fun hq => ?_)
        · have h := i_pos hq h
          have ⟨hg, h⟩ := g_gd h
          refine And.intro (inB_of hg) ?_
          exact ih _ _ _ h
        · have h := i_neg hq h
          have ⟨hg, h⟩ := g_gd h
          refine And.intro (inB_of hg) ?_
          exact ih _ _ _ h
set_option maxHeartbeats 4000000 in
set_option maxRecDepth 20000 in
theorem w9_fillStrikes_2 {E : EnvT} {G : GT} {RP : Option AV → Mem → Prop} {c1 : Nat} (hG : Cl E 68 3 tb_68 G RP) {r : Mem} (hRP : RP none r) (F : Nat) : ∀ (n : Nat) (x2 : Int32) (d3 : Option AV) (σ : Mem), m9_fillStrikes_2 F c1 n x2 σ = some r → G 2 [some (.ref 121, 9), some (.ref c1, 7), some (.int x2, 0), d3] [] σ := by
  intro n
  induction n with
  | zero => intro x2 d3 σ h; unfold m9_fillStrikes_2 at h; cases h
  | succ n ih =>
    intro x2 d3 σ h
    refine bk hG (cut := [2, 9]) 400 ?_
    unfold m9_fillStrikes_2 at h
    refine And.intro (fun hq => ?_) (fun hq => ?_)
    · have h := i_pos hq h
      have e := Option.some.inj h
      subst e
      exact hRP
    · have h := i_neg hq h
      exact w9_fillStrikes_9 hG hRP F (fun _ _ _ h => ih _ _ _ h) F _ _ _ h
set_option maxHeartbeats 4000000 in
set_option maxRecDepth 20000 in
theorem c9_fillStrikes {E : EnvT} (F : Nat) (c1 : Nat) (σ : Mem) {r : Mem} (h : m9_fillStrikes F c1 σ = some r) : MetAt E 3 68 [(.ref 121, 9), (.ref c1, 7)] σ none r := by
  unfold m9_fillStrikes at h
  refine MetAt_of (tb := tb_68) (by decide) tbok_68 (Nat.le_of_ble_eq_true rfl) (fun a q => by cases q) (fun G hG => ?_)
  have hRP : (fun (a : Option AV) (τ : Mem) => a.map (conc E) = (none : Option AV).map (conc E) ∧ τ = r) none r := ⟨rfl, rfl⟩
  change G 0 [some (.ref 121, 9), some (.ref c1, 7), none, none] [] σ
  refine bk hG (cut := [2, 9]) 400 ?_
  exact w9_fillStrikes_2 hG hRP F F _ _ _ h
set_option maxHeartbeats 4000000 in
set_option maxRecDepth 20000 in
theorem w9_setMark_2 {E : EnvT} {G : GT} {RP : Option AV → Mem → Prop} (hG : Cl E 70 0 tb_70 G RP) {r : Mem} (hRP : RP none r) (F : Nat) : ∀ (n : Nat) (x1 : Int32) (σ : Mem), m9_setMark_2 F n x1 σ = some r → G 2 [some (.ref 121, 9), some (.int x1, 0)] [] σ := by
  intro n
  induction n with
  | zero => intro x1 σ h; unfold m9_setMark_2 at h; cases h
  | succ n ih =>
    intro x1 σ h
    refine bk hG (cut := [2]) 400 ?_
    unfold m9_setMark_2 at h
    refine And.intro (fun hq => ?_) (fun hq => ?_)
    · have h := i_pos hq h
      have e := Option.some.inj h
      subst e
      exact hRP
    · have h := i_neg hq h
      have ⟨hg, h⟩ := g_gd h
      refine And.intro (inB_of hg) ?_
      have ⟨hg, h⟩ := g_gd h
      refine And.intro (inB_of hg) ?_
      have ⟨hg, h⟩ := g_gd h
      refine And.intro (inB_of hg) ?_
      exact ih _ _ h
set_option maxHeartbeats 4000000 in
set_option maxRecDepth 20000 in
theorem c9_setMark {E : EnvT} (F : Nat)  (σ : Mem) {r : Mem} (h : m9_setMark F σ = some r) : MetAt E 0 70 [(.ref 121, 9)] σ none r := by
  unfold m9_setMark at h
  refine MetAt_of (tb := tb_70) (by decide) tbok_70 (Nat.le_of_ble_eq_true rfl) (fun a q => by cases q) (fun G hG => ?_)
  have hRP : (fun (a : Option AV) (τ : Mem) => a.map (conc E) = (none : Option AV).map (conc E) ∧ τ = r) none r := ⟨rfl, rfl⟩
  change G 0 [some (.ref 121, 9), none] [] σ
  refine bk hG (cut := [2]) 400 ?_
  exact w9_setMark_2 hG hRP F F _ _ h
set_option maxHeartbeats 4000000 in
set_option maxRecDepth 20000 in
theorem w9_spinOnce_65 {E : EnvT} {G : GT} {RP : Option AV → Mem → Prop} (hG : Cl E 69 3 tb_69 G RP) {r : Mem} (hRP : RP none r) (F : Nat) : ∀ (n : Nat) (x1 : Int32) (d2 : Option AV) (σ : Mem), m9_spinOnce_65 F n x1 σ = some r → G 65 [some (.ref 121, 9), some (.int x1, 0), d2] [] σ := by
  intro n
  induction n with
  | zero => intro x1 d2 σ h; unfold m9_spinOnce_65 at h; cases h
  | succ n ih =>
    intro x1 d2 σ h
    refine bk hG (cut := [2, 65]) 400 ?_
    unfold m9_spinOnce_65 at h
    refine And.intro (fun hq => ?_) (fun hq => ?_)
    · have h := i_pos hq h
      have e := Option.some.inj h
      subst e
      exact hRP
    · have h := i_neg hq h
      have ⟨hg, h⟩ := g_gd h
      refine And.intro (inB_of hg) ?_
      have ⟨hg, h⟩ := g_gd h
      refine And.intro (inB_of hg) ?_
      exact ih _ _ _ h
set_option maxHeartbeats 4000000 in
set_option maxRecDepth 20000 in
theorem w9_spinOnce_2 {E : EnvT} {G : GT} {RP : Option AV → Mem → Prop} (hG : Cl E 69 3 tb_69 G RP) {r : Mem} (hRP : RP none r) (F : Nat) : ∀ (n : Nat) (x1 : Int32) (d2 : Option AV) (σ : Mem), m9_spinOnce_2 F n x1 σ = some r → G 2 [some (.ref 121, 9), some (.int x1, 0), d2] [] σ := by
  intro n
  induction n with
  | zero => intro x1 d2 σ h; unfold m9_spinOnce_2 at h; cases h
  | succ n ih =>
    intro x1 d2 σ h
    refine bk hG (cut := [2, 65]) 400 ?_
    unfold m9_spinOnce_2 at h
    refine And.intro (fun hq => ?_) (fun hq => ?_)
    · have h := i_pos hq h
      have ⟨_, hc, h⟩ := b_some h
      refine Exists.intro _ (Exists.intro _ (Exists.intro _ (And.intro (c2_work F _ _ hc) (And.intro (by decide) (And.intro (fun q => absurd q (by decide)) ?_)))))
      exact w9_spinOnce_65 hG hRP F F _ _ _ h
    · have h := i_neg hq h
      have ⟨hg, h⟩ := g_gd h
      refine And.intro (inB_of hg) ?_
      have ⟨hg, h⟩ := g_gd h
      refine And.intro (inB_of hg) ?_
      have ⟨hg, h⟩ := g_gd h
      refine And.intro (inB_of hg) ?_
      exact ih _ _ _ h
set_option maxHeartbeats 4000000 in
set_option maxRecDepth 20000 in
theorem c9_spinOnce {E : EnvT} (F : Nat)  (σ : Mem) {r : Mem} (h : m9_spinOnce F σ = some r) : MetAt E 3 69 [(.ref 121, 9)] σ none r := by
  unfold m9_spinOnce at h
  refine MetAt_of (tb := tb_69) (by decide) tbok_69 (Nat.le_of_ble_eq_true rfl) (fun a q => by cases q) (fun G hG => ?_)
  have hRP : (fun (a : Option AV) (τ : Mem) => a.map (conc E) = (none : Option AV).map (conc E) ∧ τ = r) none r := ⟨rfl, rfl⟩
  change G 0 [some (.ref 121, 9), none, none] [] σ
  refine bk hG (cut := [2, 65]) 400 ?_
  exact w9_spinOnce_2 hG hRP F F _ _ _ h
set_option maxHeartbeats 4000000 in
set_option maxRecDepth 20000 in
theorem w9_isAtMark_2 {E : EnvT} {G : GT} {RP : Option AV → Mem → Prop} {σ : Mem} (hG : Cl E 71 0 tb_71 G RP) {r : Int32} (hRP : RP (some (.int r, 0)) σ) (F : Nat) : ∀ (n : Nat) (x1 : Int32), m9_isAtMark_2 F σ n x1 = some r → G 2 [some (.ref 121, 9), some (.int x1, 0)] [] σ := by
  intro n
  induction n with
  | zero => intro x1 h; unfold m9_isAtMark_2 at h; cases h
  | succ n ih =>
    intro x1 h
    refine bk hG (cut := [2]) 400 ?_
    unfold m9_isAtMark_2 at h
    refine And.intro (fun hq => ?_) (fun hq => ?_)
    · have h := i_pos hq h
      have e := Option.some.inj h
      subst e
      exact And.intro (Or.inr rfl) hRP
    · have h := i_neg hq h
      have ⟨hg, h⟩ := g_gd h
      refine And.intro (inB_of hg) ?_
      have ⟨hg, h⟩ := g_gd h
      refine And.intro (inB_of hg) ?_
      refine And.intro (fun hq => ?_) (fun hq => ?_)
      · have h := i_pos hq h
        exact ih _ h
      · have h := i_neg hq h
        have e := Option.some.inj h
        subst e
        exact And.intro (Or.inl rfl) hRP
set_option maxHeartbeats 4000000 in
set_option maxRecDepth 20000 in
theorem c9_isAtMark {E : EnvT} (F : Nat)  (σ : Mem) {r : Int32} (h : m9_isAtMark F σ = some r) : MetAt E 0 71 [(.ref 121, 9)] σ (some (.int r, 0)) σ := by
  unfold m9_isAtMark at h
  refine MetAt_of (tb := tb_71) (by decide) tbok_71 (Nat.le_of_ble_eq_true rfl) (fun a q => by cases q; trivial) (fun G hG => ?_)
  have hRP : (fun (a : Option AV) (τ : Mem) => a.map (conc E) = ((some (.int r, 0)) : Option AV).map (conc E) ∧ τ = σ) (some (.int r, 0)) σ := ⟨rfl, rfl⟩
  change G 0 [some (.ref 121, 9), none] [] σ
  refine bk hG (cut := [2]) 400 ?_
  exact w9_isAtMark_2 hG hRP F F _ h
set_option maxHeartbeats 4000000 in
set_option maxRecDepth 20000 in
theorem w9_turn_92 {E : EnvT} {G : GT} {RP : Option AV → Mem → Prop} {c1 : Nat} {i2 : Int32} (hG : Cl E 67 4 tb_67 G RP) {r : Int32 × Mem} (hRP : RP (some (.int r.1, 0)) r.2) (F : Nat) : ∀ (x3 : Int32) (d4 : Option AV) (d5 : Option AV) (σ : Mem), m9_turn_92 F c1 i2 x3 σ = some r → G 92 [some (.ref 121, 9), some (.ref c1, 7), some (.int i2, 0), some (.int x3, 0), d4, d5] [] σ := by
  intro x3 d4 d5 σ h
  refine bk hG (cut := [44, 92]) 400 ?_
  unfold m9_turn_92 at h
  refine And.intro (fun hq => ?_) (fun hq => ?_)
  · have h := i_pos hq h
    have e := Option.some.inj h
    subst e
    exact hRP
  · have h := i_neg hq h
    refine And.intro (fun hq => ?_) (fun hq => ?_)
    · have h := i_pos hq h
      have e := Option.some.inj h
      subst e
      exact hRP
    · have h := i_neg hq h
      have ⟨hg, h⟩ := g_gd h
      refine And.intro (inB_of hg) ?_
      have e := Option.some.inj h
      subst e
      exact hRP
set_option maxHeartbeats 4000000 in
set_option maxRecDepth 20000 in
theorem w9_turn_44 {E : EnvT} {G : GT} {RP : Option AV → Mem → Prop} {c1 : Nat} {i2 : Int32} (hG : Cl E 67 4 tb_67 G RP) {r : Int32 × Mem} (hRP : RP (some (.int r.1, 0)) r.2) (F : Nat) : ∀ (n : Nat) (x3 : Int32) (x4 : Int32) (x5 : Int32) (σ : Mem), m9_turn_44 F c1 i2 n x3 x4 x5 σ = some r → G 44 [some (.ref 121, 9), some (.ref c1, 7), some (.int i2, 0), some (.int x3, 0), some (.int x4, 0), some (.int x5, 0)] [] σ := by
  intro n
  induction n with
  | zero => intro x3 x4 x5 σ h; unfold m9_turn_44 at h; cases h
  | succ n ih =>
    intro x3 x4 x5 σ h
    refine bk hG (cut := [44, 92]) 400 ?_
    unfold m9_turn_44 at h
    refine And.intro (fun hq => ?_) (fun hq => ?_)
    · have h := i_pos hq h
      exact w9_turn_92 hG hRP F _ _ _ _ h
    · have h := i_neg hq h
      have ⟨_, hc, h⟩ := b_some h
      refine Exists.intro _ (Exists.intro _ (Exists.intro _ (And.intro (c9_spinOnce F _ hc) (And.intro (by decide) (And.intro (fun q => absurd q (by decide)) ?_)))))
      have ⟨_, hc, h⟩ := b_some h
      refine Exists.intro _ (Exists.intro _ (Exists.intro _ (And.intro (c9_isAtMark F _ hc) (And.intro (by decide) (And.intro (fun q => absurd q (by decide)) ?_)))))
      refine And.intro (fun hq => ?_) (fun hq => ?_)
      · have h := i_pos hq h
        refine And.intro (fun hq => ?_) (fun hq => ?_)
        · have h := i_pos hq h
          have ⟨_, hc, h⟩ := b_some h
          refine Exists.intro _ (Exists.intro _ (Exists.intro _ (And.intro (c9_setMark F _ hc) (And.intro (by decide) (And.intro (fun q => absurd q (by decide)) ?_)))))
          exact ih _ _ _ _ h
        · have h := i_neg hq h
          exact ih _ _ _ _ h
      · have h := i_neg hq h
        exact w9_turn_92 hG hRP F _ _ _ _ h
set_option maxHeartbeats 4000000 in
set_option maxRecDepth 20000 in
theorem c9_turn {E : EnvT} (F : Nat) (c1 : Nat) (i2 : Int32) (σ : Mem) {r : Int32 × Mem} (h : m9_turn F c1 i2 σ = some r) : MetAt E 4 67 [(.ref 121, 9), (.ref c1, 7), (.int i2, 0)] σ (some (.int r.1, 0)) r.2 := by
  unfold m9_turn at h
  refine MetAt_of (tb := tb_67) (by decide) tbok_67 (Nat.le_of_ble_eq_true rfl) (fun a q => by cases q; trivial) (fun G hG => ?_)
  have hRP : (fun (a : Option AV) (τ : Mem) => a.map (conc E) = ((some (.int r.1, 0)) : Option AV).map (conc E) ∧ τ = r.2) (some (.int r.1, 0)) r.2 := ⟨rfl, rfl⟩
  change G 0 [some (.ref 121, 9), some (.ref c1, 7), some (.int i2, 0), none, none, none] [] σ
  refine bk hG (cut := [44, 92]) 400 ?_
  have ⟨_, hc, h⟩ := b_some h
  refine Exists.intro _ (Exists.intro _ (Exists.intro _ (And.intro (c7_copyFrom F _ _ _ hc) (And.intro (by decide) (And.intro (fun q => absurd q (by decide)) ?_)))))
  refine And.intro (Or.inr rfl) ?_
  have ⟨_, hc, h⟩ := b_some h
  refine Exists.intro _ (Exists.intro _ (Exists.intro _ (And.intro (c2_assign F _ _ hc) (And.intro (by decide) (And.intro (fun q => absurd q (by decide)) ?_)))))
  have ⟨_, hc, h⟩ := b_some h
  refine Exists.intro _ (Exists.intro _ (Exists.intro _ (And.intro (c9_fillStrikes F _ _ hc) (And.intro (by decide) (And.intro (fun q => absurd q (by decide)) ?_)))))
  have ⟨_, hc, h⟩ := b_some h
  refine Exists.intro _ (Exists.intro _ (Exists.intro _ (And.intro (c9_setMark F _ hc) (And.intro (by decide) (And.intro (fun q => absurd q (by decide)) ?_)))))
  exact w9_turn_44 hG hRP F F _ _ _ _ h
set_option maxHeartbeats 4000000 in
set_option maxRecDepth 20000 in
theorem c10_copyFrom {E : EnvT} (F : Nat) (c0 : Nat) (c1 : Nat) (σ : Mem) {r : Mem} (h : m10_copyFrom F c0 c1 σ = some r) : MetAt E 1 72 [(.ref c0, 10), (.ref c1, 10)] σ none r := by
  unfold m10_copyFrom at h
  refine MetAt_of (tb := tb_72) (by decide) tbok_72 (Nat.le_of_ble_eq_true rfl) (fun a q => by cases q) (fun G hG => ?_)
  have hRP : (fun (a : Option AV) (τ : Mem) => a.map (conc E) = (none : Option AV).map (conc E) ∧ τ = r) none r := ⟨rfl, rfl⟩
  change G 0 [some (.ref c0, 10), some (.ref c1, 10)] [] σ
  refine bk hG (cut := []) 400 ?_
  have ⟨_, hc, h⟩ := b_some h
  refine Exists.intro _ (Exists.intro _ (Exists.intro _ (And.intro (c4_copyFrom F _ _ _ hc) (And.intro (by decide) (And.intro (fun q => absurd q (by decide)) ?_)))))
  have ⟨_, hc, h⟩ := b_some h
  refine Exists.intro _ (Exists.intro _ (Exists.intro _ (And.intro (c7_copyFrom F _ _ _ hc) (And.intro (by decide) (And.intro (fun q => absurd q (by decide)) ?_)))))
  have ⟨_, hc, h⟩ := b_some h
  refine Exists.intro _ (Exists.intro _ (Exists.intro _ (And.intro (c3_copyFrom F _ _ _ hc) (And.intro (by decide) (And.intro (fun q => absurd q (by decide)) ?_)))))
  have e := Option.some.inj h
  subst e
  exact hRP
