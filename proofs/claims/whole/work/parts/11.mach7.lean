set_option maxHeartbeats 4000000 in
set_option maxRecDepth 20000 in
theorem w12_beside_54 {E : EnvT} {G : GT} {RP : Option AV → Mem → Prop} {i1 : Int32} (hG : Cl E 206 3 tb_206 G RP) {r : Int32 × Mem} (hRP : RP (some (.int r.1, 0)) r.2) (F : Nat) : ∀ (n : Nat) (x2 : Int32) (σ : Mem), m12_beside_54 F i1 n x2 σ = some r → G 54 [some (.ref 483, 12), some (.int i1, 0), some (.int x2, 0)] [] σ := by
  intro n
  induction n with
  | zero => intro x2 σ h; unfold m12_beside_54 at h; cases h
  | succ n ih =>
    intro x2 σ h
    refine bk hG (cut := [34, 54]) 400 ?_
    unfold m12_beside_54 at h
    have ⟨hg, h⟩ := g_gd h
    refine And.intro (inB_of hg) ?_
    have ⟨_, hc, h⟩ := b_some h
    refine Exists.intro _ (Exists.intro _ (Exists.intro _ (And.intro (c12_ninth F _ _ hc) (And.intro (by decide) ?_))))
    refine And.intro (fun hq => ?_) (fun hq => ?_)
    · have h := i_pos hq h
      refine And.intro (fun hq => ?_) (fun hq => ?_)
      · have h := i_pos hq h
        have ⟨hg, h⟩ := g_gd h
        refine And.intro (inB_of hg) ?_
        refine And.intro (fun hq => ?_) (fun hq => ?_)
        · have h := i_pos hq h
          have e := Option.some.inj h
          subst e
          exact hRP
        · have h := i_neg hq h
          have ⟨hg, h⟩ := g_gd h
          refine And.intro (inB_of hg) ?_
          have e := Option.some.inj h
          subst e
          exact hRP
      · have h := i_neg hq h
        refine And.intro (fun hq => ?_) (fun hq => ?_)
        · have h := i_pos hq h
          have e := Option.some.inj h
          subst e
          exact hRP
        · have h := i_neg hq h
          have e := Option.some.inj h
          subst e
          exact hRP
    · have h := i_neg hq h
      have ⟨_, hc, h⟩ := b_some h
      refine Exists.intro _ (Exists.intro _ (Exists.intro _ (And.intro (c12_countsBeside F _ _ hc) (And.intro (by decide) (And.intro (fun q => absurd q (by decide)) ?_)))))
      exact ih _ _ h
set_option maxHeartbeats 4000000 in
set_option maxRecDepth 20000 in
theorem w12_beside_34 {E : EnvT} {G : GT} {RP : Option AV → Mem → Prop} {i1 : Int32} (hG : Cl E 206 3 tb_206 G RP) {r : Int32 × Mem} (hRP : RP (some (.int r.1, 0)) r.2) (F : Nat) : ∀ (n : Nat) (x2 : Int32) (σ : Mem), m12_beside_34 F i1 n x2 σ = some r → G 34 [some (.ref 483, 12), some (.int i1, 0), some (.int x2, 0)] [] σ := by
  intro n
  induction n with
  | zero => intro x2 σ h; unfold m12_beside_34 at h; cases h
  | succ n ih =>
    intro x2 σ h
    refine bk hG (cut := [34, 54]) 400 ?_
    unfold m12_beside_34 at h
    refine And.intro (fun hq => ?_) (fun hq => ?_)
    · have h := i_pos hq h
      exact w12_beside_54 hG hRP F F _ _ h
    · have h := i_neg hq h
      have ⟨hg, h⟩ := g_gd h
      refine And.intro (inB_of hg) ?_
      exact ih _ _ h
set_option maxHeartbeats 4000000 in
set_option maxRecDepth 20000 in
theorem c12_beside {E : EnvT} (F : Nat) (i1 : Int32) (σ : Mem) {r : Int32 × Mem} (h : m12_beside F i1 σ = some r) : MetAt E 3 206 [(.ref 483, 12), (.int i1, 0)] σ (some (.int r.1, 0)) r.2 := by
  unfold m12_beside at h
  refine MetAt_of (tb := tb_206) (by decide) tbok_206 (Nat.le_of_ble_eq_true rfl) (fun a q => by cases q; trivial) (fun G hG => ?_)
  have hRP : (fun (a : Option AV) (τ : Mem) => a.map (conc E) = ((some (.int r.1, 0)) : Option AV).map (conc E) ∧ τ = r.2) (some (.int r.1, 0)) r.2 := ⟨rfl, rfl⟩
  change G 0 [some (.ref 483, 12), some (.int i1, 0), none] [] σ
  refine bk hG (cut := [34, 54]) 400 ?_
  have ⟨_, hc, h⟩ := b_some h
  refine Exists.intro _ (Exists.intro _ (Exists.intro _ (And.intro (c12_isSmithy F _ hc) (And.intro (by decide) (And.intro (fun q => absurd q (by decide)) ?_)))))
  refine And.intro (fun hq => ?_) (fun hq => ?_)
  · have h := i_pos hq h
    have e := Option.some.inj h
    subst e
    exact hRP
  · have h := i_neg hq h
    have ⟨_, hc, h⟩ := b_some h
    refine Exists.intro _ (Exists.intro _ (Exists.intro _ (And.intro (c12_in F _ _ _ _ hc) (And.intro (by decide) ?_))))
    refine And.intro (fun hq => ?_) (fun hq => ?_)
    · have h := i_pos hq h
      have e := Option.some.inj h
      subst e
      exact hRP
    · have h := i_neg hq h
      exact w12_beside_34 hG hRP F F _ _ h
set_option maxHeartbeats 4000000 in
set_option maxRecDepth 20000 in
theorem w12_othersBlows_23 {E : EnvT} {G : GT} {RP : Option AV → Mem → Prop} {i1 : Int32} {i2 : Int32} (hG : Cl E 207 8 tb_207 G RP) {r : Int32 × Mem} (hRP : RP (some (.int r.1, 0)) r.2) (F : Nat) {k9 : Int32 → Int32 → Mem → Option (Int32 × Mem)} (hk9 : ∀ (x3 : Int32) (x4 : Int32) (d5 : Option AV) (σ : Mem), k9 x3 x4 σ = some r → G 9 [some (.ref 483, 12), some (.int i1, 0), some (.int i2, 0), some (.int x3, 0), some (.int x4, 0), d5] [] σ) : ∀ (n : Nat) (x3 : Int32) (x4 : Int32) (x5 : Int32) (σ : Mem), m12_othersBlows_23 F i1 i2 k9 n x3 x4 x5 σ = some r → G 23 [some (.ref 483, 12), some (.int i1, 0), some (.int i2, 0), some (.int x3, 0), some (.int x4, 0), some (.int x5, 0)] [] σ := by
  intro n
  induction n with
  | zero => intro x3 x4 x5 σ h; unfold m12_othersBlows_23 at h; cases h
  | succ n ih =>
    intro x3 x4 x5 σ h
    refine bk hG (cut := [9, 23]) 400 ?_
    unfold m12_othersBlows_23 at h
    have ⟨hg, h⟩ := g_gd h
    refine And.intro (inB_of hg) ?_
    refine And.intro (fun hq => ?_) (fun hq => ?_)
    · have h := i_pos hq h
      exact hk9 _ _ _ _ h
    · have h := i_neg hq h
      refine And.intro (fun hq => ?_) (fun hq => ?_)
      · have h := i_pos hq h
        exact ih _ _ _ _ h
      · have h := i_neg hq h
        have ⟨hg, h⟩ := g_gd h
        refine And.intro (inB_of hg) ?_
        exact ih _ _ _ _ h
set_option maxHeartbeats 4000000 in
set_option maxRecDepth 20000 in
theorem w12_othersBlows_9 {E : EnvT} {G : GT} {RP : Option AV → Mem → Prop} {i1 : Int32} {i2 : Int32} (hG : Cl E 207 8 tb_207 G RP) {r : Int32 × Mem} (hRP : RP (some (.int r.1, 0)) r.2) (F : Nat) : ∀ (n : Nat) (x3 : Int32) (x4 : Int32) (d5 : Option AV) (σ : Mem), m12_othersBlows_9 F i1 i2 n x3 x4 σ = some r → G 9 [some (.ref 483, 12), some (.int i1, 0), some (.int i2, 0), some (.int x3, 0), some (.int x4, 0), d5] [] σ := by
  intro n
  induction n with
  | zero => intro x3 x4 d5 σ h; unfold m12_othersBlows_9 at h; cases h
  | succ n ih =>
    intro x3 x4 d5 σ h
    refine bk hG (cut := [9, 23]) 400 ?_
    unfold m12_othersBlows_9 at h
    refine And.intro (fun hq => ?_) (fun hq => ?_)
    · have h := i_pos hq h
      have ⟨_, hc, h⟩ := b_some h
      refine Exists.intro _ (Exists.intro _ (Exists.intro _ (And.intro (c12_laysBack F _ hc) (And.intro (by decide) (And.intro (fun q => absurd q (by decide)) ?_)))))
      have e := Option.some.inj h
      subst e
      exact hRP
    · have h := i_neg hq h
      have ⟨_, hc, h⟩ := b_some h
      refine Exists.intro _ (Exists.intro _ (Exists.intro _ (And.intro (c12_passes F _ hc) (And.intro (by decide) (And.intro (fun q => absurd q (by decide)) ?_)))))
      exact w12_othersBlows_23 hG hRP F (fun _ _ _ _ h => ih _ _ _ _ h) F _ _ _ _ h
set_option maxHeartbeats 4000000 in
set_option maxRecDepth 20000 in
theorem c12_othersBlows {E : EnvT} (F : Nat) (i1 : Int32) (i2 : Int32) (σ : Mem) {r : Int32 × Mem} (h : m12_othersBlows F i1 i2 σ = some r) : MetAt E 8 207 [(.ref 483, 12), (.int i1, 0), (.int i2, 0)] σ (some (.int r.1, 0)) r.2 := by
  unfold m12_othersBlows at h
  refine MetAt_of (tb := tb_207) (by decide) tbok_207 (Nat.le_of_ble_eq_true rfl) (fun a q => by cases q; trivial) (fun G hG => ?_)
  have hRP : (fun (a : Option AV) (τ : Mem) => a.map (conc E) = ((some (.int r.1, 0)) : Option AV).map (conc E) ∧ τ = r.2) (some (.int r.1, 0)) r.2 := ⟨rfl, rfl⟩
  change G 0 [some (.ref 483, 12), some (.int i1, 0), some (.int i2, 0), none, none, none] [] σ
  refine bk hG (cut := [9, 23]) 400 ?_
  have ⟨_, hc, h⟩ := b_some h
  refine Exists.intro _ (Exists.intro _ (Exists.intro _ (And.intro (c12_keeps F _ hc) (And.intro (by decide) (And.intro (fun q => absurd q (by decide)) ?_)))))
  exact w12_othersBlows_9 hG hRP F F _ _ _ _ h
set_option maxHeartbeats 4000000 in
set_option maxRecDepth 20000 in
theorem c12_worth {E : EnvT} (F : Nat) (i1 : Int32) (i2 : Int32) (σ : Mem) {r : Int32 × Mem} (h : m12_worth F i1 i2 σ = some r) : MetAt E 9 208 [(.ref 483, 12), (.int i1, 0), (.int i2, 0)] σ (some (.int r.1, 0)) r.2 := by
  unfold m12_worth at h
  refine MetAt_of (tb := tb_208) (by decide) tbok_208 (Nat.le_of_ble_eq_true rfl) (fun a q => by cases q; trivial) (fun G hG => ?_)
  have hRP : (fun (a : Option AV) (τ : Mem) => a.map (conc E) = ((some (.int r.1, 0)) : Option AV).map (conc E) ∧ τ = r.2) (some (.int r.1, 0)) r.2 := ⟨rfl, rfl⟩
  change G 0 [some (.ref 483, 12), some (.int i1, 0), some (.int i2, 0), none, none] [] σ
  refine bk hG (cut := []) 400 ?_
  have ⟨_, hc, h⟩ := b_some h
  refine Exists.intro _ (Exists.intro _ (Exists.intro _ (And.intro (c12_isSmith F _ _ hc) (And.intro (by decide) (And.intro (fun q => absurd q (by decide)) ?_)))))
  refine And.intro (fun hq => ?_) (fun hq => ?_)
  · have h := i_pos hq h
    have e := Option.some.inj h
    subst e
    exact hRP
  · have h := i_neg hq h
    have ⟨_, hc, h⟩ := b_some h
    refine Exists.intro _ (Exists.intro _ (Exists.intro _ (And.intro (c12_in F _ _ _ _ hc) (And.intro (by decide) ?_))))
    refine And.intro (fun hq => ?_) (fun hq => ?_)
    · have h := i_pos hq h
      have e := Option.some.inj h
      subst e
      exact hRP
    · have h := i_neg hq h
      have ⟨_, hc, h⟩ := b_some h
      refine Exists.intro _ (Exists.intro _ (Exists.intro _ (And.intro (c12_othersBlows F _ _ _ hc) (And.intro (by decide) (And.intro (fun q => absurd q (by decide)) ?_)))))
      have ⟨_, hc, h⟩ := b_some h
      refine Exists.intro _ (Exists.intro _ (Exists.intro _ (And.intro (c12_othersBlows F _ _ _ hc) (And.intro (by decide) (And.intro (fun q => absurd q (by decide)) ?_)))))
      have e := Option.some.inj h
      subst e
      exact hRP
set_option maxHeartbeats 4000000 in
set_option maxRecDepth 20000 in
theorem w12_splits_127 {E : EnvT} {G : GT} {RP : Option AV → Mem → Prop} {i1 : Int32} {i2 : Int32} (hG : Cl E 209 8 tb_209 G RP) {r : Int32 × Mem} (hRP : RP (some (.int r.1, 0)) r.2) (F : Nat) : ∀ (x3 : Int32) (x4 : Int32) (d5 : Option AV) (σ : Mem), m12_splits_127 F i1 i2 x3 x4 σ = some r → G 127 [some (.ref 483, 12), some (.int i1, 0), some (.int i2, 0), some (.int x3, 0), some (.int x4, 0), d5] [] σ := by
  intro x3 x4 d5 σ h
  refine bk hG (cut := [66, 127]) 400 ?_
  unfold m12_splits_127 at h
  have ⟨_, hc, h⟩ := b_some h
  refine Exists.intro _ (Exists.intro _ (Exists.intro _ (And.intro (c12_laysBack F _ hc) (And.intro (by decide) (And.intro (fun q => absurd q (by decide)) ?_)))))
  refine And.intro (fun hq => ?_) (fun hq => ?_)
  · have h := i_pos hq h
    have e := Option.some.inj h
    subst e
    exact hRP
  · have h := i_neg hq h
    have e := Option.some.inj h
    subst e
    exact hRP
set_option maxHeartbeats 4000000 in
set_option maxRecDepth 20000 in
theorem w12_splits_66 {E : EnvT} {G : GT} {RP : Option AV → Mem → Prop} {i1 : Int32} {i2 : Int32} (hG : Cl E 209 8 tb_209 G RP) {r : Int32 × Mem} (hRP : RP (some (.int r.1, 0)) r.2) (F : Nat) : ∀ (n : Nat) (x3 : Int32) (x4 : Int32) (x5 : Int32) (σ : Mem), m12_splits_66 F i1 i2 n x3 x4 x5 σ = some r → G 66 [some (.ref 483, 12), some (.int i1, 0), some (.int i2, 0), some (.int x3, 0), some (.int x4, 0), some (.int x5, 0)] [] σ := by
  intro n
  induction n with
  | zero => intro x3 x4 x5 σ h; unfold m12_splits_66 at h; cases h
  | succ n ih =>
    intro x3 x4 x5 σ h
    refine bk hG (cut := [66, 127]) 400 ?_
    unfold m12_splits_66 at h
    refine And.intro (fun hq => ?_) (fun hq => ?_)
    · have h := i_pos hq h
      exact w12_splits_127 hG hRP F _ _ _ _ h
    · have h := i_neg hq h
      refine And.intro (fun hq => ?_) (fun hq => ?_)
      · have h := i_pos hq h
        exact w12_splits_127 hG hRP F _ _ _ _ h
      · have h := i_neg hq h
        have ⟨_, hc, h⟩ := b_some h
        refine Exists.intro _ (Exists.intro _ (Exists.intro _ (And.intro (c12_passes F _ hc) (And.intro (by decide) (And.intro (fun q => absurd q (by decide)) ?_)))))
        have ⟨hg, h⟩ := g_gd h
        refine And.intro (inB_of hg) ?_
        have ⟨hg, h⟩ := g_gd h
        refine And.intro (inB_of hg) ?_
        refine And.intro (fun hq => ?_) (fun hq => ?_)
        · have h := i_pos hq h
          have ⟨hg, h⟩ := g_gd h
          refine And.intro (inB_of hg) ?_
          have ⟨hg, h⟩ := g_gd h
          refine And.intro (inB_of hg) ?_
          exact ih _ _ _ _ h
        · have h := i_neg hq h
          exact ih _ _ _ _ h
set_option maxHeartbeats 4000000 in
set_option maxRecDepth 20000 in
theorem c12_splits {E : EnvT} (F : Nat) (i1 : Int32) (i2 : Int32) (σ : Mem) {r : Int32 × Mem} (h : m12_splits F i1 i2 σ = some r) : MetAt E 8 209 [(.ref 483, 12), (.int i1, 0), (.int i2, 0)] σ (some (.int r.1, 0)) r.2 := by
  unfold m12_splits at h
  refine MetAt_of (tb := tb_209) (by decide) tbok_209 (Nat.le_of_ble_eq_true rfl) (fun a q => by cases q; trivial) (fun G hG => ?_)
  have hRP : (fun (a : Option AV) (τ : Mem) => a.map (conc E) = ((some (.int r.1, 0)) : Option AV).map (conc E) ∧ τ = r.2) (some (.int r.1, 0)) r.2 := ⟨rfl, rfl⟩
  change G 0 [some (.ref 483, 12), some (.int i1, 0), some (.int i2, 0), none, none, none] [] σ
  refine bk hG (cut := [66, 127]) 400 ?_
  have ⟨_, hc, h⟩ := b_some h
  refine Exists.intro _ (Exists.intro _ (Exists.intro _ (And.intro (c12_isSmithy F _ hc) (And.intro (by decide) (And.intro (fun q => absurd q (by decide)) ?_)))))
  refine And.intro (fun hq => ?_) (fun hq => ?_)
  · have h := i_pos hq h
    have e := Option.some.inj h
    subst e
    exact hRP
  · have h := i_neg hq h
    have ⟨_, hc, h⟩ := b_some h
    refine Exists.intro _ (Exists.intro _ (Exists.intro _ (And.intro (c12_in F _ _ _ _ hc) (And.intro (by decide) ?_))))
    refine And.intro (fun hq => ?_) (fun hq => ?_)
    · have h := i_pos hq h
      have e := Option.some.inj h
      subst e
      exact hRP
    · have h := i_neg hq h
      have ⟨_, hc, h⟩ := b_some h
      refine Exists.intro _ (Exists.intro _ (Exists.intro _ (And.intro (c12_in F _ _ _ _ hc) (And.intro (by decide) ?_))))
      refine And.intro (fun hq => ?_) (fun hq => ?_)
      · have h := i_pos hq h
        have e := Option.some.inj h
        subst e
        exact hRP
      · have h := i_neg hq h
        have ⟨hg, h⟩ := g_gd h
        refine And.intro (inB_of hg) ?_
        have ⟨hg, h⟩ := g_gd h
        refine And.intro (inB_of hg) ?_
        refine And.intro (fun hq => ?_) (fun hq => ?_)
        · have h := i_pos hq h
          have ⟨_, hc, h⟩ := b_some h
          refine Exists.intro _ (Exists.intro _ (Exists.intro _ (And.intro (c12_keeps F _ hc) (And.intro (by decide) (And.intro (fun q => absurd q (by decide)) ?_)))))
          exact w12_splits_66 hG hRP F F _ _ _ _ h
        · have h := i_neg hq h
          have e := Option.some.inj h
          subst e
          exact hRP
set_option maxHeartbeats 4000000 in
set_option maxRecDepth 20000 in
theorem w12_orders_4 {E : EnvT} {G : GT} {RP : Option AV → Mem → Prop} {i0 : Int32} {σ : Mem} (hG : Cl E 210 0 tb_210 G RP) {r : Int32} (hRP : RP (some (.int r, 0)) σ) (F : Nat) : ∀ (n : Nat) (x1 : Int32) (x2 : Int32), m12_orders_4 F i0 σ n x1 x2 = some r → G 4 [some (.int i0, 0), some (.int x1, 0), some (.int x2, 0)] [] σ := by
  intro n
  induction n with
  | zero => intro x1 x2 h; unfold m12_orders_4 at h; cases h
  | succ n ih =>
    intro x1 x2 h
    refine bk hG (cut := [4]) 400 ?_
    unfold m12_orders_4 at h
    refine And.intro (fun hq => ?_) (fun hq => ?_)
    · have h := i_pos hq h
      have e := Option.some.inj h
      subst e
      exact hRP
    · have h := i_neg hq h
      exact ih _ _ h
set_option maxHeartbeats 4000000 in
set_option maxRecDepth 20000 in
theorem c12_orders {E : EnvT} (F : Nat) (i0 : Int32) (σ : Mem) {r : Int32} (h : m12_orders F i0 σ = some r) : MetAt E 0 210 [(.int i0, 0)] σ (some (.int r, 0)) σ := by
  unfold m12_orders at h
  refine MetAt_of (tb := tb_210) (by decide) tbok_210 (Nat.le_of_ble_eq_true rfl) (fun a q => by cases q; trivial) (fun G hG => ?_)
  have hRP : (fun (a : Option AV) (τ : Mem) => a.map (conc E) = ((some (.int r, 0)) : Option AV).map (conc E) ∧ τ = σ) (some (.int r, 0)) σ := ⟨rfl, rfl⟩
  change G 0 [some (.int i0, 0), none, none] [] σ
  refine bk hG (cut := [4]) 400 ?_
  exact w12_orders_4 hG hRP F F _ _ h
set_option maxHeartbeats 4000000 in
set_option maxRecDepth 20000 in
theorem w12_laysOrder_59 {E : EnvT} {G : GT} {RP : Option AV → Mem → Prop} {i1 : Int32} {i2 : Int32} (hG : Cl E 211 1 tb_211 G RP) {r : Mem} (hRP : RP none r) (F : Nat) {k45 : Int32 → Int32 → Int32 → Int32 → Int32 → Mem → Option (Mem)} (hk45 : ∀ (x3 : Int32) (x4 : Int32) (x5 : Int32) (x6 : Int32) (x7 : Int32) (σ : Mem), k45 x3 x4 x5 x6 x7 σ = some r → G 45 [some (.ref 483, 12), some (.int i1, 0), some (.int i2, 0), some (.int x3, 0), some (.int x4, 0), some (.int x5, 0), some (.int x6, 0), some (.int x7, 0)] [] σ) : ∀ (x3 : Int32) (x4 : Int32) (x5 : Int32) (x6 : Int32) (x7 : Int32) (σ : Mem), m12_laysOrder_59 F i1 i2 k45 x3 x4 x5 x6 x7 σ = some r → G 59 [some (.ref 483, 12), some (.int i1, 0), some (.int i2, 0), some (.int x3, 0), some (.int x4, 0), some (.int x5, 0), some (.int x6, 0), some (.int x7, 0)] [] σ := by
  intro x3 x4 x5 x6 x7 σ h
  refine bk hG (cut := [8, 45, 59]) 400 ?_
  unfold m12_laysOrder_59 at h
  have ⟨_, hc, h⟩ := b_some h
  refine Exists.intro _ (Exists.intro _ (Exists.intro _ (And.intro (c12_isOf F _ _ _ hc) (And.intro (by decide) ?_))))
  refine And.intro (fun hq => ?_) (fun hq => ?_)
  · have h := i_pos hq h
    exact hk45 _ _ _ _ _ _ h
  · have h := i_neg hq h
    exact hk45 _ _ _ _ _ _ h
set_option maxHeartbeats 4000000 in
set_option maxRecDepth 20000 in
theorem w12_laysOrder_45 {E : EnvT} {G : GT} {RP : Option AV → Mem → Prop} {i1 : Int32} {i2 : Int32} (hG : Cl E 211 1 tb_211 G RP) {r : Mem} (hRP : RP none r) (F : Nat) {k8 : Int32 → Int32 → Int32 → Mem → Option (Mem)} (hk8 : ∀ (x3 : Int32) (x4 : Int32) (x5 : Int32) (d6 : Option AV) (d7 : Option AV) (σ : Mem), k8 x3 x4 x5 σ = some r → G 8 [some (.ref 483, 12), some (.int i1, 0), some (.int i2, 0), some (.int x3, 0), some (.int x4, 0), some (.int x5, 0), d6, d7] [] σ) : ∀ (n : Nat) (x3 : Int32) (x4 : Int32) (x5 : Int32) (x6 : Int32) (x7 : Int32) (σ : Mem), m12_laysOrder_45 F i1 i2 k8 n x3 x4 x5 x6 x7 σ = some r → G 45 [some (.ref 483, 12), some (.int i1, 0), some (.int i2, 0), some (.int x3, 0), some (.int x4, 0), some (.int x5, 0), some (.int x6, 0), some (.int x7, 0)] [] σ := by
  intro n
  induction n with
  | zero => intro x3 x4 x5 x6 x7 σ h; unfold m12_laysOrder_45 at h; cases h
  | succ n ih =>
    intro x3 x4 x5 x6 x7 σ h
    refine bk hG (cut := [8, 45, 59]) 400 ?_
    unfold m12_laysOrder_45 at h
    have ⟨_, hc, h⟩ := b_some h
    refine Exists.intro _ (Exists.intro _ (Exists.intro _ (And.intro (c12_isOf F _ _ _ hc) (And.intro (by decide) ?_))))
    refine And.intro (fun hq => ?_) (fun hq => ?_)
    · have h := i_pos hq h
      refine And.intro (fun hq => ?_) (fun hq => ?_)
      · have h := i_pos hq h
        have ⟨hg, h⟩ := g_gd h
        refine And.intro (inB_of hg) ?_
        have ⟨hg, h⟩ := g_gd h
        refine And.intro (inB_of hg) ?_
        exact hk8 _ _ _ _ _ _ h
      · have h := i_neg hq h
        exact w12_laysOrder_59 hG hRP F (fun _ _ _ _ _ _ h => ih _ _ _ _ _ _ h) _ _ _ _ _ _ h
    · have h := i_neg hq h
      exact w12_laysOrder_59 hG hRP F (fun _ _ _ _ _ _ h => ih _ _ _ _ _ _ h) _ _ _ _ _ _ h
set_option maxHeartbeats 4000000 in
set_option maxRecDepth 20000 in
theorem w12_laysOrder_8 {E : EnvT} {G : GT} {RP : Option AV → Mem → Prop} {i1 : Int32} {i2 : Int32} (hG : Cl E 211 1 tb_211 G RP) {r : Mem} (hRP : RP none r) (F : Nat) : ∀ (n : Nat) (x3 : Int32) (x4 : Int32) (x5 : Int32) (d6 : Option AV) (d7 : Option AV) (σ : Mem), m12_laysOrder_8 F i1 i2 n x3 x4 x5 σ = some r → G 8 [some (.ref 483, 12), some (.int i1, 0), some (.int i2, 0), some (.int x3, 0), some (.int x4, 0), some (.int x5, 0), d6, d7] [] σ := by
  intro n
  induction n with
  | zero => intro x3 x4 x5 d6 d7 σ h; unfold m12_laysOrder_8 at h; cases h
  | succ n ih =>
    intro x3 x4 x5 d6 d7 σ h
    refine bk hG (cut := [8, 45, 59]) 400 ?_
    unfold m12_laysOrder_8 at h
    refine And.intro (fun hq => ?_) (fun hq => ?_)
    · have h := i_pos hq h
      have e := Option.some.inj h
      subst e
      exact hRP
    · have h := i_neg hq h
      have ⟨_, hc, h⟩ := b_some h
      refine Exists.intro _ (Exists.intro _ (Exists.intro _ (And.intro (c12_orders F _ _ hc) (And.intro (by decide) ?_))))
      have ⟨hg, h⟩ := g_gd h
      refine And.intro hg ?_
      have ⟨_, hc, h⟩ := b_some h
      refine Exists.intro _ (Exists.intro _ (Exists.intro _ (And.intro (c12_orders F _ _ hc) (And.intro (by decide) ?_))))
      have ⟨hg, h⟩ := g_gd h
      refine And.intro hg ?_
      exact w12_laysOrder_45 hG hRP F (fun _ _ _ _ _ _ h => ih _ _ _ _ _ _ h) F _ _ _ _ _ _ h
set_option maxHeartbeats 4000000 in
set_option maxRecDepth 20000 in
theorem c12_laysOrder {E : EnvT} (F : Nat) (i1 : Int32) (i2 : Int32) (σ : Mem) {r : Mem} (h : m12_laysOrder F i1 i2 σ = some r) : MetAt E 1 211 [(.ref 483, 12), (.int i1, 0), (.int i2, 0)] σ none r := by
  unfold m12_laysOrder at h
  refine MetAt_of (tb := tb_211) (by decide) tbok_211 (Nat.le_of_ble_eq_true rfl) (fun a q => by cases q) (fun G hG => ?_)
  have hRP : (fun (a : Option AV) (τ : Mem) => a.map (conc E) = (none : Option AV).map (conc E) ∧ τ = r) none r := ⟨rfl, rfl⟩
  change G 0 [some (.ref 483, 12), some (.int i1, 0), some (.int i2, 0), none, none, none, none, none] [] σ
  refine bk hG (cut := [8, 45, 59]) 400 ?_
  exact w12_laysOrder_8 hG hRP F F _ _ _ _ _ _ h
set_option maxHeartbeats 4000000 in
set_option maxRecDepth 20000 in
theorem w12_momentsBy_96 {E : EnvT} {G : GT} {RP : Option AV → Mem → Prop} {i1 : Int32} {i2 : Int32} (hG : Cl E 212 8 tb_212 G RP) {r : Int32 × Mem} (hRP : RP (some (.int r.1, 0)) r.2) (F : Nat) : ∀ (x3 : Int32) (d4 : Option AV) (σ : Mem), m12_momentsBy_96 F i1 i2 x3 σ = some r → G 96 [some (.ref 483, 12), some (.int i1, 0), some (.int i2, 0), some (.int x3, 0), d4] [] σ := by
  intro x3 d4 σ h
  refine bk hG (cut := [36, 62, 85, 96]) 400 ?_
  unfold m12_momentsBy_96 at h
  have ⟨_, hc, h⟩ := b_some h
  refine Exists.intro _ (Exists.intro _ (Exists.intro _ (And.intro (c12_laysBack F _ hc) (And.intro (by decide) (And.intro (fun q => absurd q (by decide)) ?_)))))
  have e := Option.some.inj h
  subst e
  exact hRP
set_option maxHeartbeats 4000000 in
set_option maxRecDepth 20000 in
theorem w12_momentsBy_85 {E : EnvT} {G : GT} {RP : Option AV → Mem → Prop} {i1 : Int32} {i2 : Int32} (hG : Cl E 212 8 tb_212 G RP) {r : Int32 × Mem} (hRP : RP (some (.int r.1, 0)) r.2) (F : Nat) {k62 : Int32 → Int32 → Mem → Option (Int32 × Mem)} (hk62 : ∀ (x3 : Int32) (x4 : Int32) (σ : Mem), k62 x3 x4 σ = some r → G 62 [some (.ref 483, 12), some (.int i1, 0), some (.int i2, 0), some (.int x3, 0), some (.int x4, 0)] [] σ) : ∀ (x3 : Int32) (x4 : Int32) (σ : Mem), m12_momentsBy_85 F i1 i2 k62 x3 x4 σ = some r → G 85 [some (.ref 483, 12), some (.int i1, 0), some (.int i2, 0), some (.int x3, 0), some (.int x4, 0)] [] σ := by
  intro x3 x4 σ h
  refine bk hG (cut := [36, 62, 85, 96]) 400 ?_
  unfold m12_momentsBy_85 at h
  have ⟨_, hc, h⟩ := b_some h
  refine Exists.intro _ (Exists.intro _ (Exists.intro _ (And.intro (c12_passes F _ hc) (And.intro (by decide) (And.intro (fun q => absurd q (by decide)) ?_)))))
  exact hk62 _ _ _ h
set_option maxHeartbeats 4000000 in
set_option maxRecDepth 20000 in
theorem w12_momentsBy_62 {E : EnvT} {G : GT} {RP : Option AV → Mem → Prop} {i1 : Int32} {i2 : Int32} (hG : Cl E 212 8 tb_212 G RP) {r : Int32 × Mem} (hRP : RP (some (.int r.1, 0)) r.2) (F : Nat) : ∀ (n : Nat) (x3 : Int32) (x4 : Int32) (σ : Mem), m12_momentsBy_62 F i1 i2 n x3 x4 σ = some r → G 62 [some (.ref 483, 12), some (.int i1, 0), some (.int i2, 0), some (.int x3, 0), some (.int x4, 0)] [] σ := by
  intro n
  induction n with
  | zero => intro x3 x4 σ h; unfold m12_momentsBy_62 at h; cases h
  | succ n ih =>
    intro x3 x4 σ h
    refine bk hG (cut := [36, 62, 85, 96]) 400 ?_
    unfold m12_momentsBy_62 at h
    refine And.intro (fun hq => ?_) (fun hq => ?_)
    · have h := i_pos hq h
      exact w12_momentsBy_96 hG hRP F _ _ _ h
    · have h := i_neg hq h
      refine And.intro (fun hq => ?_) (fun hq => ?_)
      · have h := i_pos hq h
        exact w12_momentsBy_96 hG hRP F _ _ _ h
      · have h := i_neg hq h
        have ⟨_, hc, h⟩ := b_some h
        refine Exists.intro _ (Exists.intro _ (Exists.intro _ (And.intro (c12_openMany F _ _ hc) (And.intro (by decide) (And.intro (fun q => absurd q (by decide)) ?_)))))
        refine And.intro (fun hq => ?_) (fun hq => ?_)
        · have h := i_pos hq h
          exact w12_momentsBy_85 hG hRP F (fun _ _ _ h => ih _ _ _ h) _ _ _ h
        · have h := i_neg hq h
          exact w12_momentsBy_85 hG hRP F (fun _ _ _ h => ih _ _ _ h) _ _ _ h
set_option maxHeartbeats 4000000 in
set_option maxRecDepth 20000 in
theorem w12_momentsBy_36 {E : EnvT} {G : GT} {RP : Option AV → Mem → Prop} {i1 : Int32} {i2 : Int32} (hG : Cl E 212 8 tb_212 G RP) {r : Int32 × Mem} (hRP : RP (some (.int r.1, 0)) r.2) (F : Nat) : ∀ (n : Nat) (x3 : Int32) (x4 : Int32) (σ : Mem), m12_momentsBy_36 F i1 i2 n x3 x4 σ = some r → G 36 [some (.ref 483, 12), some (.int i1, 0), some (.int i2, 0), some (.int x3, 0), some (.int x4, 0)] [] σ := by
  intro n
  induction n with
  | zero => intro x3 x4 σ h; unfold m12_momentsBy_36 at h; cases h
  | succ n ih =>
    intro x3 x4 σ h
    refine bk hG (cut := [36, 62, 85, 96]) 400 ?_
    unfold m12_momentsBy_36 at h
    refine And.intro (fun hq => ?_) (fun hq => ?_)
    · have h := i_pos hq h
      exact w12_momentsBy_62 hG hRP F F _ _ _ h
    · have h := i_neg hq h
      have ⟨hg, h⟩ := g_gd h
      refine And.intro (inB_of hg) ?_
      have ⟨_, hc, h⟩ := b_some h
      refine Exists.intro _ (Exists.intro _ (Exists.intro _ (And.intro (c12_putsBehind F _ _ hc) (And.intro (by decide) (And.intro (fun q => absurd q (by decide)) ?_)))))
      exact ih _ _ _ h
set_option maxHeartbeats 4000000 in
set_option maxRecDepth 20000 in
theorem c12_momentsBy {E : EnvT} (F : Nat) (i1 : Int32) (i2 : Int32) (σ : Mem) {r : Int32 × Mem} (h : m12_momentsBy F i1 i2 σ = some r) : MetAt E 8 212 [(.ref 483, 12), (.int i1, 0), (.int i2, 0)] σ (some (.int r.1, 0)) r.2 := by
  unfold m12_momentsBy at h
  refine MetAt_of (tb := tb_212) (by decide) tbok_212 (Nat.le_of_ble_eq_true rfl) (fun a q => by cases q; trivial) (fun G hG => ?_)
  have hRP : (fun (a : Option AV) (τ : Mem) => a.map (conc E) = ((some (.int r.1, 0)) : Option AV).map (conc E) ∧ τ = r.2) (some (.int r.1, 0)) r.2 := ⟨rfl, rfl⟩
  change G 0 [some (.ref 483, 12), some (.int i1, 0), some (.int i2, 0), none, none] [] σ
  refine bk hG (cut := [36, 62, 85, 96]) 400 ?_
  have ⟨_, hc, h⟩ := b_some h
  refine Exists.intro _ (Exists.intro _ (Exists.intro _ (And.intro (c12_keeps F _ hc) (And.intro (by decide) (And.intro (fun q => absurd q (by decide)) ?_)))))
  have ⟨hg, h⟩ := g_gd h
  refine And.intro (inB_of hg) ?_
  have ⟨_, hc, h⟩ := b_some h
  refine Exists.intro _ (Exists.intro _ (Exists.intro _ (And.intro (c12_jobNow F _ _ hc) (And.intro (by decide) (And.intro (fun q => absurd q (by decide)) ?_)))))
  refine And.intro (fun hq => ?_) (fun hq => ?_)
  · have h := i_pos hq h
    exact w12_momentsBy_36 hG hRP F F _ _ _ h
  · have h := i_neg hq h
    have ⟨hg, h⟩ := g_gd h
    refine And.intro (inB_of hg) ?_
    exact w12_momentsBy_36 hG hRP F F _ _ _ h
set_option maxHeartbeats 4000000 in
set_option maxRecDepth 20000 in
theorem w12_order_153 {E : EnvT} {G : GT} {RP : Option AV → Mem → Prop} {i1 : Int32} {i2 : Int32} (hG : Cl E 213 9 tb_213 G RP) {r : Int32 × Mem} (hRP : RP (some (.int r.1, 0)) r.2) (F : Nat) {k102 : Int32 → Int32 → Int32 → Mem → Option (Int32 × Mem)} (hk102 : ∀ (x3 : Int32) (x4 : Int32) (x5 : Int32) (d6 : Option AV) (d7 : Option AV) (σ : Mem), k102 x3 x4 x5 σ = some r → G 102 [some (.ref 483, 12), some (.int i1, 0), some (.int i2, 0), some (.int x3, 0), some (.int x4, 0), some (.int x5, 0), d6, d7] [] σ) : ∀ (n : Nat) (x3 : Int32) (x4 : Int32) (x5 : Int32) (x7 : Int32) (d6 : Option AV) (σ : Mem), m12_order_153 F i1 i2 k102 n x3 x4 x5 x7 σ = some r → G 153 [some (.ref 483, 12), some (.int i1, 0), some (.int i2, 0), some (.int x3, 0), some (.int x4, 0), some (.int x5, 0), d6, some (.int x7, 0)] [] σ := by
  intro n
  induction n with
  | zero => intro x3 x4 x5 x7 d6 σ h; unfold m12_order_153 at h; cases h
  | succ n ih =>
    intro x3 x4 x5 x7 d6 σ h
    refine bk hG (cut := [27, 102, 153]) 400 ?_
    unfold m12_order_153 at h
    refine And.intro (fun hq => ?_) (fun hq => ?_)
    · have h := i_pos hq h
      exact hk102 _ _ _ _ _ _ h
    · have h := i_neg hq h
      have ⟨hg, h⟩ := g_gd h
      refine And.intro (inB_of hg) ?_
      have ⟨hg, h⟩ := g_gd h
      refine And.intro (inB_of hg) ?_
      exact ih _ _ _ _ _ _ h
set_option maxHeartbeats 4000000 in
set_option maxRecDepth 20000 in
theorem w12_order_102 {E : EnvT} {G : GT} {RP : Option AV → Mem → Prop} {i1 : Int32} {i2 : Int32} (hG : Cl E 213 9 tb_213 G RP) {r : Int32 × Mem} (hRP : RP (some (.int r.1, 0)) r.2) (F : Nat) : ∀ (n : Nat) (x3 : Int32) (x4 : Int32) (x5 : Int32) (d6 : Option AV) (d7 : Option AV) (σ : Mem), m12_order_102 F i1 i2 n x3 x4 x5 σ = some r → G 102 [some (.ref 483, 12), some (.int i1, 0), some (.int i2, 0), some (.int x3, 0), some (.int x4, 0), some (.int x5, 0), d6, d7] [] σ := by
  intro n
  induction n with
  | zero => intro x3 x4 x5 d6 d7 σ h; unfold m12_order_102 at h; cases h
  | succ n ih =>
    intro x3 x4 x5 d6 d7 σ h
    refine bk hG (cut := [27, 102, 153]) 400 ?_
    unfold m12_order_102 at h
    have ⟨_, hc, h⟩ := b_some h
    refine Exists.intro _ (Exists.intro _ (Exists.intro _ (And.intro (c12_orders F _ _ hc) (And.intro (by decide) ?_))))
    refine And.intro (fun hq => ?_) (fun hq => ?_)
    · have h := i_pos hq h
      refine And.intro (fun hq => ?_) (fun hq => ?_)
      · have h := i_pos hq h
        have e := Option.some.inj h
        subst e
        exact hRP
      · have h := i_neg hq h
        refine And.intro (fun hq => ?_) (fun hq => ?_)
        · have h := i_pos hq h
          refine And.intro (fun hq => ?_) (fun hq => ?_)
          · have h := i_pos hq h
            have ⟨hg, h⟩ := g_gd h
            refine And.intro (inB_of hg) ?_
            have e := Option.some.inj h
            subst e
            exact hRP
          · have h := i_neg hq h
            have ⟨hg, h⟩ := g_gd h
            refine And.intro (inB_of hg) ?_
            have e := Option.some.inj h
            subst e
            exact hRP
        · have h := i_neg hq h
          have e := Option.some.inj h
          subst e
          exact hRP
    · have h := i_neg hq h
      have ⟨_, hc, h⟩ := b_some h
      refine Exists.intro _ (Exists.intro _ (Exists.intro _ (And.intro (c12_laysOrder F _ _ _ hc) (And.intro (by decide) (And.intro (fun q => absurd q (by decide)) ?_)))))
      have ⟨_, hc, h⟩ := b_some h
      refine Exists.intro _ (Exists.intro _ (Exists.intro _ (And.intro (c12_momentsBy F _ _ _ hc) (And.intro (by decide) (And.intro (fun q => absurd q (by decide)) ?_)))))
      refine And.intro (fun hq => ?_) (fun hq => ?_)
      · have h := i_pos hq h
        exact ih _ _ _ _ _ _ h
      · have h := i_neg hq h
        refine And.intro (fun hq => ?_) (fun hq => ?_)
        · have h := i_pos hq h
          exact w12_order_153 hG hRP F (fun _ _ _ _ _ _ h => ih _ _ _ _ _ _ h) F _ _ _ _ _ _ h
        · have h := i_neg hq h
          refine And.intro (fun hq => ?_) (fun hq => ?_)
          · have h := i_pos hq h
            exact w12_order_153 hG hRP F (fun _ _ _ _ _ _ h => ih _ _ _ _ _ _ h) F _ _ _ _ _ _ h
          · have h := i_neg hq h
            exact ih _ _ _ _ _ _ h
set_option maxHeartbeats 4000000 in
set_option maxRecDepth 20000 in
theorem w12_order_27 {E : EnvT} {G : GT} {RP : Option AV → Mem → Prop} {i1 : Int32} {i2 : Int32} (hG : Cl E 213 9 tb_213 G RP) {r : Int32 × Mem} (hRP : RP (some (.int r.1, 0)) r.2) (F : Nat) : ∀ (n : Nat) (x3 : Int32) (x4 : Int32) (d5 : Option AV) (d6 : Option AV) (d7 : Option AV) (σ : Mem), m12_order_27 F i1 i2 n x3 x4 σ = some r → G 27 [some (.ref 483, 12), some (.int i1, 0), some (.int i2, 0), some (.int x3, 0), some (.int x4, 0), d5, d6, d7] [] σ := by
  intro n
  induction n with
  | zero => intro x3 x4 d5 d6 d7 σ h; unfold m12_order_27 at h; cases h
  | succ n ih =>
    intro x3 x4 d5 d6 d7 σ h
    refine bk hG (cut := [27, 102, 153]) 400 ?_
    unfold m12_order_27 at h
    have ⟨hg, h⟩ := g_gd h
    refine And.intro (inB_of hg) ?_
    refine And.intro (fun hq => ?_) (fun hq => ?_)
    · have h := i_pos hq h
      refine And.intro (fun hq => ?_) (fun hq => ?_)
      · have h := i_pos hq h
        refine And.intro (fun hq => ?_) (fun hq => ?_)
        · have h := i_pos hq h
          refine And.intro (fun hq => ?_) (fun hq => ?_)
          · have h := i_pos hq h
            have ⟨hg, h⟩ := g_gd h
            refine And.intro (inB_of hg) ?_
            have e := Option.some.inj h
            subst e
            exact hRP
          · have h := i_neg hq h
            have e := Option.some.inj h
            subst e
            exact hRP
        · have h := i_neg hq h
          exact w12_order_102 hG hRP F F _ _ _ _ _ _ h
      · have h := i_neg hq h
        have e := Option.some.inj h
        subst e
        exact hRP
    · have h := i_neg hq h
      have ⟨_, hc, h⟩ := b_some h
      refine Exists.intro _ (Exists.intro _ (Exists.intro _ (And.intro (c12_isOpen F _ _ _ hc) (And.intro (by decide) (And.intro (fun q => absurd q (by decide)) ?_)))))
      refine And.intro (fun hq => ?_) (fun hq => ?_)
      · have h := i_pos hq h
        exact ih _ _ _ _ _ _ h
      · have h := i_neg hq h
        have ⟨hg, h⟩ := g_gd h
        refine And.intro (inB_of hg) ?_
        exact ih _ _ _ _ _ _ h
set_option maxHeartbeats 4000000 in
set_option maxRecDepth 20000 in
theorem c12_order {E : EnvT} (F : Nat) (i1 : Int32) (i2 : Int32) (σ : Mem) {r : Int32 × Mem} (h : m12_order F i1 i2 σ = some r) : MetAt E 9 213 [(.ref 483, 12), (.int i1, 0), (.int i2, 0)] σ (some (.int r.1, 0)) r.2 := by
  unfold m12_order at h
  refine MetAt_of (tb := tb_213) (by decide) tbok_213 (Nat.le_of_ble_eq_true rfl) (fun a q => by cases q; trivial) (fun G hG => ?_)
  have hRP : (fun (a : Option AV) (τ : Mem) => a.map (conc E) = ((some (.int r.1, 0)) : Option AV).map (conc E) ∧ τ = r.2) (some (.int r.1, 0)) r.2 := ⟨rfl, rfl⟩
  change G 0 [some (.ref 483, 12), some (.int i1, 0), some (.int i2, 0), none, none, none, none, none] [] σ
  refine bk hG (cut := [27, 102, 153]) 400 ?_
  have ⟨_, hc, h⟩ := b_some h
  refine Exists.intro _ (Exists.intro _ (Exists.intro _ (And.intro (c12_isSmith F _ _ hc) (And.intro (by decide) (And.intro (fun q => absurd q (by decide)) ?_)))))
  refine And.intro (fun hq => ?_) (fun hq => ?_)
  · have h := i_pos hq h
    have e := Option.some.inj h
    subst e
    exact hRP
  · have h := i_neg hq h
    have ⟨_, hc, h⟩ := b_some h
    refine Exists.intro _ (Exists.intro _ (Exists.intro _ (And.intro (c12_in F _ _ _ _ hc) (And.intro (by decide) ?_))))
    refine And.intro (fun hq => ?_) (fun hq => ?_)
    · have h := i_pos hq h
      have e := Option.some.inj h
      subst e
      exact hRP
    · have h := i_neg hq h
      exact w12_order_27 hG hRP F F _ _ _ _ _ _ h
set_option maxHeartbeats 4000000 in
set_option maxRecDepth 20000 in
theorem c12_note {E : EnvT} (F : Nat) (i1 : Int32) (i2 : Int32) (i3 : Int32) (σ : Mem) {r : Int32 × Mem} (h : m12_note F i1 i2 i3 σ = some r) : MetAt E 1 214 [(.ref 483, 12), (.int i1, 0), (.int i2, 0), (.int i3, 0)] σ (some (.int r.1, 0)) r.2 := by
  unfold m12_note at h
  refine MetAt_of (tb := tb_214) (by decide) tbok_214 (Nat.le_of_ble_eq_true rfl) (fun a q => by cases q; trivial) (fun G hG => ?_)
  have hRP : (fun (a : Option AV) (τ : Mem) => a.map (conc E) = ((some (.int r.1, 0)) : Option AV).map (conc E) ∧ τ = r.2) (some (.int r.1, 0)) r.2 := ⟨rfl, rfl⟩
  change G 0 [some (.ref 483, 12), some (.int i1, 0), some (.int i2, 0), some (.int i3, 0), none] [] σ
  refine bk hG (cut := []) 400 ?_
  refine And.intro (fun hq => ?_) (fun hq => ?_)
  · have h := i_pos hq h
    have ⟨hg, h⟩ := g_gd h
    refine And.intro (inB_of hg) ?_
    have e := Option.some.inj h
    subst e
    exact hRP
  · have h := i_neg hq h
    have ⟨_, hc, h⟩ := b_some h
    refine Exists.intro _ (Exists.intro _ (Exists.intro _ (And.intro (c12_isSmithy F _ hc) (And.intro (by decide) (And.intro (fun q => absurd q (by decide)) ?_)))))
    refine And.intro (fun hq => ?_) (fun hq => ?_)
    · have h := i_pos hq h
      have e := Option.some.inj h
      subst e
      exact hRP
    · have h := i_neg hq h
      have ⟨_, hc, h⟩ := b_some h
      refine Exists.intro _ (Exists.intro _ (Exists.intro _ (And.intro (c12_in F _ _ _ _ hc) (And.intro (by decide) ?_))))
      refine And.intro (fun hq => ?_) (fun hq => ?_)
      · have h := i_pos hq h
        have e := Option.some.inj h
        subst e
        exact hRP
      · have h := i_neg hq h
        have ⟨_, hc, h⟩ := b_some h
        refine Exists.intro _ (Exists.intro _ (Exists.intro _ (And.intro (c12_in F _ _ _ _ hc) (And.intro (by decide) ?_))))
        refine And.intro (fun hq => ?_) (fun hq => ?_)
        · have h := i_pos hq h
          have e := Option.some.inj h
          subst e
          exact hRP
        · have h := i_neg hq h
          have ⟨_, hc, h⟩ := b_some h
          refine Exists.intro _ (Exists.intro _ (Exists.intro _ (And.intro (c12_in F _ _ _ _ hc) (And.intro (by decide) ?_))))
          refine And.intro (fun hq => ?_) (fun hq => ?_)
          · have h := i_pos hq h
            have e := Option.some.inj h
            subst e
            exact hRP
          · have h := i_neg hq h
            have ⟨hg, h⟩ := g_gd h
            refine And.intro (inB_of hg) ?_
            refine And.intro (fun hq => ?_) (fun hq => ?_)
            · have h := i_pos hq h
              have e := Option.some.inj h
              subst e
              exact hRP
            · have h := i_neg hq h
              have ⟨hg, h⟩ := g_gd h
              refine And.intro (inB_of hg) ?_
              have ⟨hg, h⟩ := g_gd h
              refine And.intro (inB_of hg) ?_
              have ⟨hg, h⟩ := g_gd h
              refine And.intro (inB_of hg) ?_
              have ⟨hg, h⟩ := g_gd h
              refine And.intro (inB_of hg) ?_
              have ⟨hg, h⟩ := g_gd h
              refine And.intro (inB_of hg) ?_
              have ⟨hg, h⟩ := g_gd h
              refine And.intro (inB_of hg) ?_
              have ⟨hg, h⟩ := g_gd h
              refine And.intro (inB_of hg) ?_
              have e := Option.some.inj h
              subst e
              exact hRP
set_option maxHeartbeats 4000000 in
set_option maxRecDepth 20000 in
theorem w12_begins_123 {E : EnvT} {G : GT} {RP : Option AV → Mem → Prop} (hG : Cl E 215 0 tb_215 G RP) {r : Mem} (hRP : RP none r) (F : Nat) : ∀ (n : Nat) (x1 : Int32) (d2 : Option AV) (σ : Mem), m12_begins_123 F n x1 σ = some r → G 123 [some (.ref 483, 12), some (.int x1, 0), d2] [] σ := by
  intro n
  induction n with
  | zero => intro x1 d2 σ h; unfold m12_begins_123 at h; cases h
  | succ n ih =>
    intro x1 d2 σ h
    refine bk hG (cut := [9, 21, 61, 123]) 400 ?_
    unfold m12_begins_123 at h
    refine And.intro (fun hq => ?_) (fun hq => ?_)
    · have h := i_pos hq h
      have e := Option.some.inj h
      subst e
      exact hRP
    · have h := i_neg hq h
      have ⟨hg, h⟩ := g_gd h
      refine And.intro (inB_of hg) ?_
      have ⟨hg, h⟩ := g_gd h
      refine And.intro (inB_of hg) ?_
      exact ih _ _ _ h
set_option maxHeartbeats 4000000 in
set_option maxRecDepth 20000 in
theorem w12_begins_61 {E : EnvT} {G : GT} {RP : Option AV → Mem → Prop} (hG : Cl E 215 0 tb_215 G RP) {r : Mem} (hRP : RP none r) (F : Nat) : ∀ (n : Nat) (x1 : Int32) (d2 : Option AV) (σ : Mem), m12_begins_61 F n x1 σ = some r → G 61 [some (.ref 483, 12), some (.int x1, 0), d2] [] σ := by
  intro n
  induction n with
  | zero => intro x1 d2 σ h; unfold m12_begins_61 at h; cases h
  | succ n ih =>
    intro x1 d2 σ h
    refine bk hG (cut := [9, 21, 61, 123]) 400 ?_
    unfold m12_begins_61 at h
    have ⟨hg, h⟩ := g_gd h
    refine And.intro (inB_of hg) ?_
    refine And.intro (fun hq => ?_) (fun hq => ?_)
    · have h := i_pos hq h
      exact w12_begins_123 hG hRP F F _ _ _ h
    · have h := i_neg hq h
      have ⟨hg, h⟩ := g_gd h
      refine And.intro (inB_of hg) ?_
      have ⟨hg, h⟩ := g_gd h
      refine And.intro (inB_of hg) ?_
      have ⟨hg, h⟩ := g_gd h
      refine And.intro (inB_of hg) ?_
      have ⟨hg, h⟩ := g_gd h
      refine And.intro (inB_of hg) ?_
      exact ih _ _ _ h
set_option maxHeartbeats 4000000 in
set_option maxRecDepth 20000 in
theorem w12_begins_21 {E : EnvT} {G : GT} {RP : Option AV → Mem → Prop} (hG : Cl E 215 0 tb_215 G RP) {r : Mem} (hRP : RP none r) (F : Nat) {k9 : Int32 → Mem → Option (Mem)} (hk9 : ∀ (x1 : Int32) (d2 : Option AV) (σ : Mem), k9 x1 σ = some r → G 9 [some (.ref 483, 12), some (.int x1, 0), d2] [] σ) : ∀ (n : Nat) (x1 : Int32) (x2 : Int32) (σ : Mem), m12_begins_21 F k9 n x1 x2 σ = some r → G 21 [some (.ref 483, 12), some (.int x1, 0), some (.int x2, 0)] [] σ := by
  intro n
  induction n with
  | zero => intro x1 x2 σ h; unfold m12_begins_21 at h; cases h
  | succ n ih =>
    intro x1 x2 σ h
    refine bk hG (cut := [9, 21, 61, 123]) 400 ?_
    unfold m12_begins_21 at h
    refine And.intro (fun hq => ?_) (fun hq => ?_)
    · have h := i_pos hq h
      exact hk9 _ _ _ h
    · have h := i_neg hq h
      refine And.intro (fun hq => ?_) (fun hq => ?_)
      · have h := i_pos hq h
        exact ih _ _ _ h
      · have h := i_neg hq h
        have ⟨hg, h⟩ := g_gd h
        refine And.intro (inB_of hg) ?_
        exact ih _ _ _ h
set_option maxHeartbeats 4000000 in
set_option maxRecDepth 20000 in
theorem w12_begins_9 {E : EnvT} {G : GT} {RP : Option AV → Mem → Prop} (hG : Cl E 215 0 tb_215 G RP) {r : Mem} (hRP : RP none r) (F : Nat) : ∀ (n : Nat) (x1 : Int32) (d2 : Option AV) (σ : Mem), m12_begins_9 F n x1 σ = some r → G 9 [some (.ref 483, 12), some (.int x1, 0), d2] [] σ := by
  intro n
  induction n with
  | zero => intro x1 d2 σ h; unfold m12_begins_9 at h; cases h
  | succ n ih =>
    intro x1 d2 σ h
    refine bk hG (cut := [9, 21, 61, 123]) 400 ?_
    unfold m12_begins_9 at h
    have ⟨hg, h⟩ := g_gd h
    refine And.intro (inB_of hg) ?_
    refine And.intro (fun hq => ?_) (fun hq => ?_)
    · have h := i_pos hq h
      exact w12_begins_61 hG hRP F F _ _ _ h
    · have h := i_neg hq h
      exact w12_begins_21 hG hRP F (fun _ _ _ h => ih _ _ _ h) F _ _ _ h
set_option maxHeartbeats 4000000 in
set_option maxRecDepth 20000 in
theorem c12_begins {E : EnvT} (F : Nat)  (σ : Mem) {r : Mem} (h : m12_begins F σ = some r) : MetAt E 0 215 [(.ref 483, 12)] σ none r := by
  unfold m12_begins at h
  refine MetAt_of (tb := tb_215) (by decide) tbok_215 (Nat.le_of_ble_eq_true rfl) (fun a q => by cases q) (fun G hG => ?_)
  have hRP : (fun (a : Option AV) (τ : Mem) => a.map (conc E) = (none : Option AV).map (conc E) ∧ τ = r) none r := ⟨rfl, rfl⟩
  change G 0 [some (.ref 483, 12), none, none] [] σ
  refine bk hG (cut := [9, 21, 61, 123]) 400 ?_
  have ⟨hg, h⟩ := g_gd h
  refine And.intro (inB_of hg) ?_
  exact w12_begins_9 hG hRP F F _ _ _ h
set_option maxHeartbeats 4000000 in
set_option maxRecDepth 20000 in
theorem w12_areNotesSo_2 {E : EnvT} {G : GT} {RP : Option AV → Mem → Prop} {σ : Mem} (hG : Cl E 216 0 tb_216 G RP) {r : Int32} (hRP : RP (some (.int r, 0)) σ) (F : Nat) : ∀ (n : Nat) (x1 : Int32) (d2 : Option AV), m12_areNotesSo_2 F σ n x1 = some r → G 2 [some (.ref 483, 12), some (.int x1, 0), d2] [] σ := by
  intro n
  induction n with
  | zero => intro x1 d2 h; unfold m12_areNotesSo_2 at h; cases h
  | succ n ih =>
    intro x1 d2 h
    refine bk hG (cut := [2]) 400 ?_
    unfold m12_areNotesSo_2 at h
    have ⟨hg, h⟩ := g_gd h
    refine And.intro (inB_of hg) ?_
    refine And.intro (fun hq => ?_) (fun hq => ?_)
    · have h := i_pos hq h
      have e := Option.some.inj h
      subst e
      exact And.intro (Or.inr rfl) hRP
    · have h := i_neg hq h
      have ⟨hg, h⟩ := g_gd h
      refine And.intro (inB_of hg) ?_
      have ⟨hg, h⟩ := g_gd h
      refine And.intro (inB_of hg) ?_
      refine And.intro (fun hq => ?_) (fun hq => ?_)
      · have h := i_pos hq h
        have ⟨hg, h⟩ := g_gd h
        refine And.intro (inB_of hg) ?_
        have ⟨hg, h⟩ := g_gd h
        refine And.intro (inB_of hg) ?_
        have ⟨hg, h⟩ := g_gd h
        refine And.intro (inB_of hg) ?_
        refine And.intro (fun hq => ?_) (fun hq => ?_)
        · have h := i_pos hq h
          exact ih _ _ h
        · have h := i_neg hq h
          have e := Option.some.inj h
          subst e
          exact And.intro (Or.inl rfl) hRP
      · have h := i_neg hq h
        exact ih _ _ h
set_option maxHeartbeats 4000000 in
set_option maxRecDepth 20000 in
theorem c12_areNotesSo {E : EnvT} (F : Nat)  (σ : Mem) {r : Int32} (h : m12_areNotesSo F σ = some r) : MetAt E 0 216 [(.ref 483, 12)] σ (some (.int r, 0)) σ := by
  unfold m12_areNotesSo at h
  refine MetAt_of (tb := tb_216) (by decide) tbok_216 (Nat.le_of_ble_eq_true rfl) (fun a q => by cases q; trivial) (fun G hG => ?_)
  have hRP : (fun (a : Option AV) (τ : Mem) => a.map (conc E) = ((some (.int r, 0)) : Option AV).map (conc E) ∧ τ = σ) (some (.int r, 0)) σ := ⟨rfl, rfl⟩
  change G 0 [some (.ref 483, 12), none, none] [] σ
  refine bk hG (cut := [2]) 400 ?_
  exact w12_areNotesSo_2 hG hRP F F _ _ h
set_option maxHeartbeats 4000000 in
set_option maxRecDepth 20000 in
theorem w12_gathersRules_116 {E : EnvT} {G : GT} {RP : Option AV → Mem → Prop} {i1 : Int32} (hG : Cl E 217 8 tb_217 G RP) {r : Mem} (hRP : RP none r) (F : Nat) {k40 : Int32 → Int32 → Int32 → Mem → Option (Mem)} (hk40 : ∀ (x2 : Int32) (x3 : Int32) (x4 : Int32) (d5 : Option AV) (σ : Mem), k40 x2 x3 x4 σ = some r → G 40 [some (.ref 483, 12), some (.int i1, 0), some (.int x2, 0), some (.int x3, 0), some (.int x4, 0), d5] [] σ) : ∀ (x2 : Int32) (x3 : Int32) (x4 : Int32) (d5 : Option AV) (σ : Mem), m12_gathersRules_116 F i1 k40 x2 x3 x4 σ = some r → G 116 [some (.ref 483, 12), some (.int i1, 0), some (.int x2, 0), some (.int x3, 0), some (.int x4, 0), d5] [] σ := by
  intro x2 x3 x4 d5 σ h
  refine bk hG (cut := [11, 40, 77, 116]) 400 ?_
  unfold m12_gathersRules_116 at h
  have ⟨_, hc, h⟩ := b_some h
  refine Exists.intro _ (Exists.intro _ (Exists.intro _ (And.intro (c12_passes F _ hc) (And.intro (by decide) (And.intro (fun q => absurd q (by decide)) ?_)))))
  exact hk40 _ _ _ _ _ h
set_option maxHeartbeats 4000000 in
set_option maxRecDepth 20000 in
theorem w12_gathersRules_77 {E : EnvT} {G : GT} {RP : Option AV → Mem → Prop} {i1 : Int32} (hG : Cl E 217 8 tb_217 G RP) {r : Mem} (hRP : RP none r) (F : Nat) {k40 : Int32 → Int32 → Int32 → Mem → Option (Mem)} (hk40 : ∀ (x2 : Int32) (x3 : Int32) (x4 : Int32) (d5 : Option AV) (σ : Mem), k40 x2 x3 x4 σ = some r → G 40 [some (.ref 483, 12), some (.int i1, 0), some (.int x2, 0), some (.int x3, 0), some (.int x4, 0), d5] [] σ) : ∀ (n : Nat) (x2 : Int32) (x3 : Int32) (x4 : Int32) (x5 : Int32) (σ : Mem), m12_gathersRules_77 F i1 k40 n x2 x3 x4 x5 σ = some r → G 77 [some (.ref 483, 12), some (.int i1, 0), some (.int x2, 0), some (.int x3, 0), some (.int x4, 0), some (.int x5, 0)] [] σ := by
  intro n
  induction n with
  | zero => intro x2 x3 x4 x5 σ h; unfold m12_gathersRules_77 at h; cases h
  | succ n ih =>
    intro x2 x3 x4 x5 σ h
    refine bk hG (cut := [11, 40, 77, 116]) 400 ?_
    unfold m12_gathersRules_77 at h
    refine And.intro (fun hq => ?_) (fun hq => ?_)
    · have h := i_pos hq h
      exact w12_gathersRules_116 hG hRP F (fun _ _ _ _ _ h => hk40 _ _ _ _ _ h) _ _ _ _ _ h
    · have h := i_neg hq h
      refine And.intro (fun hq => ?_) (fun hq => ?_)
      · have h := i_pos hq h
        have ⟨hg, h⟩ := g_gd h
        refine And.intro (inB_of hg) ?_
        have ⟨hg, h⟩ := g_gd h
        refine And.intro (inB_of hg) ?_
        exact ih _ _ _ _ _ h
      · have h := i_neg hq h
        exact w12_gathersRules_116 hG hRP F (fun _ _ _ _ _ h => hk40 _ _ _ _ _ h) _ _ _ _ _ h
set_option maxHeartbeats 4000000 in
set_option maxRecDepth 20000 in
theorem w12_gathersRules_40 {E : EnvT} {G : GT} {RP : Option AV → Mem → Prop} {i1 : Int32} (hG : Cl E 217 8 tb_217 G RP) {r : Mem} (hRP : RP none r) (F : Nat) {k11 : Int32 → Int32 → Mem → Option (Mem)} (hk11 : ∀ (x2 : Int32) (x3 : Int32) (d4 : Option AV) (d5 : Option AV) (σ : Mem), k11 x2 x3 σ = some r → G 11 [some (.ref 483, 12), some (.int i1, 0), some (.int x2, 0), some (.int x3, 0), d4, d5] [] σ) : ∀ (n : Nat) (x2 : Int32) (x3 : Int32) (x4 : Int32) (d5 : Option AV) (σ : Mem), m12_gathersRules_40 F i1 k11 n x2 x3 x4 σ = some r → G 40 [some (.ref 483, 12), some (.int i1, 0), some (.int x2, 0), some (.int x3, 0), some (.int x4, 0), d5] [] σ := by
  intro n
  induction n with
  | zero => intro x2 x3 x4 d5 σ h; unfold m12_gathersRules_40 at h; cases h
  | succ n ih =>
    intro x2 x3 x4 d5 σ h
    refine bk hG (cut := [11, 40, 77, 116]) 400 ?_
    unfold m12_gathersRules_40 at h
    refine And.intro (fun hq => ?_) (fun hq => ?_)
    · have h := i_pos hq h
      have ⟨_, hc, h⟩ := b_some h
      refine Exists.intro _ (Exists.intro _ (Exists.intro _ (And.intro (c12_laysBack F _ hc) (And.intro (by decide) (And.intro (fun q => absurd q (by decide)) ?_)))))
      exact hk11 _ _ _ _ _ h
    · have h := i_neg hq h
      have ⟨hg, h⟩ := g_gd h
      refine And.intro (inB_of hg) ?_
      refine And.intro (fun hq => ?_) (fun hq => ?_)
      · have h := i_pos hq h
        have ⟨hg, h⟩ := g_gd h
        refine And.intro (inB_of hg) ?_
        exact w12_gathersRules_77 hG hRP F (fun _ _ _ _ _ h => ih _ _ _ _ _ h) F _ _ _ _ _ h
      · have h := i_neg hq h
        have ⟨_, hc, h⟩ := b_some h
        refine Exists.intro _ (Exists.intro _ (Exists.intro _ (And.intro (c12_areNotesSo F _ hc) (And.intro (by decide) (And.intro (fun q => absurd q (by decide)) ?_)))))
        refine And.intro (fun hq => ?_) (fun hq => ?_)
        · have h := i_pos hq h
          have ⟨hg, h⟩ := g_gd h
          refine And.intro (inB_of hg) ?_
          exact w12_gathersRules_77 hG hRP F (fun _ _ _ _ _ h => ih _ _ _ _ _ h) F _ _ _ _ _ h
        · have h := i_neg hq h
          have ⟨hg, h⟩ := g_gd h
          refine And.intro (inB_of hg) ?_
          exact w12_gathersRules_77 hG hRP F (fun _ _ _ _ _ h => ih _ _ _ _ _ h) F _ _ _ _ _ h
set_option maxHeartbeats 4000000 in
set_option maxRecDepth 20000 in
theorem w12_gathersRules_11 {E : EnvT} {G : GT} {RP : Option AV → Mem → Prop} {i1 : Int32} (hG : Cl E 217 8 tb_217 G RP) {r : Mem} (hRP : RP none r) (F : Nat) : ∀ (n : Nat) (x2 : Int32) (x3 : Int32) (d4 : Option AV) (d5 : Option AV) (σ : Mem), m12_gathersRules_11 F i1 n x2 x3 σ = some r → G 11 [some (.ref 483, 12), some (.int i1, 0), some (.int x2, 0), some (.int x3, 0), d4, d5] [] σ := by
  intro n
  induction n with
  | zero => intro x2 x3 d4 d5 σ h; unfold m12_gathersRules_11 at h; cases h
  | succ n ih =>
    intro x2 x3 d4 d5 σ h
    refine bk hG (cut := [11, 40, 77, 116]) 400 ?_
    unfold m12_gathersRules_11 at h
    refine And.intro (fun hq => ?_) (fun hq => ?_)
    · have h := i_pos hq h
      have e := Option.some.inj h
      subst e
      exact hRP
    · have h := i_neg hq h
      have ⟨_, hc, h⟩ := b_some h
      refine Exists.intro _ (Exists.intro _ (Exists.intro _ (And.intro (c12_begins F _ hc) (And.intro (by decide) (And.intro (fun q => absurd q (by decide)) ?_)))))
      have ⟨hg, h⟩ := g_gd h
      refine And.intro (inB_of hg) ?_
      exact w12_gathersRules_40 hG hRP F (fun _ _ _ _ _ h => ih _ _ _ _ _ h) F _ _ _ _ _ h
set_option maxHeartbeats 4000000 in
set_option maxRecDepth 20000 in
theorem c12_gathersRules {E : EnvT} (F : Nat) (i1 : Int32) (σ : Mem) {r : Mem} (h : m12_gathersRules F i1 σ = some r) : MetAt E 8 217 [(.ref 483, 12), (.int i1, 0)] σ none r := by
  unfold m12_gathersRules at h
  refine MetAt_of (tb := tb_217) (by decide) tbok_217 (Nat.le_of_ble_eq_true rfl) (fun a q => by cases q) (fun G hG => ?_)
  have hRP : (fun (a : Option AV) (τ : Mem) => a.map (conc E) = (none : Option AV).map (conc E) ∧ τ = r) none r := ⟨rfl, rfl⟩
  change G 0 [some (.ref 483, 12), some (.int i1, 0), none, none, none, none] [] σ
  refine bk hG (cut := [11, 40, 77, 116]) 400 ?_
  have ⟨_, hc, h⟩ := b_some h
  refine Exists.intro _ (Exists.intro _ (Exists.intro _ (And.intro (c12_keeps F _ hc) (And.intro (by decide) (And.intro (fun q => absurd q (by decide)) ?_)))))
  exact w12_gathersRules_11 hG hRP F F _ _ _ _ _ h
set_option maxHeartbeats 4000000 in
set_option maxRecDepth 20000 in
theorem w12_ruled_36 {E : EnvT} {G : GT} {RP : Option AV → Mem → Prop} {i1 : Int32} (hG : Cl E 218 9 tb_218 G RP) {r : Int32 × Mem} (hRP : RP (some (.int r.1, 0)) r.2) (F : Nat) : ∀ (n : Nat) (x2 : Int32) (x3 : Int32) (x4 : Int32) (σ : Mem), m12_ruled_36 F i1 n x2 x3 x4 σ = some r → G 36 [some (.ref 483, 12), some (.int i1, 0), some (.int x2, 0), some (.int x3, 0), some (.int x4, 0)] [] σ := by
  intro n
  induction n with
  | zero => intro x2 x3 x4 σ h; unfold m12_ruled_36 at h; cases h
  | succ n ih =>
    intro x2 x3 x4 σ h
    refine bk hG (cut := [36]) 400 ?_
    unfold m12_ruled_36 at h
    refine And.intro (fun hq => ?_) (fun hq => ?_)
    · have h := i_pos hq h
      refine And.intro (fun hq => ?_) (fun hq => ?_)
      · have h := i_pos hq h
        have e := Option.some.inj h
        subst e
        exact hRP
      · have h := i_neg hq h
        have e := Option.some.inj h
        subst e
        exact hRP
    · have h := i_neg hq h
      have ⟨hg, h⟩ := g_gd h
      refine And.intro (inB_of hg) ?_
      refine And.intro (fun hq => ?_) (fun hq => ?_)
      · have h := i_pos hq h
        exact ih _ _ _ _ h
      · have h := i_neg hq h
        exact ih _ _ _ _ h
set_option maxHeartbeats 4000000 in
set_option maxRecDepth 20000 in
theorem c12_ruled {E : EnvT} (F : Nat) (i1 : Int32) (σ : Mem) {r : Int32 × Mem} (h : m12_ruled F i1 σ = some r) : MetAt E 9 218 [(.ref 483, 12), (.int i1, 0)] σ (some (.int r.1, 0)) r.2 := by
  unfold m12_ruled at h
  refine MetAt_of (tb := tb_218) (by decide) tbok_218 (Nat.le_of_ble_eq_true rfl) (fun a q => by cases q; trivial) (fun G hG => ?_)
  have hRP : (fun (a : Option AV) (τ : Mem) => a.map (conc E) = ((some (.int r.1, 0)) : Option AV).map (conc E) ∧ τ = r.2) (some (.int r.1, 0)) r.2 := ⟨rfl, rfl⟩
  change G 0 [some (.ref 483, 12), some (.int i1, 0), none, none, none] [] σ
  refine bk hG (cut := [36]) 400 ?_
  have ⟨_, hc, h⟩ := b_some h
  refine Exists.intro _ (Exists.intro _ (Exists.intro _ (And.intro (c12_isSmithy F _ hc) (And.intro (by decide) (And.intro (fun q => absurd q (by decide)) ?_)))))
  refine And.intro (fun hq => ?_) (fun hq => ?_)
  · have h := i_pos hq h
    have e := Option.some.inj h
    subst e
    exact hRP
  · have h := i_neg hq h
    have ⟨_, hc, h⟩ := b_some h
    refine Exists.intro _ (Exists.intro _ (Exists.intro _ (And.intro (c12_in F _ _ _ _ hc) (And.intro (by decide) ?_))))
    refine And.intro (fun hq => ?_) (fun hq => ?_)
    · have h := i_pos hq h
      have e := Option.some.inj h
      subst e
      exact hRP
    · have h := i_neg hq h
      have ⟨_, hc, h⟩ := b_some h
      refine Exists.intro _ (Exists.intro _ (Exists.intro _ (And.intro (c12_gathersRules F _ _ hc) (And.intro (by decide) (And.intro (fun q => absurd q (by decide)) ?_)))))
      exact w12_ruled_36 hG hRP F F _ _ _ _ h
set_option maxHeartbeats 4000000 in
set_option maxRecDepth 20000 in
theorem w12_alikeOf_18 {E : EnvT} {G : GT} {RP : Option AV → Mem → Prop} {i1 : Int32} {σ : Mem} (hG : Cl E 219 0 tb_219 G RP) {r : Int32} (hRP : RP (some (.int r, 0)) σ) (F : Nat) {k4 : Int32 → Int32 → Option (Int32)} (hk4 : ∀ (x2 : Int32) (x3 : Int32) (d4 : Option AV) (d5 : Option AV), k4 x2 x3 = some r → G 4 [some (.ref 483, 12), some (.int i1, 0), some (.int x2, 0), some (.int x3, 0), d4, d5] [] σ) : ∀ (n : Nat) (x2 : Int32) (x3 : Int32) (x4 : Int32) (x5 : Int32), m12_alikeOf_18 F i1 σ k4 n x2 x3 x4 x5 = some r → G 18 [some (.ref 483, 12), some (.int i1, 0), some (.int x2, 0), some (.int x3, 0), some (.int x4, 0), some (.int x5, 0)] [] σ := by
  intro n
  induction n with
  | zero => intro x2 x3 x4 x5 h; unfold m12_alikeOf_18 at h; cases h
  | succ n ih =>
    intro x2 x3 x4 x5 h
    refine bk hG (cut := [4, 18]) 400 ?_
    unfold m12_alikeOf_18 at h
    refine And.intro (fun hq => ?_) (fun hq => ?_)
    · have h := i_pos hq h
      refine And.intro (fun hq => ?_) (fun hq => ?_)
      · have h := i_pos hq h
        exact hk4 _ _ _ _ h
      · have h := i_neg hq h
        exact hk4 _ _ _ _ h
    · have h := i_neg hq h
      have ⟨hg, h⟩ := g_gd h
      refine And.intro (inB_of hg) ?_
      refine And.intro (fun hq => ?_) (fun hq => ?_)
      · have h := i_pos hq h
        exact ih _ _ _ _ h
      · have h := i_neg hq h
        have ⟨hg, h⟩ := g_gd h
        refine And.intro (inB_of hg) ?_
        refine And.intro (fun hq => ?_) (fun hq => ?_)
        · have h := i_pos hq h
          exact ih _ _ _ _ h
        · have h := i_neg hq h
          have ⟨hg, h⟩ := g_gd h
          refine And.intro (inB_of hg) ?_
          have ⟨hg, h⟩ := g_gd h
          refine And.intro (inB_of hg) ?_
          refine And.intro (fun hq => ?_) (fun hq => ?_)
          · have h := i_pos hq h
            exact ih _ _ _ _ h
          · have h := i_neg hq h
            exact ih _ _ _ _ h
set_option maxHeartbeats 4000000 in
set_option maxRecDepth 20000 in
theorem w12_alikeOf_4 {E : EnvT} {G : GT} {RP : Option AV → Mem → Prop} {i1 : Int32} {σ : Mem} (hG : Cl E 219 0 tb_219 G RP) {r : Int32} (hRP : RP (some (.int r, 0)) σ) (F : Nat) : ∀ (n : Nat) (x2 : Int32) (x3 : Int32) (d4 : Option AV) (d5 : Option AV), m12_alikeOf_4 F i1 σ n x2 x3 = some r → G 4 [some (.ref 483, 12), some (.int i1, 0), some (.int x2, 0), some (.int x3, 0), d4, d5] [] σ := by
  intro n
  induction n with
  | zero => intro x2 x3 d4 d5 h; unfold m12_alikeOf_4 at h; cases h
  | succ n ih =>
    intro x2 x3 d4 d5 h
    refine bk hG (cut := [4, 18]) 400 ?_
    unfold m12_alikeOf_4 at h
    refine And.intro (fun hq => ?_) (fun hq => ?_)
    · have h := i_pos hq h
      have e := Option.some.inj h
      subst e
      exact hRP
    · have h := i_neg hq h
      exact w12_alikeOf_18 hG hRP F (fun _ _ _ _ h => ih _ _ _ _ h) F _ _ _ _ h
set_option maxHeartbeats 4000000 in
set_option maxRecDepth 20000 in
theorem c12_alikeOf {E : EnvT} (F : Nat) (i1 : Int32) (σ : Mem) {r : Int32} (h : m12_alikeOf F i1 σ = some r) : MetAt E 0 219 [(.ref 483, 12), (.int i1, 0)] σ (some (.int r, 0)) σ := by
  unfold m12_alikeOf at h
  refine MetAt_of (tb := tb_219) (by decide) tbok_219 (Nat.le_of_ble_eq_true rfl) (fun a q => by cases q; trivial) (fun G hG => ?_)
  have hRP : (fun (a : Option AV) (τ : Mem) => a.map (conc E) = ((some (.int r, 0)) : Option AV).map (conc E) ∧ τ = σ) (some (.int r, 0)) σ := ⟨rfl, rfl⟩
  change G 0 [some (.ref 483, 12), some (.int i1, 0), none, none, none, none] [] σ
  refine bk hG (cut := [4, 18]) 400 ?_
  exact w12_alikeOf_4 hG hRP F F _ _ _ _ h
set_option maxHeartbeats 4000000 in
set_option maxRecDepth 20000 in
theorem w12_look_41 {E : EnvT} {G : GT} {RP : Option AV → Mem → Prop} {i1 : Int32} {i2 : Int32} (hG : Cl E 220 9 tb_220 G RP) {r : Int32 × Mem} (hRP : RP (some (.int r.1, 0)) r.2) (F : Nat) : ∀ (n : Nat) (x3 : Int32) (x4 : Int32) (σ : Mem), m12_look_41 F i1 i2 n x3 x4 σ = some r → G 41 [some (.ref 483, 12), some (.int i1, 0), some (.int i2, 0), some (.int x3, 0), some (.int x4, 0)] [] σ := by
  intro n
  induction n with
  | zero => intro x3 x4 σ h; unfold m12_look_41 at h; cases h
  | succ n ih =>
    intro x3 x4 σ h
    refine bk hG (cut := [41]) 400 ?_
    unfold m12_look_41 at h
    refine And.intro (fun hq => ?_) (fun hq => ?_)
    · have h := i_pos hq h
      have ⟨_, hc, h⟩ := b_some h
      refine Exists.intro _ (Exists.intro _ (Exists.intro _ (And.intro (c12_alikeOf F _ _ hc) (And.intro (by decide) (And.intro (fun q => absurd q (by decide)) ?_)))))
      refine And.intro (fun hq => ?_) (fun hq => ?_)
      · have h := i_pos hq h
        have e := Option.some.inj h
        subst e
        exact hRP
      · have h := i_neg hq h
        refine And.intro (fun hq => ?_) (fun hq => ?_)
        · have h := i_pos hq h
          have e := Option.some.inj h
          subst e
          exact hRP
        · have h := i_neg hq h
          have ⟨_, hc, h⟩ := b_some h
          refine Exists.intro _ (Exists.intro _ (Exists.intro _ (And.intro (c12_alikeOf F _ _ hc) (And.intro (by decide) (And.intro (fun q => absurd q (by decide)) ?_)))))
          have e := Option.some.inj h
          subst e
          exact hRP
    · have h := i_neg hq h
      have ⟨_, hc, h⟩ := b_some h
      refine Exists.intro _ (Exists.intro _ (Exists.intro _ (And.intro (c12_alikeOf F _ _ hc) (And.intro (by decide) (And.intro (fun q => absurd q (by decide)) ?_)))))
      have ⟨_, hc, h⟩ := b_some h
      refine Exists.intro _ (Exists.intro _ (Exists.intro _ (And.intro (c12_alikeOf F _ _ hc) (And.intro (by decide) (And.intro (fun q => absurd q (by decide)) ?_)))))
      refine And.intro (fun hq => ?_) (fun hq => ?_)
      · have h := i_pos hq h
        exact ih _ _ _ h
      · have h := i_neg hq h
        exact ih _ _ _ h
set_option maxHeartbeats 4000000 in
set_option maxRecDepth 20000 in
theorem c12_look {E : EnvT} (F : Nat) (i1 : Int32) (i2 : Int32) (σ : Mem) {r : Int32 × Mem} (h : m12_look F i1 i2 σ = some r) : MetAt E 9 220 [(.ref 483, 12), (.int i1, 0), (.int i2, 0)] σ (some (.int r.1, 0)) r.2 := by
  unfold m12_look at h
  refine MetAt_of (tb := tb_220) (by decide) tbok_220 (Nat.le_of_ble_eq_true rfl) (fun a q => by cases q; trivial) (fun G hG => ?_)
  have hRP : (fun (a : Option AV) (τ : Mem) => a.map (conc E) = ((some (.int r.1, 0)) : Option AV).map (conc E) ∧ τ = r.2) (some (.int r.1, 0)) r.2 := ⟨rfl, rfl⟩
  change G 0 [some (.ref 483, 12), some (.int i1, 0), some (.int i2, 0), none, none] [] σ
  refine bk hG (cut := [41]) 400 ?_
  have ⟨_, hc, h⟩ := b_some h
  refine Exists.intro _ (Exists.intro _ (Exists.intro _ (And.intro (c12_isSmithy F _ hc) (And.intro (by decide) (And.intro (fun q => absurd q (by decide)) ?_)))))
  refine And.intro (fun hq => ?_) (fun hq => ?_)
  · have h := i_pos hq h
    have e := Option.some.inj h
    subst e
    exact hRP
  · have h := i_neg hq h
    have ⟨_, hc, h⟩ := b_some h
    refine Exists.intro _ (Exists.intro _ (Exists.intro _ (And.intro (c12_in F _ _ _ _ hc) (And.intro (by decide) ?_))))
    refine And.intro (fun hq => ?_) (fun hq => ?_)
    · have h := i_pos hq h
      have e := Option.some.inj h
      subst e
      exact hRP
    · have h := i_neg hq h
      have ⟨_, hc, h⟩ := b_some h
      refine Exists.intro _ (Exists.intro _ (Exists.intro _ (And.intro (c12_in F _ _ _ _ hc) (And.intro (by decide) ?_))))
      refine And.intro (fun hq => ?_) (fun hq => ?_)
      · have h := i_pos hq h
        have e := Option.some.inj h
        subst e
        exact hRP
      · have h := i_neg hq h
        have ⟨_, hc, h⟩ := b_some h
        refine Exists.intro _ (Exists.intro _ (Exists.intro _ (And.intro (c12_gathersRules F _ _ hc) (And.intro (by decide) (And.intro (fun q => absurd q (by decide)) ?_)))))
        exact w12_look_41 hG hRP F F _ _ _ h
set_option maxHeartbeats 4000000 in
set_option maxRecDepth 20000 in
theorem w12_second_45 {E : EnvT} {G : GT} {RP : Option AV → Mem → Prop} (hG : Cl E 221 9 tb_221 G RP) {r : Int32 × Mem} (hRP : RP (some (.int r.1, 0)) r.2) (F : Nat) : ∀ (x2 : Int32) (s0 : Int32) (d1 : Option AV) (σ : Mem), m12_second_45 F x2 s0 σ = some r → G 45 [some (.ref 483, 12), d1, some (.int x2, 0)] [(.int s0, 0)] σ := by
  intro x2 s0 d1 σ h
  refine bk hG (cut := [45]) 400 ?_
  unfold m12_second_45 at h
  refine And.intro (fun hq => ?_) (fun hq => ?_)
  · have h := i_pos hq h
    have e := Option.some.inj h
    subst e
    exact hRP
  · have h := i_neg hq h
    have e := Option.some.inj h
    subst e
    exact hRP
set_option maxHeartbeats 4000000 in
set_option maxRecDepth 20000 in
theorem c12_second {E : EnvT} (F : Nat)  (σ : Mem) {r : Int32 × Mem} (h : m12_second F σ = some r) : MetAt E 9 221 [(.ref 483, 12)] σ (some (.int r.1, 0)) r.2 := by
  unfold m12_second at h
  refine MetAt_of (tb := tb_221) (by decide) tbok_221 (Nat.le_of_ble_eq_true rfl) (fun a q => by cases q; trivial) (fun G hG => ?_)
  have hRP : (fun (a : Option AV) (τ : Mem) => a.map (conc E) = ((some (.int r.1, 0)) : Option AV).map (conc E) ∧ τ = r.2) (some (.int r.1, 0)) r.2 := ⟨rfl, rfl⟩
  change G 0 [some (.ref 483, 12), none, none] [] σ
  refine bk hG (cut := [45]) 400 ?_
  have ⟨_, hc, h⟩ := b_some h
  refine Exists.intro _ (Exists.intro _ (Exists.intro _ (And.intro (c12_isSmithy F _ hc) (And.intro (by decide) (And.intro (fun q => absurd q (by decide)) ?_)))))
  refine And.intro (fun hq => ?_) (fun hq => ?_)
  · have h := i_pos hq h
    have e := Option.some.inj h
    subst e
    exact hRP
  · have h := i_neg hq h
    have ⟨_, hc, h⟩ := b_some h
    refine Exists.intro _ (Exists.intro _ (Exists.intro _ (And.intro (c12_momentsLeft F _ hc) (And.intro (by decide) (And.intro (fun q => absurd q (by decide)) ?_)))))
    refine And.intro (Or.inr rfl) ?_
    have ⟨_, hc, h⟩ := b_some h
    refine Exists.intro _ (Exists.intro _ (Exists.intro _ (And.intro (c12_momentsLeft F _ hc) (And.intro (by decide) (And.intro (fun q => absurd q (by decide)) ?_)))))
    refine And.intro (Or.inl rfl) ?_
    refine And.intro (fun hq => ?_) (fun hq => ?_)
    · have h := i_pos hq h
      exact w12_second_45 hG hRP F _ _ _ _ h
    · have h := i_neg hq h
      exact w12_second_45 hG hRP F _ _ _ _ h
set_option maxHeartbeats 4000000 in
set_option maxRecDepth 20000 in
theorem c12_seed {E : EnvT} (F : Nat) (i1 : Int32) (σ : Mem) {r : Int32 × Mem} (h : m12_seed F i1 σ = some r) : MetAt E 0 222 [(.ref 483, 12), (.int i1, 0)] σ (some (.int r.1, 0)) r.2 := by
  unfold m12_seed at h
  refine MetAt_of (tb := tb_222) (by decide) tbok_222 (Nat.le_of_ble_eq_true rfl) (fun a q => by cases q; trivial) (fun G hG => ?_)
  have hRP : (fun (a : Option AV) (τ : Mem) => a.map (conc E) = ((some (.int r.1, 0)) : Option AV).map (conc E) ∧ τ = r.2) (some (.int r.1, 0)) r.2 := ⟨rfl, rfl⟩
  change G 0 [some (.ref 483, 12), some (.int i1, 0), none] [] σ
  refine bk hG (cut := []) 400 ?_
  refine And.intro (fun hq => ?_) (fun hq => ?_)
  · have h := i_pos hq h
    have e := Option.some.inj h
    subst e
    exact hRP
  · have h := i_neg hq h
    have e := Option.some.inj h
    subst e
    exact hRP
set_option maxHeartbeats 4000000 in
set_option maxRecDepth 20000 in
theorem c12_draw {E : EnvT} (F : Nat) (i1 : Int32) (σ : Mem) {r : Int32 × Mem} (h : m12_draw F i1 σ = some r) : MetAt E 0 223 [(.ref 483, 12), (.int i1, 0)] σ (some (.int r.1, 0)) r.2 := by
  unfold m12_draw at h
  refine MetAt_of (tb := tb_223) (by decide) tbok_223 (Nat.le_of_ble_eq_true rfl) (fun a q => by cases q; trivial) (fun G hG => ?_)
  have hRP : (fun (a : Option AV) (τ : Mem) => a.map (conc E) = ((some (.int r.1, 0)) : Option AV).map (conc E) ∧ τ = r.2) (some (.int r.1, 0)) r.2 := ⟨rfl, rfl⟩
  change G 0 [some (.ref 483, 12), some (.int i1, 0)] [] σ
  refine bk hG (cut := []) 400 ?_
  refine And.intro (by decide) ?_
  refine And.intro (by decide) ?_
  have ⟨hg, h⟩ := g_gd h
  refine And.intro hg ?_
  have e := Option.some.inj h
  subst e
  exact hRP
set_option maxHeartbeats 4000000 in
set_option maxRecDepth 20000 in
theorem w12_countOf_4 {E : EnvT} {G : GT} {RP : Option AV → Mem → Prop} {i1 : Int32} {σ : Mem} (hG : Cl E 224 1 tb_224 G RP) {r : Int32} (hRP : RP (some (.int r, 0)) σ) (F : Nat) : ∀ (n : Nat) (x2 : Int32) (x3 : Int32), m12_countOf_4 F i1 σ n x2 x3 = some r → G 4 [some (.ref 483, 12), some (.int i1, 0), some (.int x2, 0), some (.int x3, 0)] [] σ := by
  intro n
  induction n with
  | zero => intro x2 x3 h; unfold m12_countOf_4 at h; cases h
  | succ n ih =>
    intro x2 x3 h
    refine bk hG (cut := [4]) 400 ?_
    unfold m12_countOf_4 at h
    have ⟨hg, h⟩ := g_gd h
    refine And.intro (inB_of hg) ?_
    refine And.intro (fun hq => ?_) (fun hq => ?_)
    · have h := i_pos hq h
      have e := Option.some.inj h
      subst e
      exact hRP
    · have h := i_neg hq h
      have ⟨_, hc, h⟩ := b_some h
      refine Exists.intro _ (Exists.intro _ (Exists.intro _ (And.intro (c12_smithOf F _ _ _ hc) (And.intro (by decide) (And.intro (fun q => absurd q (by decide)) ?_)))))
      exact ih _ _ h
set_option maxHeartbeats 4000000 in
set_option maxRecDepth 20000 in
theorem c12_countOf {E : EnvT} (F : Nat) (i1 : Int32) (σ : Mem) {r : Int32} (h : m12_countOf F i1 σ = some r) : MetAt E 1 224 [(.ref 483, 12), (.int i1, 0)] σ (some (.int r, 0)) σ := by
  unfold m12_countOf at h
  refine MetAt_of (tb := tb_224) (by decide) tbok_224 (Nat.le_of_ble_eq_true rfl) (fun a q => by cases q; trivial) (fun G hG => ?_)
  have hRP : (fun (a : Option AV) (τ : Mem) => a.map (conc E) = ((some (.int r, 0)) : Option AV).map (conc E) ∧ τ = σ) (some (.int r, 0)) σ := ⟨rfl, rfl⟩
  change G 0 [some (.ref 483, 12), some (.int i1, 0), none, none] [] σ
  refine bk hG (cut := [4]) 400 ?_
  exact w12_countOf_4 hG hRP F F _ _ h
set_option maxHeartbeats 4000000 in
set_option maxRecDepth 20000 in
theorem w12_days_116 {E : EnvT} {G : GT} {RP : Option AV → Mem → Prop} {i1 : Int32} {i2 : Int32} {i3 : Int32} {i4 : Int32} (hG : Cl E 225 8 tb_225 G RP) {r : Int32 × Mem} (hRP : RP (some (.int r.1, 0)) r.2) (F : Nat) {k94 : Int32 → Int32 → Int32 → Int32 → Int32 → Mem → Option (Int32 × Mem)} (hk94 : ∀ (x5 : Int32) (x6 : Int32) (x7 : Int32) (x8 : Int32) (x9 : Int32) (σ : Mem), k94 x5 x6 x7 x8 x9 σ = some r → G 94 [some (.ref 483, 12), some (.int i1, 0), some (.int i2, 0), some (.int i3, 0), some (.int i4, 0), some (.int x5, 0), some (.int x6, 0), some (.int x7, 0), some (.int x8, 0), some (.int x9, 0)] [] σ) : ∀ (x5 : Int32) (x6 : Int32) (x7 : Int32) (x8 : Int32) (x9 : Int32) (s1 : Int32) (σ : Mem), m12_days_116 F i1 i2 i3 i4 k94 x5 x6 x7 x8 x9 s1 σ = some r → G 116 [some (.ref 483, 12), some (.int i1, 0), some (.int i2, 0), some (.int i3, 0), some (.int i4, 0), some (.int x5, 0), some (.int x6, 0), some (.int x7, 0), some (.int x8, 0), some (.int x9, 0)] [(.int s1, 0), (.ref 483, 12)] σ := by
  intro x5 x6 x7 x8 x9 s1 σ h
  refine bk hG (cut := [78, 94, 116]) 400 ?_
  unfold m12_days_116 at h
  have ⟨hg, h⟩ := g_gd h
  refine And.intro hg ?_
  have ⟨_, hc, h⟩ := b_some h
  refine Exists.intro _ (Exists.intro _ (Exists.intro _ (And.intro (c12_passes F _ hc) (And.intro (by decide) (And.intro (fun q => absurd q (by decide)) ?_)))))
  exact hk94 _ _ _ _ _ _ h
set_option maxHeartbeats 4000000 in
set_option maxRecDepth 20000 in
theorem w12_days_94 {E : EnvT} {G : GT} {RP : Option AV → Mem → Prop} {i1 : Int32} {i2 : Int32} {i3 : Int32} {i4 : Int32} (hG : Cl E 225 8 tb_225 G RP) {r : Int32 × Mem} (hRP : RP (some (.int r.1, 0)) r.2) (F : Nat) {k78 : Int32 → Int32 → Int32 → Mem → Option (Int32 × Mem)} (hk78 : ∀ (x5 : Int32) (x6 : Int32) (x7 : Int32) (d8 : Option AV) (d9 : Option AV) (σ : Mem), k78 x5 x6 x7 σ = some r → G 78 [some (.ref 483, 12), some (.int i1, 0), some (.int i2, 0), some (.int i3, 0), some (.int i4, 0), some (.int x5, 0), some (.int x6, 0), some (.int x7, 0), d8, d9] [] σ) : ∀ (n : Nat) (x5 : Int32) (x6 : Int32) (x7 : Int32) (x8 : Int32) (x9 : Int32) (σ : Mem), m12_days_94 F i1 i2 i3 i4 k78 n x5 x6 x7 x8 x9 σ = some r → G 94 [some (.ref 483, 12), some (.int i1, 0), some (.int i2, 0), some (.int i3, 0), some (.int i4, 0), some (.int x5, 0), some (.int x6, 0), some (.int x7, 0), some (.int x8, 0), some (.int x9, 0)] [] σ := by
  intro n
  induction n with
  | zero => intro x5 x6 x7 x8 x9 σ h; unfold m12_days_94 at h; cases h
  | succ n ih =>
    intro x5 x6 x7 x8 x9 σ h
    refine bk hG (cut := [78, 94, 116]) 400 ?_
    unfold m12_days_94 at h
    refine And.intro (fun hq => ?_) (fun hq => ?_)
    · have h := i_pos hq h
      have ⟨_, hc, h⟩ := b_some h
      refine Exists.intro _ (Exists.intro _ (Exists.intro _ (And.intro (c12_countOf F _ _ hc) (And.intro (by decide) (And.intro (fun q => absurd q (by decide)) ?_)))))
      have ⟨_, hc, h⟩ := b_some h
      refine Exists.intro _ (Exists.intro _ (Exists.intro _ (And.intro (c12_laysBack F _ hc) (And.intro (by decide) (And.intro (fun q => absurd q (by decide)) ?_)))))
      exact hk78 _ _ _ _ _ _ h
    · have h := i_neg hq h
      have ⟨_, hc, h⟩ := b_some h
      refine Exists.intro _ (Exists.intro _ (Exists.intro _ (And.intro (c12_draw F _ _ hc) (And.intro (by decide) (And.intro (fun q => absurd q (by decide)) ?_)))))
      refine And.intro (fun hq => ?_) (fun hq => ?_)
      · have h := i_pos hq h
        exact w12_days_116 hG hRP F (fun _ _ _ _ _ _ h => ih _ _ _ _ _ _ h) _ _ _ _ _ _ _ h
      · have h := i_neg hq h
        exact w12_days_116 hG hRP F (fun _ _ _ _ _ _ h => ih _ _ _ _ _ _ h) _ _ _ _ _ _ _ h
set_option maxHeartbeats 4000000 in
set_option maxRecDepth 20000 in
theorem w12_days_78 {E : EnvT} {G : GT} {RP : Option AV → Mem → Prop} {i1 : Int32} {i2 : Int32} {i3 : Int32} {i4 : Int32} (hG : Cl E 225 8 tb_225 G RP) {r : Int32 × Mem} (hRP : RP (some (.int r.1, 0)) r.2) (F : Nat) : ∀ (n : Nat) (x5 : Int32) (x6 : Int32) (x7 : Int32) (d8 : Option AV) (d9 : Option AV) (σ : Mem), m12_days_78 F i1 i2 i3 i4 n x5 x6 x7 σ = some r → G 78 [some (.ref 483, 12), some (.int i1, 0), some (.int i2, 0), some (.int i3, 0), some (.int i4, 0), some (.int x5, 0), some (.int x6, 0), some (.int x7, 0), d8, d9] [] σ := by
  intro n
  induction n with
  | zero => intro x5 x6 x7 d8 d9 σ h; unfold m12_days_78 at h; cases h
  | succ n ih =>
    intro x5 x6 x7 d8 d9 σ h
    refine bk hG (cut := [78, 94, 116]) 400 ?_
    unfold m12_days_78 at h
    refine And.intro (fun hq => ?_) (fun hq => ?_)
    · have h := i_pos hq h
      refine And.intro (Or.inl rfl) ?_
      refine And.intro (fun hq => ?_) (fun hq => ?_)
      · have h := i_pos hq h
        have e := Option.some.inj h
        subst e
        exact hRP
      · have h := i_neg hq h
        have e := Option.some.inj h
        subst e
        exact hRP
    · have h := i_neg hq h
      have ⟨_, hc, h⟩ := b_some h
      refine Exists.intro _ (Exists.intro _ (Exists.intro _ (And.intro (c12_countOf F _ _ hc) (And.intro (by decide) (And.intro (fun q => absurd q (by decide)) ?_)))))
      exact w12_days_94 hG hRP F (fun _ _ _ _ _ _ h => ih _ _ _ _ _ _ h) F _ _ _ _ _ _ h
set_option maxHeartbeats 4000000 in
set_option maxRecDepth 20000 in
theorem c12_days {E : EnvT} (F : Nat) (i1 : Int32) (i2 : Int32) (i3 : Int32) (i4 : Int32) (σ : Mem) {r : Int32 × Mem} (h : m12_days F i1 i2 i3 i4 σ = some r) : MetAt E 8 225 [(.ref 483, 12), (.int i1, 0), (.int i2, 0), (.int i3, 0), (.int i4, 0)] σ (some (.int r.1, 0)) r.2 := by
  unfold m12_days at h
  refine MetAt_of (tb := tb_225) (by decide) tbok_225 (Nat.le_of_ble_eq_true rfl) (fun a q => by cases q; trivial) (fun G hG => ?_)
  have hRP : (fun (a : Option AV) (τ : Mem) => a.map (conc E) = ((some (.int r.1, 0)) : Option AV).map (conc E) ∧ τ = r.2) (some (.int r.1, 0)) r.2 := ⟨rfl, rfl⟩
  change G 0 [some (.ref 483, 12), some (.int i1, 0), some (.int i2, 0), some (.int i3, 0), some (.int i4, 0), none, none, none, none, none] [] σ
  refine bk hG (cut := [78, 94, 116]) 400 ?_
  have ⟨_, hc, h⟩ := b_some h
  refine Exists.intro _ (Exists.intro _ (Exists.intro _ (And.intro (c12_isSmithy F _ hc) (And.intro (by decide) (And.intro (fun q => absurd q (by decide)) ?_)))))
  refine And.intro (fun hq => ?_) (fun hq => ?_)
  · have h := i_pos hq h
    have e := Option.some.inj h
    subst e
    exact hRP
  · have h := i_neg hq h
    have ⟨_, hc, h⟩ := b_some h
    refine Exists.intro _ (Exists.intro _ (Exists.intro _ (And.intro (c12_in F _ _ _ _ hc) (And.intro (by decide) ?_))))
    refine And.intro (fun hq => ?_) (fun hq => ?_)
    · have h := i_pos hq h
      have e := Option.some.inj h
      subst e
      exact hRP
    · have h := i_neg hq h
      have ⟨_, hc, h⟩ := b_some h
      refine Exists.intro _ (Exists.intro _ (Exists.intro _ (And.intro (c12_in F _ _ _ _ hc) (And.intro (by decide) ?_))))
      refine And.intro (fun hq => ?_) (fun hq => ?_)
      · have h := i_pos hq h
        have e := Option.some.inj h
        subst e
        exact hRP
      · have h := i_neg hq h
        have ⟨_, hc, h⟩ := b_some h
        refine Exists.intro _ (Exists.intro _ (Exists.intro _ (And.intro (c12_in F _ _ _ _ hc) (And.intro (by decide) ?_))))
        refine And.intro (fun hq => ?_) (fun hq => ?_)
        · have h := i_pos hq h
          have e := Option.some.inj h
          subst e
          exact hRP
        · have h := i_neg hq h
          have ⟨_, hc, h⟩ := b_some h
          refine Exists.intro _ (Exists.intro _ (Exists.intro _ (And.intro (c12_in F _ _ _ _ hc) (And.intro (by decide) ?_))))
          refine And.intro (fun hq => ?_) (fun hq => ?_)
          · have h := i_pos hq h
            have e := Option.some.inj h
            subst e
            exact hRP
          · have h := i_neg hq h
            have ⟨_, hc, h⟩ := b_some h
            refine Exists.intro _ (Exists.intro _ (Exists.intro _ (And.intro (c12_keeps F _ hc) (And.intro (by decide) (And.intro (fun q => absurd q (by decide)) ?_)))))
            exact w12_days_78 hG hRP F F _ _ _ _ _ _ h
set_option maxHeartbeats 4000000 in
set_option maxRecDepth 20000 in
theorem w12_count_102 {E : EnvT} {G : GT} {RP : Option AV → Mem → Prop} {i1 : Int32} {σ : Mem} (hG : Cl E 226 2 tb_226 G RP) {r : Int32} (hRP : RP (some (.int r, 0)) σ) (F : Nat) : ∀ (n : Nat) (x2 : Int32) (x3 : Int32), m12_count_102 F i1 σ n x2 x3 = some r → G 102 [some (.ref 483, 12), some (.int i1, 0), some (.int x2, 0), some (.int x3, 0)] [] σ := by
  intro n
  induction n with
  | zero => intro x2 x3 h; unfold m12_count_102 at h; cases h
  | succ n ih =>
    intro x2 x3 h
    refine bk hG (cut := [102]) 400 ?_
    unfold m12_count_102 at h
    have ⟨hg, h⟩ := g_gd h
    refine And.intro (inB_of hg) ?_
    refine And.intro (fun hq => ?_) (fun hq => ?_)
    · have h := i_pos hq h
      have e := Option.some.inj h
      subst e
      exact hRP
    · have h := i_neg hq h
      have ⟨_, hc, h⟩ := b_some h
      refine Exists.intro _ (Exists.intro _ (Exists.intro _ (And.intro (c12_jobOf F _ _ _ hc) (And.intro (by decide) (And.intro (fun q => absurd q (by decide)) ?_)))))
      refine And.intro (fun hq => ?_) (fun hq => ?_)
      · have h := i_pos hq h
        exact ih _ _ h
      · have h := i_neg hq h
        exact ih _ _ h
set_option maxHeartbeats 4000000 in
set_option maxRecDepth 20000 in
theorem c12_count {E : EnvT} (F : Nat) (i1 : Int32) (σ : Mem) {r : Int32} (h : m12_count F i1 σ = some r) : MetAt E 2 226 [(.ref 483, 12), (.int i1, 0)] σ (some (.int r, 0)) σ := by
  unfold m12_count at h
  refine MetAt_of (tb := tb_226) (by decide) tbok_226 (Nat.le_of_ble_eq_true rfl) (fun a q => by cases q; trivial) (fun G hG => ?_)
  have hRP : (fun (a : Option AV) (τ : Mem) => a.map (conc E) = ((some (.int r, 0)) : Option AV).map (conc E) ∧ τ = σ) (some (.int r, 0)) σ := ⟨rfl, rfl⟩
  change G 0 [some (.ref 483, 12), some (.int i1, 0), none, none] [] σ
  refine bk hG (cut := [102]) 400 ?_
  refine And.intro (fun hq => ?_) (fun hq => ?_)
  · have h := i_pos hq h
    have ⟨hg, h⟩ := g_gd h
    refine And.intro (inB_of hg) ?_
    have e := Option.some.inj h
    subst e
    exact hRP
  have h := i_neg hq h
  refine And.intro (fun hq => ?_) (fun hq => ?_)
  · have h := i_pos hq h
    have ⟨hg, h⟩ := g_gd h
    refine And.intro (inB_of hg) ?_
    have e := Option.some.inj h
    subst e
    exact hRP
  have h := i_neg hq h
  refine And.intro (fun hq => ?_) (fun hq => ?_)
  · have h := i_pos hq h
    have ⟨hg, h⟩ := g_gd h
    refine And.intro (inB_of hg) ?_
    have e := Option.some.inj h
    subst e
    exact hRP
  have h := i_neg hq h
  refine And.intro (fun hq => ?_) (fun hq => ?_)
  · have h := i_pos hq h
    have ⟨hg, h⟩ := g_gd h
    refine And.intro (inB_of hg) ?_
    have e := Option.some.inj h
    subst e
    exact hRP
  have h := i_neg hq h
  refine And.intro (fun hq => ?_) (fun hq => ?_)
  · have h := i_pos hq h
    have ⟨hg, h⟩ := g_gd h
    refine And.intro (inB_of hg) ?_
    have e := Option.some.inj h
    subst e
    exact hRP
  have h := i_neg hq h
  refine And.intro (fun hq => ?_) (fun hq => ?_)
  · have h := i_pos hq h
    have e := Option.some.inj h
    subst e
    exact hRP
  have h := i_neg hq h
  refine And.intro (fun hq => ?_) (fun hq => ?_)
  · have h := i_pos hq h
    have e := Option.some.inj h
    subst e
    exact hRP
  have h := i_neg hq h
  refine And.intro (fun hq => ?_) (fun hq => ?_)
  · have h := i_pos hq h
    have ⟨hg, h⟩ := g_gd h
    refine And.intro (inB_of hg) ?_
    have e := Option.some.inj h
    subst e
    exact hRP
  have h := i_neg hq h
  refine And.intro (fun hq => ?_) (fun hq => ?_)
  · have h := i_pos hq h
    exact w12_count_102 hG hRP F F _ _ h
  have h := i_neg hq h
  refine And.intro (fun hq => ?_) (fun hq => ?_)
  · have h := i_pos hq h
    have ⟨_, hc, h⟩ := b_some h
    refine Exists.intro _ (Exists.intro _ (Exists.intro _ (And.intro (c12_countOf F _ _ hc) (And.intro (by decide) (And.intro (fun q => absurd q (by decide)) ?_)))))
    have e := Option.some.inj h
    subst e
    exact hRP
  have h := i_neg hq h
  refine And.intro (fun hq => ?_) (fun hq => ?_)
  · have h := i_pos hq h
    have ⟨_, hc, h⟩ := b_some h
    refine Exists.intro _ (Exists.intro _ (Exists.intro _ (And.intro (c12_isSmithy F _ hc) (And.intro (by decide) (And.intro (fun q => absurd q (by decide)) ?_)))))
    refine And.intro (fun hq => ?_) (fun hq => ?_)
    · have h := i_pos hq h
      have e := Option.some.inj h
      subst e
      exact hRP
    · have h := i_neg hq h
      have ⟨_, hc, h⟩ := b_some h
      refine Exists.intro _ (Exists.intro _ (Exists.intro _ (And.intro (c12_splitParts F _ hc) (And.intro (by decide) (And.intro (fun q => absurd q (by decide)) ?_)))))
      have e := Option.some.inj h
      subst e
      exact hRP
  have h := i_neg hq h
  refine And.intro (fun hq => ?_) (fun hq => ?_)
  · have h := i_pos hq h
    have ⟨hg, h⟩ := g_gd h
    refine And.intro (inB_of hg) ?_
    have e := Option.some.inj h
    subst e
    exact hRP
  have h := i_neg hq h
  refine And.intro (fun hq => ?_) (fun hq => ?_)
  · have h := i_pos hq h
    have e := Option.some.inj h
    subst e
    exact hRP
  have h := i_neg hq h
  refine And.intro (fun hq => ?_) (fun hq => ?_)
  · have h := i_pos hq h
    have e := Option.some.inj h
    subst e
    exact hRP
  have h := i_neg hq h
  refine And.intro (fun hq => ?_) (fun hq => ?_)
  · have h := i_pos hq h
    have e := Option.some.inj h
    subst e
    exact hRP
  have h := i_neg hq h
  have e := Option.some.inj h
  subst e
  exact hRP
set_option maxHeartbeats 4000000 in
set_option maxRecDepth 20000 in
theorem w12_image_43 {E : EnvT} {G : GT} {RP : Option AV → Mem → Prop} {i1 : Int32} (hG : Cl E 227 1 tb_227 G RP) {r : Int32 × Mem} (hRP : RP (some (.int r.1, 0)) r.2) (F : Nat) : ∀ (n : Nat) (x2 : Int32) (σ : Mem), m12_image_43 F i1 n x2 σ = some r → G 43 [some (.ref 483, 12), some (.int i1, 0), some (.int x2, 0)] [] σ := by
  intro n
  induction n with
  | zero => intro x2 σ h; unfold m12_image_43 at h; cases h
  | succ n ih =>
    intro x2 σ h
    refine bk hG (cut := [43]) 400 ?_
    unfold m12_image_43 at h
    refine And.intro (fun hq => ?_) (fun hq => ?_)
    · have h := i_pos hq h
      have ⟨hg, h⟩ := g_gd h
      refine And.intro (inB_of hg) ?_
      have e := Option.some.inj h
      subst e
      exact hRP
    · have h := i_neg hq h
      have ⟨hg, h⟩ := g_gd h
      refine And.intro (inB_of hg) ?_
      have ⟨hg, h⟩ := g_gd h
      refine And.intro (inB_of hg) ?_
      exact ih _ _ h
set_option maxHeartbeats 4000000 in
set_option maxRecDepth 20000 in
theorem c12_image {E : EnvT} (F : Nat) (i1 : Int32) (σ : Mem) {r : Int32 × Mem} (h : m12_image F i1 σ = some r) : MetAt E 1 227 [(.ref 483, 12), (.int i1, 0)] σ (some (.int r.1, 0)) r.2 := by
  unfold m12_image at h
  refine MetAt_of (tb := tb_227) (by decide) tbok_227 (Nat.le_of_ble_eq_true rfl) (fun a q => by cases q; trivial) (fun G hG => ?_)
  have hRP : (fun (a : Option AV) (τ : Mem) => a.map (conc E) = ((some (.int r.1, 0)) : Option AV).map (conc E) ∧ τ = r.2) (some (.int r.1, 0)) r.2 := ⟨rfl, rfl⟩
  change G 0 [some (.ref 483, 12), some (.int i1, 0), none] [] σ
  refine bk hG (cut := [43]) 400 ?_
  have ⟨_, hc, h⟩ := b_some h
  refine Exists.intro _ (Exists.intro _ (Exists.intro _ (And.intro (c12_in F _ _ _ _ hc) (And.intro (by decide) ?_))))
  refine And.intro (fun hq => ?_) (fun hq => ?_)
  · have h := i_pos hq h
    have e := Option.some.inj h
    subst e
    exact hRP
  · have h := i_neg hq h
    have ⟨hg, h⟩ := g_gd h
    refine And.intro (inB_of hg) ?_
    have ⟨hg, h⟩ := g_gd h
    refine And.intro (inB_of hg) ?_
    have ⟨hg, h⟩ := g_gd h
    refine And.intro (inB_of hg) ?_
    exact w12_image_43 hG hRP F F _ _ h
