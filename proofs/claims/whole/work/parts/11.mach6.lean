set_option maxHeartbeats 4000000 in
set_option maxRecDepth 20000 in
theorem c12_heats {E : EnvT} (F : Nat) (i1 : Int32) (i2 : Int32) (σ : Mem) {r : Mem} (h : m12_heats F i1 i2 σ = some r) : MetAt E 1 176 [(.ref 483, 12), (.int i1, 0), (.int i2, 0)] σ none r := by
  unfold m12_heats at h
  refine MetAt_of (tb := tb_176) (by decide) tbok_176 (Nat.le_of_ble_eq_true rfl) (fun a q => by cases q) (fun G hG => ?_)
  have hRP : (fun (a : Option AV) (τ : Mem) => a.map (conc E) = (none : Option AV).map (conc E) ∧ τ = r) none r := ⟨rfl, rfl⟩
  change G 0 [some (.ref 483, 12), some (.int i1, 0), some (.int i2, 0), none] [] σ
  refine bk hG (cut := []) 400 ?_
  refine And.intro (fun hq => ?_) (fun hq => ?_)
  · have h := i_pos hq h
    have ⟨hg, h⟩ := g_gd h
    refine And.intro (inB_of hg) ?_
    have ⟨hg, h⟩ := g_gd h
    refine And.intro (inB_of hg) ?_
    have ⟨hg, h⟩ := g_gd h
    refine And.intro (inB_of hg) ?_
    have ⟨hg, h⟩ := g_gd h
    refine And.intro (inB_of hg) ?_
    have ⟨hg, h⟩ := g_gd h
    refine And.intro (inB_of hg) ?_
    refine And.intro (fun hq => ?_) (fun hq => ?_)
    · have h := i_pos hq h
      have ⟨hg, h⟩ := g_gd h
      refine And.intro (inB_of hg) ?_
      refine And.intro (fun hq => ?_) (fun hq => ?_)
      · have h := i_pos hq h
        have ⟨hg, h⟩ := g_gd h
        refine And.intro (inB_of hg) ?_
        have ⟨hg, h⟩ := g_gd h
        refine And.intro (inB_of hg) ?_
        have ⟨_, hc, h⟩ := b_some h
        refine Exists.intro _ (Exists.intro _ (Exists.intro _ (And.intro (c12_jobOf F _ _ _ hc) (And.intro (by decide) (And.intro (fun q => absurd q (by decide)) ?_)))))
        have ⟨hg, h⟩ := g_gd h
        refine And.intro (inB_of hg) ?_
        have e := Option.some.inj h
        subst e
        exact hRP
      · have h := i_neg hq h
        have e := Option.some.inj h
        subst e
        exact hRP
    · have h := i_neg hq h
      have e := Option.some.inj h
      subst e
      exact hRP
  · have h := i_neg hq h
    have e := Option.some.inj h
    subst e
    exact hRP
set_option maxHeartbeats 4000000 in
set_option maxRecDepth 20000 in
theorem w12_strikes_70 {E : EnvT} {G : GT} {RP : Option AV → Mem → Prop} {i1 : Int32} {i2 : Int32} {i3 : Int32} (hG : Cl E 177 1 tb_177 G RP) {r : Mem} (hRP : RP none r) (F : Nat) : ∀ (x4 : Int32) (σ : Mem), m12_strikes_70 F i1 i2 i3 x4 σ = some r → G 70 [some (.ref 483, 12), some (.int i1, 0), some (.int i2, 0), some (.int i3, 0), some (.int x4, 0)] [] σ := by
  intro x4 σ h
  refine bk hG (cut := [23, 70]) 400 ?_
  unfold m12_strikes_70 at h
  have ⟨_, hc, h⟩ := b_some h
  refine Exists.intro _ (Exists.intro _ (Exists.intro _ (And.intro (c12_jobOf F _ _ _ hc) (And.intro (by decide) (And.intro (fun q => absurd q (by decide)) ?_)))))
  refine And.intro (fun hq => ?_) (fun hq => ?_)
  · have h := i_pos hq h
    have ⟨hg, h⟩ := g_gd h
    refine And.intro (inB_of hg) ?_
    have ⟨hg, h⟩ := g_gd h
    refine And.intro (inB_of hg) ?_
    have ⟨hg, h⟩ := g_gd h
    refine And.intro (inB_of hg) ?_
    have ⟨hg, h⟩ := g_gd h
    refine And.intro (inB_of hg) ?_
    have ⟨hg, h⟩ := g_gd h
    refine And.intro (inB_of hg) ?_
    have ⟨hg, h⟩ := g_gd h
    refine And.intro (inB_of hg) ?_
    have ⟨_, hc, h⟩ := b_some h
    refine Exists.intro _ (Exists.intro _ (Exists.intro _ (And.intro (c12_jobOf F _ _ _ hc) (And.intro (by decide) (And.intro (fun q => absurd q (by decide)) ?_)))))
    have ⟨hg, h⟩ := g_gd h
    refine And.intro (inB_of hg) ?_
    have e := Option.some.inj h
    subst e
    exact hRP
  · have h := i_neg hq h
    have e := Option.some.inj h
    subst e
    exact hRP
set_option maxHeartbeats 4000000 in
set_option maxRecDepth 20000 in
theorem w12_strikes_23 {E : EnvT} {G : GT} {RP : Option AV → Mem → Prop} {i1 : Int32} {i2 : Int32} {i3 : Int32} (hG : Cl E 177 1 tb_177 G RP) {r : Mem} (hRP : RP none r) (F : Nat) : ∀ (x4 : Int32) (σ : Mem), m12_strikes_23 F i1 i2 i3 x4 σ = some r → G 23 [some (.ref 483, 12), some (.int i1, 0), some (.int i2, 0), some (.int i3, 0), some (.int x4, 0)] [] σ := by
  intro x4 σ h
  refine bk hG (cut := [23, 70]) 400 ?_
  unfold m12_strikes_23 at h
  refine And.intro (fun hq => ?_) (fun hq => ?_)
  · have h := i_pos hq h
    refine And.intro (fun hq => ?_) (fun hq => ?_)
    · have h := i_pos hq h
      have ⟨hg, h⟩ := g_gd h
      refine And.intro (inB_of hg) ?_
      have ⟨hg, h⟩ := g_gd h
      refine And.intro (inB_of hg) ?_
      exact w12_strikes_70 hG hRP F _ _ h
    · have h := i_neg hq h
      have ⟨hg, h⟩ := g_gd h
      refine And.intro (inB_of hg) ?_
      have ⟨hg, h⟩ := g_gd h
      refine And.intro (inB_of hg) ?_
      exact w12_strikes_70 hG hRP F _ _ h
  · have h := i_neg hq h
    have e := Option.some.inj h
    subst e
    exact hRP
set_option maxHeartbeats 4000000 in
set_option maxRecDepth 20000 in
theorem c12_strikes {E : EnvT} (F : Nat) (i1 : Int32) (i2 : Int32) (i3 : Int32) (σ : Mem) {r : Mem} (h : m12_strikes F i1 i2 i3 σ = some r) : MetAt E 1 177 [(.ref 483, 12), (.int i1, 0), (.int i2, 0), (.int i3, 0)] σ none r := by
  unfold m12_strikes at h
  refine MetAt_of (tb := tb_177) (by decide) tbok_177 (Nat.le_of_ble_eq_true rfl) (fun a q => by cases q) (fun G hG => ?_)
  have hRP : (fun (a : Option AV) (τ : Mem) => a.map (conc E) = (none : Option AV).map (conc E) ∧ τ = r) none r := ⟨rfl, rfl⟩
  change G 0 [some (.ref 483, 12), some (.int i1, 0), some (.int i2, 0), some (.int i3, 0), none] [] σ
  refine bk hG (cut := [23, 70]) 400 ?_
  refine And.intro (fun hq => ?_) (fun hq => ?_)
  · have h := i_pos hq h
    exact w12_strikes_23 hG hRP F _ _ h
  · have h := i_neg hq h
    have ⟨hg, h⟩ := g_gd h
    refine And.intro (inB_of hg) ?_
    have ⟨hg, h⟩ := g_gd h
    refine And.intro (inB_of hg) ?_
    exact w12_strikes_23 hG hRP F _ _ h
set_option maxHeartbeats 4000000 in
set_option maxRecDepth 20000 in
theorem w12_goesOn_123 {E : EnvT} {G : GT} {RP : Option AV → Mem → Prop} {i1 : Int32} (hG : Cl E 178 4 tb_178 G RP) {r : Mem} (hRP : RP none r) (F : Nat) : ∀ (x2 : Int32) (x4 : Int32) (s1 : Int32) (s2 : Int32) (d3 : Option AV) (σ : Mem), m12_goesOn_123 F i1 x2 x4 s1 s2 σ = some r → G 123 [some (.ref 483, 12), some (.int i1, 0), some (.int x2, 0), d3, some (.int x4, 0)] [(.int s2, 0), (.int s1, 0), (.ref 493, 119)] σ := by
  intro x2 x4 s1 s2 d3 σ h
  refine bk hG (cut := [54, 55, 56, 123]) 400 ?_
  unfold m12_goesOn_123 at h
  have ⟨hg, h⟩ := g_gd h
  refine And.intro (inB_of hg) ?_
  have ⟨hg, h⟩ := g_gd h
  refine And.intro (inB_of hg) ?_
  refine And.intro (fun hq => ?_) (fun hq => ?_)
  · have h := i_pos hq h
    have e := Option.some.inj h
    subst e
    exact hRP
  · have h := i_neg hq h
    have ⟨_, hc, h⟩ := b_some h
    refine Exists.intro _ (Exists.intro _ (Exists.intro _ (And.intro (c12_strikes F _ _ _ _ hc) (And.intro (by decide) (And.intro (fun q => absurd q (by decide)) ?_)))))
    have e := Option.some.inj h
    subst e
    exact hRP
set_option maxHeartbeats 4000000 in
set_option maxRecDepth 20000 in
theorem w12_goesOn_56 {E : EnvT} {G : GT} {RP : Option AV → Mem → Prop} {i1 : Int32} (hG : Cl E 178 4 tb_178 G RP) {r : Mem} (hRP : RP none r) (F : Nat) : ∀ (x2 : Int32) (x3 : Int32) (d4 : Option AV) (σ : Mem), m12_goesOn_56 F i1 x2 x3 σ = some r → G 56 [some (.ref 483, 12), some (.int i1, 0), some (.int x2, 0), some (.int x3, 0), d4] [] σ := by
  intro x2 x3 d4 σ h
  refine bk hG (cut := [54, 55, 56, 123]) 400 ?_
  unfold m12_goesOn_56 at h
  refine And.intro (fun hq => ?_) (fun hq => ?_)
  · have h := i_pos hq h
    have ⟨hg, h⟩ := g_gd h
    refine And.intro (inB_of hg) ?_
    refine And.intro (fun hq => ?_) (fun hq => ?_)
    · have h := i_pos hq h
      have ⟨_, hc, h⟩ := b_some h
      refine Exists.intro _ (Exists.intro _ (Exists.intro _ (And.intro (c12_heats F _ _ _ hc) (And.intro (by decide) (And.intro (fun q => absurd q (by decide)) ?_)))))
      have e := Option.some.inj h
      subst e
      exact hRP
    · have h := i_neg hq h
      have ⟨_, hc, h⟩ := b_some h
      refine Exists.intro _ (Exists.intro _ (Exists.intro _ (And.intro (c12_isHot F _ _ hc) (And.intro (by decide) (And.intro (fun q => absurd q (by decide)) ?_)))))
      have ⟨hg, h⟩ := g_gd h
      refine And.intro (inB_of hg) ?_
      have ⟨hg, h⟩ := g_gd h
      refine And.intro (inB_of hg) ?_
      refine And.intro (fun hq => ?_) (fun hq => ?_)
      · have h := i_pos hq h
        have ⟨hg, h⟩ := g_gd h
        refine And.intro (inB_of hg) ?_
        have ⟨hg, h⟩ := g_gd h
        refine And.intro (inB_of hg) ?_
        exact w12_goesOn_123 hG hRP F _ _ _ _ _ _ h
      · have h := i_neg hq h
        exact w12_goesOn_123 hG hRP F _ _ _ _ _ _ h
  · have h := i_neg hq h
    have e := Option.some.inj h
    subst e
    exact hRP
set_option maxHeartbeats 4000000 in
set_option maxRecDepth 20000 in
theorem w12_goesOn_55 {E : EnvT} {G : GT} {RP : Option AV → Mem → Prop} {i1 : Int32} (hG : Cl E 178 4 tb_178 G RP) {r : Mem} (hRP : RP none r) (F : Nat) {k56 : Int32 → Int32 → Mem → Option (Mem)} (hk56 : ∀ (x2 : Int32) (x3 : Int32) (d4 : Option AV) (σ : Mem), k56 x2 x3 σ = some r → G 56 [some (.ref 483, 12), some (.int i1, 0), some (.int x2, 0), some (.int x3, 0), d4] [] σ) : ∀ (x2 : Int32) (x3 : Int32) (s1 : Int32) (s2 : Int32) (d4 : Option AV) (σ : Mem), m12_goesOn_55 F i1 k56 x2 x3 s1 s2 σ = some r → G 55 [some (.ref 483, 12), some (.int i1, 0), some (.int x2, 0), some (.int x3, 0), d4] [(.int s2, 0), (.int s1, 0), (.ref 493, 119)] σ := by
  intro x2 x3 s1 s2 d4 σ h
  refine bk hG (cut := [54, 55, 56, 123]) 400 ?_
  unfold m12_goesOn_55 at h
  have ⟨hg, h⟩ := g_gd h
  refine And.intro (inB_of hg) ?_
  exact hk56 _ _ _ _ h
set_option maxHeartbeats 4000000 in
set_option maxRecDepth 20000 in
theorem w12_goesOn_54 {E : EnvT} {G : GT} {RP : Option AV → Mem → Prop} {i1 : Int32} (hG : Cl E 178 4 tb_178 G RP) {r : Mem} (hRP : RP none r) (F : Nat) {k55 : Int32 → Int32 → Int32 → Int32 → Mem → Option (Mem)} (hk55 : ∀ (x2 : Int32) (x3 : Int32) (s1 : Int32) (s2 : Int32) (d4 : Option AV) (σ : Mem), k55 x2 x3 s1 s2 σ = some r → G 55 [some (.ref 483, 12), some (.int i1, 0), some (.int x2, 0), some (.int x3, 0), d4] [(.int s2, 0), (.int s1, 0), (.ref 493, 119)] σ) : ∀ (x2 : Int32) (x3 : Int32) (s1 : Int32) (d4 : Option AV) (σ : Mem), m12_goesOn_54 F i1 k55 x2 x3 s1 σ = some r → G 54 [some (.ref 483, 12), some (.int i1, 0), some (.int x2, 0), some (.int x3, 0), d4] [(.int s1, 0), (.ref 493, 119)] σ := by
  intro x2 x3 s1 d4 σ h
  refine bk hG (cut := [54, 55, 56, 123]) 400 ?_
  unfold m12_goesOn_54 at h
  exact hk55 _ _ _ _ _ _ h
set_option maxHeartbeats 4000000 in
set_option maxRecDepth 20000 in
theorem c12_goesOn {E : EnvT} (F : Nat) (i1 : Int32) (σ : Mem) {r : Mem} (h : m12_goesOn F i1 σ = some r) : MetAt E 4 178 [(.ref 483, 12), (.int i1, 0)] σ none r := by
  unfold m12_goesOn at h
  refine MetAt_of (tb := tb_178) (by decide) tbok_178 (Nat.le_of_ble_eq_true rfl) (fun a q => by cases q) (fun G hG => ?_)
  have hRP : (fun (a : Option AV) (τ : Mem) => a.map (conc E) = (none : Option AV).map (conc E) ∧ τ = r) none r := ⟨rfl, rfl⟩
  change G 0 [some (.ref 483, 12), some (.int i1, 0), none, none, none] [] σ
  refine bk hG (cut := [54, 55, 56, 123]) 400 ?_
  have ⟨_, hc, h⟩ := b_some h
  refine Exists.intro _ (Exists.intro _ (Exists.intro _ (And.intro (c12_jobNow F _ _ hc) (And.intro (by decide) (And.intro (fun q => absurd q (by decide)) ?_)))))
  refine And.intro (fun hq => ?_) (fun hq => ?_)
  · have h := i_pos hq h
    refine And.intro (fun hq => ?_) (fun hq => ?_)
    · have h := i_pos hq h
      exact w12_goesOn_54 hG hRP F (fun _ _ _ _ _ _ h => w12_goesOn_55 hG hRP F (fun _ _ _ _ h => w12_goesOn_56 hG hRP F _ _ _ _ h) _ _ _ _ _ _ h) _ _ _ _ _ h
    · have h := i_neg hq h
      have ⟨hg, h⟩ := g_gd h
      refine And.intro (inB_of hg) ?_
      refine And.intro (fun hq => ?_) (fun hq => ?_)
      · have h := i_pos hq h
        have ⟨hg, h⟩ := g_gd h
        refine And.intro (inB_of hg) ?_
        exact w12_goesOn_55 hG hRP F (fun _ _ _ _ h => w12_goesOn_56 hG hRP F _ _ _ _ h) _ _ _ _ _ _ h
      · have h := i_neg hq h
        exact w12_goesOn_54 hG hRP F (fun _ _ _ _ _ _ h => w12_goesOn_55 hG hRP F (fun _ _ _ _ h => w12_goesOn_56 hG hRP F _ _ _ _ h) _ _ _ _ _ _ h) _ _ _ _ _ h
  · have h := i_neg hq h
    exact w12_goesOn_56 hG hRP F _ _ _ _ h
set_option maxHeartbeats 4000000 in
set_option maxRecDepth 20000 in
theorem w12_wears_52 {E : EnvT} {G : GT} {RP : Option AV → Mem → Prop} (hG : Cl E 179 0 tb_179 G RP) {r : Mem} (hRP : RP none r) (F : Nat) : ∀ (n : Nat) (x1 : Int32) (σ : Mem), m12_wears_52 F n x1 σ = some r → G 52 [some (.ref 483, 12), some (.int x1, 0)] [] σ := by
  intro n
  induction n with
  | zero => intro x1 σ h; unfold m12_wears_52 at h; cases h
  | succ n ih =>
    intro x1 σ h
    refine bk hG (cut := [2, 52]) 400 ?_
    unfold m12_wears_52 at h
    have ⟨hg, h⟩ := g_gd h
    refine And.intro (inB_of hg) ?_
    refine And.intro (fun hq => ?_) (fun hq => ?_)
    · have h := i_pos hq h
      have e := Option.some.inj h
      subst e
      exact hRP
    · have h := i_neg hq h
      have ⟨hg, h⟩ := g_gd h
      refine And.intro (inB_of hg) ?_
      refine And.intro (fun hq => ?_) (fun hq => ?_)
      · have h := i_pos hq h
        exact ih _ _ h
      · have h := i_neg hq h
        exact ih _ _ h
set_option maxHeartbeats 4000000 in
set_option maxRecDepth 20000 in
theorem w12_wears_2 {E : EnvT} {G : GT} {RP : Option AV → Mem → Prop} (hG : Cl E 179 0 tb_179 G RP) {r : Mem} (hRP : RP none r) (F : Nat) : ∀ (n : Nat) (x1 : Int32) (σ : Mem), m12_wears_2 F n x1 σ = some r → G 2 [some (.ref 483, 12), some (.int x1, 0)] [] σ := by
  intro n
  induction n with
  | zero => intro x1 σ h; unfold m12_wears_2 at h; cases h
  | succ n ih =>
    intro x1 σ h
    refine bk hG (cut := [2, 52]) 400 ?_
    unfold m12_wears_2 at h
    refine And.intro (fun hq => ?_) (fun hq => ?_)
    · have h := i_pos hq h
      exact w12_wears_52 hG hRP F F _ _ h
    · have h := i_neg hq h
      have ⟨hg, h⟩ := g_gd h
      refine And.intro (inB_of hg) ?_
      refine And.intro (fun hq => ?_) (fun hq => ?_)
      · have h := i_pos hq h
        exact ih _ _ h
      · have h := i_neg hq h
        have ⟨hg, h⟩ := g_gd h
        refine And.intro (inB_of hg) ?_
        refine And.intro (fun hq => ?_) (fun hq => ?_)
        · have h := i_pos hq h
          exact ih _ _ h
        · have h := i_neg hq h
          have ⟨hg, h⟩ := g_gd h
          refine And.intro (inB_of hg) ?_
          have ⟨hg, h⟩ := g_gd h
          refine And.intro (inB_of hg) ?_
          exact ih _ _ h
set_option maxHeartbeats 4000000 in
set_option maxRecDepth 20000 in
theorem c12_wears {E : EnvT} (F : Nat)  (σ : Mem) {r : Mem} (h : m12_wears F σ = some r) : MetAt E 0 179 [(.ref 483, 12)] σ none r := by
  unfold m12_wears at h
  refine MetAt_of (tb := tb_179) (by decide) tbok_179 (Nat.le_of_ble_eq_true rfl) (fun a q => by cases q) (fun G hG => ?_)
  have hRP : (fun (a : Option AV) (τ : Mem) => a.map (conc E) = (none : Option AV).map (conc E) ∧ τ = r) none r := ⟨rfl, rfl⟩
  change G 0 [some (.ref 483, 12), none] [] σ
  refine bk hG (cut := [2, 52]) 400 ?_
  exact w12_wears_2 hG hRP F F _ _ h
set_option maxHeartbeats 4000000 in
set_option maxRecDepth 20000 in
theorem w12_passes_8 {E : EnvT} {G : GT} {RP : Option AV → Mem → Prop} (hG : Cl E 180 7 tb_180 G RP) {r : Int32 × Mem} (hRP : RP (some (.int r.1, 0)) r.2) (F : Nat) : ∀ (n : Nat) (x1 : Int32) (x2 : Int32) (σ : Mem), m12_passes_8 F n x1 x2 σ = some r → G 8 [some (.ref 483, 12), some (.int x1, 0), some (.int x2, 0)] [] σ := by
  intro n
  induction n with
  | zero => intro x1 x2 σ h; unfold m12_passes_8 at h; cases h
  | succ n ih =>
    intro x1 x2 σ h
    refine bk hG (cut := [8]) 400 ?_
    unfold m12_passes_8 at h
    have ⟨hg, h⟩ := g_gd h
    refine And.intro (inB_of hg) ?_
    refine And.intro (fun hq => ?_) (fun hq => ?_)
    · have h := i_pos hq h
      refine And.intro (fun hq => ?_) (fun hq => ?_)
      · have h := i_pos hq h
        have ⟨_, hc, h⟩ := b_some h
        refine Exists.intro _ (Exists.intro _ (Exists.intro _ (And.intro (c12_wears F _ hc) (And.intro (by decide) (And.intro (fun q => absurd q (by decide)) ?_)))))
        have ⟨hg, h⟩ := g_gd h
        refine And.intro (inB_of hg) ?_
        have ⟨hg, h⟩ := g_gd h
        refine And.intro (inB_of hg) ?_
        have e := Option.some.inj h
        subst e
        exact hRP
      · have h := i_neg hq h
        have e := Option.some.inj h
        subst e
        exact hRP
    · have h := i_neg hq h
      have ⟨hg, h⟩ := g_gd h
      refine And.intro (inB_of hg) ?_
      have ⟨_, hc, h⟩ := b_some h
      refine Exists.intro _ (Exists.intro _ (Exists.intro _ (And.intro (c12_goesOn F _ _ hc) (And.intro (by decide) (And.intro (fun q => absurd q (by decide)) ?_)))))
      have ⟨hg, h⟩ := g_gd h
      refine And.intro (inB_of hg) ?_
      exact ih _ _ _ h
set_option maxHeartbeats 4000000 in
set_option maxRecDepth 20000 in
theorem c12_passes {E : EnvT} (F : Nat)  (σ : Mem) {r : Int32 × Mem} (h : m12_passes F σ = some r) : MetAt E 7 180 [(.ref 483, 12)] σ (some (.int r.1, 0)) r.2 := by
  unfold m12_passes at h
  refine MetAt_of (tb := tb_180) (by decide) tbok_180 (Nat.le_of_ble_eq_true rfl) (fun a q => by cases q; trivial) (fun G hG => ?_)
  have hRP : (fun (a : Option AV) (τ : Mem) => a.map (conc E) = ((some (.int r.1, 0)) : Option AV).map (conc E) ∧ τ = r.2) (some (.int r.1, 0)) r.2 := ⟨rfl, rfl⟩
  change G 0 [some (.ref 483, 12), none, none] [] σ
  refine bk hG (cut := [8]) 400 ?_
  have ⟨_, hc, h⟩ := b_some h
  refine Exists.intro _ (Exists.intro _ (Exists.intro _ (And.intro (c12_takesTurns F _ hc) (And.intro (by decide) (And.intro (fun q => absurd q (by decide)) ?_)))))
  exact w12_passes_8 hG hRP F F _ _ _ h
set_option maxHeartbeats 4000000 in
set_option maxRecDepth 20000 in
theorem w12_keepsAct_52 {E : EnvT} {G : GT} {RP : Option AV → Mem → Prop} (hG : Cl E 181 0 tb_181 G RP) {r : Mem} (hRP : RP none r) (F : Nat) : ∀ (n : Nat) (x1 : Int32) (σ : Mem), m12_keepsAct_52 F n x1 σ = some r → G 52 [some (.ref 483, 12), some (.int x1, 0)] [] σ := by
  intro n
  induction n with
  | zero => intro x1 σ h; unfold m12_keepsAct_52 at h; cases h
  | succ n ih =>
    intro x1 σ h
    refine bk hG (cut := [12, 52]) 400 ?_
    unfold m12_keepsAct_52 at h
    refine And.intro (fun hq => ?_) (fun hq => ?_)
    · have h := i_pos hq h
      have e := Option.some.inj h
      subst e
      exact hRP
    · have h := i_neg hq h
      have ⟨hg, h⟩ := g_gd h
      refine And.intro (inB_of hg) ?_
      have ⟨hg, h⟩ := g_gd h
      refine And.intro (inB_of hg) ?_
      exact ih _ _ h
set_option maxHeartbeats 4000000 in
set_option maxRecDepth 20000 in
theorem w12_keepsAct_12 {E : EnvT} {G : GT} {RP : Option AV → Mem → Prop} (hG : Cl E 181 0 tb_181 G RP) {r : Mem} (hRP : RP none r) (F : Nat) {k52 : Int32 → Mem → Option (Mem)} (hk52 : ∀ (x1 : Int32) (σ : Mem), k52 x1 σ = some r → G 52 [some (.ref 483, 12), some (.int x1, 0)] [] σ) : ∀ (n : Nat) (x1 : Int32) (σ : Mem), m12_keepsAct_12 F k52 n x1 σ = some r → G 12 [some (.ref 483, 12), some (.int x1, 0)] [] σ := by
  intro n
  induction n with
  | zero => intro x1 σ h; unfold m12_keepsAct_12 at h; cases h
  | succ n ih =>
    intro x1 σ h
    refine bk hG (cut := [12, 52]) 400 ?_
    unfold m12_keepsAct_12 at h
    refine And.intro (fun hq => ?_) (fun hq => ?_)
    · have h := i_pos hq h
      exact hk52 _ _ h
    · have h := i_neg hq h
      have ⟨hg, h⟩ := g_gd h
      refine And.intro (inB_of hg) ?_
      have ⟨hg, h⟩ := g_gd h
      refine And.intro (inB_of hg) ?_
      exact ih _ _ h
set_option maxHeartbeats 4000000 in
set_option maxRecDepth 20000 in
theorem c12_keepsAct {E : EnvT} (F : Nat)  (σ : Mem) {r : Mem} (h : m12_keepsAct F σ = some r) : MetAt E 0 181 [(.ref 483, 12)] σ none r := by
  unfold m12_keepsAct at h
  refine MetAt_of (tb := tb_181) (by decide) tbok_181 (Nat.le_of_ble_eq_true rfl) (fun a q => by cases q) (fun G hG => ?_)
  have hRP : (fun (a : Option AV) (τ : Mem) => a.map (conc E) = (none : Option AV).map (conc E) ∧ τ = r) none r := ⟨rfl, rfl⟩
  change G 0 [some (.ref 483, 12), none] [] σ
  refine bk hG (cut := [12, 52]) 400 ?_
  refine And.intro (fun hq => ?_) (fun hq => ?_)
  · have h := i_pos hq h
    exact w12_keepsAct_12 hG hRP F (fun _ _ h => w12_keepsAct_52 hG hRP F F _ _ h) F _ _ h
  · have h := i_neg hq h
    exact w12_keepsAct_52 hG hRP F F _ _ h
set_option maxHeartbeats 4000000 in
set_option maxRecDepth 20000 in
theorem w12_undo_21 {E : EnvT} {G : GT} {RP : Option AV → Mem → Prop} (hG : Cl E 182 0 tb_182 G RP) {r : Int32 × Mem} (hRP : RP (some (.int r.1, 0)) r.2) (F : Nat) : ∀ (n : Nat) (x1 : Int32) (σ : Mem), m12_undo_21 F n x1 σ = some r → G 21 [some (.ref 483, 12), some (.int x1, 0)] [] σ := by
  intro n
  induction n with
  | zero => intro x1 σ h; unfold m12_undo_21 at h; cases h
  | succ n ih =>
    intro x1 σ h
    refine bk hG (cut := [21]) 400 ?_
    unfold m12_undo_21 at h
    refine And.intro (fun hq => ?_) (fun hq => ?_)
    · have h := i_pos hq h
      have e := Option.some.inj h
      subst e
      exact hRP
    · have h := i_neg hq h
      have ⟨hg, h⟩ := g_gd h
      refine And.intro (inB_of hg) ?_
      have ⟨hg, h⟩ := g_gd h
      refine And.intro (inB_of hg) ?_
      exact ih _ _ h
set_option maxHeartbeats 4000000 in
set_option maxRecDepth 20000 in
theorem c12_undo {E : EnvT} (F : Nat)  (σ : Mem) {r : Int32 × Mem} (h : m12_undo F σ = some r) : MetAt E 0 182 [(.ref 483, 12)] σ (some (.int r.1, 0)) r.2 := by
  unfold m12_undo at h
  refine MetAt_of (tb := tb_182) (by decide) tbok_182 (Nat.le_of_ble_eq_true rfl) (fun a q => by cases q; trivial) (fun G hG => ?_)
  have hRP : (fun (a : Option AV) (τ : Mem) => a.map (conc E) = ((some (.int r.1, 0)) : Option AV).map (conc E) ∧ τ = r.2) (some (.int r.1, 0)) r.2 := ⟨rfl, rfl⟩
  change G 0 [some (.ref 483, 12), none] [] σ
  refine bk hG (cut := [21]) 400 ?_
  refine And.intro (fun hq => ?_) (fun hq => ?_)
  · have h := i_pos hq h
    have e := Option.some.inj h
    subst e
    exact hRP
  · have h := i_neg hq h
    exact w12_undo_21 hG hRP F F _ _ h
set_option maxHeartbeats 4000000 in
set_option maxRecDepth 20000 in
theorem c12_moment {E : EnvT} (F : Nat)  (σ : Mem) {r : Int32 × Mem} (h : m12_moment F σ = some r) : MetAt E 8 183 [(.ref 483, 12)] σ (some (.int r.1, 0)) r.2 := by
  unfold m12_moment at h
  refine MetAt_of (tb := tb_183) (by decide) tbok_183 (Nat.le_of_ble_eq_true rfl) (fun a q => by cases q; trivial) (fun G hG => ?_)
  have hRP : (fun (a : Option AV) (τ : Mem) => a.map (conc E) = ((some (.int r.1, 0)) : Option AV).map (conc E) ∧ τ = r.2) (some (.int r.1, 0)) r.2 := ⟨rfl, rfl⟩
  change G 0 [some (.ref 483, 12)] [] σ
  refine bk hG (cut := []) 400 ?_
  have ⟨_, hc, h⟩ := b_some h
  refine Exists.intro _ (Exists.intro _ (Exists.intro _ (And.intro (c12_isSmithy F _ hc) (And.intro (by decide) (And.intro (fun q => absurd q (by decide)) ?_)))))
  refine And.intro (fun hq => ?_) (fun hq => ?_)
  · have h := i_pos hq h
    have e := Option.some.inj h
    subst e
    exact hRP
  · have h := i_neg hq h
    have ⟨hg, h⟩ := g_gd h
    refine And.intro (inB_of hg) ?_
    refine And.intro (fun hq => ?_) (fun hq => ?_)
    · have h := i_pos hq h
      have e := Option.some.inj h
      subst e
      exact hRP
    · have h := i_neg hq h
      have ⟨_, hc, h⟩ := b_some h
      refine Exists.intro _ (Exists.intro _ (Exists.intro _ (And.intro (c12_keepsAct F _ hc) (And.intro (by decide) (And.intro (fun q => absurd q (by decide)) ?_)))))
      have ⟨_, hc, h⟩ := b_some h
      refine Exists.intro _ (Exists.intro _ (Exists.intro _ (And.intro (c12_passes F _ hc) (And.intro (by decide) (And.intro (fun q => absurd q (by decide)) ?_)))))
      have e := Option.some.inj h
      subst e
      exact hRP
set_option maxHeartbeats 4000000 in
set_option maxRecDepth 20000 in
theorem c12_quench {E : EnvT} (F : Nat) (i1 : Int32) (σ : Mem) {r : Int32 × Mem} (h : m12_quench F i1 σ = some r) : MetAt E 1 184 [(.ref 483, 12), (.int i1, 0)] σ (some (.int r.1, 0)) r.2 := by
  unfold m12_quench at h
  refine MetAt_of (tb := tb_184) (by decide) tbok_184 (Nat.le_of_ble_eq_true rfl) (fun a q => by cases q; trivial) (fun G hG => ?_)
  have hRP : (fun (a : Option AV) (τ : Mem) => a.map (conc E) = ((some (.int r.1, 0)) : Option AV).map (conc E) ∧ τ = r.2) (some (.int r.1, 0)) r.2 := ⟨rfl, rfl⟩
  change G 0 [some (.ref 483, 12), some (.int i1, 0), none] [] σ
  refine bk hG (cut := []) 400 ?_
  have ⟨_, hc, h⟩ := b_some h
  refine Exists.intro _ (Exists.intro _ (Exists.intro _ (And.intro (c12_isSmith F _ _ hc) (And.intro (by decide) (And.intro (fun q => absurd q (by decide)) ?_)))))
  refine And.intro (fun hq => ?_) (fun hq => ?_)
  · have h := i_pos hq h
    have e := Option.some.inj h
    subst e
    exact hRP
  · have h := i_neg hq h
    have ⟨_, hc, h⟩ := b_some h
    refine Exists.intro _ (Exists.intro _ (Exists.intro _ (And.intro (c12_smithOf F _ _ _ hc) (And.intro (by decide) (And.intro (fun q => absurd q (by decide)) ?_)))))
    refine And.intro (fun hq => ?_) (fun hq => ?_)
    · have h := i_pos hq h
      have e := Option.some.inj h
      subst e
      exact hRP
    · have h := i_neg hq h
      have ⟨_, hc, h⟩ := b_some h
      refine Exists.intro _ (Exists.intro _ (Exists.intro _ (And.intro (c12_keepsAct F _ hc) (And.intro (by decide) (And.intro (fun q => absurd q (by decide)) ?_)))))
      have ⟨_, hc, h⟩ := b_some h
      refine Exists.intro _ (Exists.intro _ (Exists.intro _ (And.intro (c12_smithOf F _ _ _ hc) (And.intro (by decide) (And.intro (fun q => absurd q (by decide)) ?_)))))
      have ⟨hg, h⟩ := g_gd h
      refine And.intro (inB_of hg) ?_
      have e := Option.some.inj h
      subst e
      exact hRP
set_option maxHeartbeats 4000000 in
set_option maxRecDepth 20000 in
theorem c12_mend {E : EnvT} (F : Nat) (i1 : Int32) (σ : Mem) {r : Int32 × Mem} (h : m12_mend F i1 σ = some r) : MetAt E 1 185 [(.ref 483, 12), (.int i1, 0)] σ (some (.int r.1, 0)) r.2 := by
  unfold m12_mend at h
  refine MetAt_of (tb := tb_185) (by decide) tbok_185 (Nat.le_of_ble_eq_true rfl) (fun a q => by cases q; trivial) (fun G hG => ?_)
  have hRP : (fun (a : Option AV) (τ : Mem) => a.map (conc E) = ((some (.int r.1, 0)) : Option AV).map (conc E) ∧ τ = r.2) (some (.int r.1, 0)) r.2 := ⟨rfl, rfl⟩
  change G 0 [some (.ref 483, 12), some (.int i1, 0)] [] σ
  refine bk hG (cut := []) 400 ?_
  have ⟨_, hc, h⟩ := b_some h
  refine Exists.intro _ (Exists.intro _ (Exists.intro _ (And.intro (c12_isSmithy F _ hc) (And.intro (by decide) (And.intro (fun q => absurd q (by decide)) ?_)))))
  refine And.intro (fun hq => ?_) (fun hq => ?_)
  · have h := i_pos hq h
    have e := Option.some.inj h
    subst e
    exact hRP
  · have h := i_neg hq h
    have ⟨_, hc, h⟩ := b_some h
    refine Exists.intro _ (Exists.intro _ (Exists.intro _ (And.intro (c12_in F _ _ _ _ hc) (And.intro (by decide) ?_))))
    refine And.intro (fun hq => ?_) (fun hq => ?_)
    · have h := i_pos hq h
      have e := Option.some.inj h
      subst e
      exact hRP
    · have h := i_neg hq h
      have ⟨hg, h⟩ := g_gd h
      refine And.intro (inB_of hg) ?_
      refine And.intro (fun hq => ?_) (fun hq => ?_)
      · have h := i_pos hq h
        have e := Option.some.inj h
        subst e
        exact hRP
      · have h := i_neg hq h
        have ⟨_, hc, h⟩ := b_some h
        refine Exists.intro _ (Exists.intro _ (Exists.intro _ (And.intro (c12_keepsAct F _ hc) (And.intro (by decide) (And.intro (fun q => absurd q (by decide)) ?_)))))
        have ⟨hg, h⟩ := g_gd h
        refine And.intro (inB_of hg) ?_
        refine And.intro (by decide) ?_
        have ⟨hg, h⟩ := g_gd h
        refine And.intro (inB_of hg) ?_
        have ⟨hg, h⟩ := g_gd h
        refine And.intro (inB_of hg) ?_
        have e := Option.some.inj h
        subst e
        exact hRP
set_option maxHeartbeats 4000000 in
set_option maxRecDepth 20000 in
theorem w12_openMany_4 {E : EnvT} {G : GT} {RP : Option AV → Mem → Prop} {i1 : Int32} {σ : Mem} (hG : Cl E 186 2 tb_186 G RP) {r : Int32} (hRP : RP (some (.int r, 0)) σ) (F : Nat) : ∀ (n : Nat) (x2 : Int32) (x3 : Int32), m12_openMany_4 F i1 σ n x2 x3 = some r → G 4 [some (.ref 483, 12), some (.int i1, 0), some (.int x2, 0), some (.int x3, 0)] [] σ := by
  intro n
  induction n with
  | zero => intro x2 x3 h; unfold m12_openMany_4 at h; cases h
  | succ n ih =>
    intro x2 x3 h
    refine bk hG (cut := [4]) 400 ?_
    unfold m12_openMany_4 at h
    have ⟨hg, h⟩ := g_gd h
    refine And.intro (inB_of hg) ?_
    refine And.intro (fun hq => ?_) (fun hq => ?_)
    · have h := i_pos hq h
      have e := Option.some.inj h
      subst e
      exact hRP
    · have h := i_neg hq h
      have ⟨_, hc, h⟩ := b_some h
      refine Exists.intro _ (Exists.intro _ (Exists.intro _ (And.intro (c12_isOpen F _ _ _ hc) (And.intro (by decide) (And.intro (fun q => absurd q (by decide)) ?_)))))
      refine And.intro (fun hq => ?_) (fun hq => ?_)
      · have h := i_pos hq h
        exact ih _ _ h
      · have h := i_neg hq h
        exact ih _ _ h
set_option maxHeartbeats 4000000 in
set_option maxRecDepth 20000 in
theorem c12_openMany {E : EnvT} (F : Nat) (i1 : Int32) (σ : Mem) {r : Int32} (h : m12_openMany F i1 σ = some r) : MetAt E 2 186 [(.ref 483, 12), (.int i1, 0)] σ (some (.int r, 0)) σ := by
  unfold m12_openMany at h
  refine MetAt_of (tb := tb_186) (by decide) tbok_186 (Nat.le_of_ble_eq_true rfl) (fun a q => by cases q; trivial) (fun G hG => ?_)
  have hRP : (fun (a : Option AV) (τ : Mem) => a.map (conc E) = ((some (.int r, 0)) : Option AV).map (conc E) ∧ τ = σ) (some (.int r, 0)) σ := ⟨rfl, rfl⟩
  change G 0 [some (.ref 483, 12), some (.int i1, 0), none, none] [] σ
  refine bk hG (cut := [4]) 400 ?_
  exact w12_openMany_4 hG hRP F F _ _ h
set_option maxHeartbeats 4000000 in
set_option maxRecDepth 20000 in
theorem w12_putsBehind_4 {E : EnvT} {G : GT} {RP : Option AV → Mem → Prop} {i1 : Int32} (hG : Cl E 187 1 tb_187 G RP) {r : Mem} (hRP : RP none r) (F : Nat) : ∀ (n : Nat) (x2 : Int32) (x3 : Int32) (σ : Mem), m12_putsBehind_4 F i1 n x2 x3 σ = some r → G 4 [some (.ref 483, 12), some (.int i1, 0), some (.int x2, 0), some (.int x3, 0)] [] σ := by
  intro n
  induction n with
  | zero => intro x2 x3 σ h; unfold m12_putsBehind_4 at h; cases h
  | succ n ih =>
    intro x2 x3 σ h
    refine bk hG (cut := [4]) 400 ?_
    unfold m12_putsBehind_4 at h
    have ⟨hg, h⟩ := g_gd h
    refine And.intro (inB_of hg) ?_
    refine And.intro (fun hq => ?_) (fun hq => ?_)
    · have h := i_pos hq h
      have ⟨hg, h⟩ := g_gd h
      refine And.intro (inB_of hg) ?_
      have e := Option.some.inj h
      subst e
      exact hRP
    · have h := i_neg hq h
      have ⟨_, hc, h⟩ := b_some h
      refine Exists.intro _ (Exists.intro _ (Exists.intro _ (And.intro (c12_jobOf F _ _ _ hc) (And.intro (by decide) (And.intro (fun q => absurd q (by decide)) ?_)))))
      refine And.intro (fun hq => ?_) (fun hq => ?_)
      · have h := i_pos hq h
        exact ih _ _ _ h
      · have h := i_neg hq h
        have ⟨_, hc, h⟩ := b_some h
        refine Exists.intro _ (Exists.intro _ (Exists.intro _ (And.intro (c12_jobOf F _ _ _ hc) (And.intro (by decide) (And.intro (fun q => absurd q (by decide)) ?_)))))
        exact ih _ _ _ h
set_option maxHeartbeats 4000000 in
set_option maxRecDepth 20000 in
theorem c12_putsBehind {E : EnvT} (F : Nat) (i1 : Int32) (σ : Mem) {r : Mem} (h : m12_putsBehind F i1 σ = some r) : MetAt E 1 187 [(.ref 483, 12), (.int i1, 0)] σ none r := by
  unfold m12_putsBehind at h
  refine MetAt_of (tb := tb_187) (by decide) tbok_187 (Nat.le_of_ble_eq_true rfl) (fun a q => by cases q) (fun G hG => ?_)
  have hRP : (fun (a : Option AV) (τ : Mem) => a.map (conc E) = (none : Option AV).map (conc E) ∧ τ = r) none r := ⟨rfl, rfl⟩
  change G 0 [some (.ref 483, 12), some (.int i1, 0), none, none] [] σ
  refine bk hG (cut := [4]) 400 ?_
  exact w12_putsBehind_4 hG hRP F F _ _ _ h
set_option maxHeartbeats 4000000 in
set_option maxRecDepth 20000 in
theorem c12_aside {E : EnvT} (F : Nat) (i1 : Int32) (σ : Mem) {r : Int32 × Mem} (h : m12_aside F i1 σ = some r) : MetAt E 3 188 [(.ref 483, 12), (.int i1, 0)] σ (some (.int r.1, 0)) r.2 := by
  unfold m12_aside at h
  refine MetAt_of (tb := tb_188) (by decide) tbok_188 (Nat.le_of_ble_eq_true rfl) (fun a q => by cases q; trivial) (fun G hG => ?_)
  have hRP : (fun (a : Option AV) (τ : Mem) => a.map (conc E) = ((some (.int r.1, 0)) : Option AV).map (conc E) ∧ τ = r.2) (some (.int r.1, 0)) r.2 := ⟨rfl, rfl⟩
  change G 0 [some (.ref 483, 12), some (.int i1, 0)] [] σ
  refine bk hG (cut := []) 400 ?_
  have ⟨_, hc, h⟩ := b_some h
  refine Exists.intro _ (Exists.intro _ (Exists.intro _ (And.intro (c12_isSmith F _ _ hc) (And.intro (by decide) (And.intro (fun q => absurd q (by decide)) ?_)))))
  refine And.intro (fun hq => ?_) (fun hq => ?_)
  · have h := i_pos hq h
    have e := Option.some.inj h
    subst e
    exact hRP
  · have h := i_neg hq h
    have ⟨_, hc, h⟩ := b_some h
    refine Exists.intro _ (Exists.intro _ (Exists.intro _ (And.intro (c12_openMany F _ _ hc) (And.intro (by decide) (And.intro (fun q => absurd q (by decide)) ?_)))))
    refine And.intro (fun hq => ?_) (fun hq => ?_)
    · have h := i_pos hq h
      have ⟨_, hc, h⟩ := b_some h
      refine Exists.intro _ (Exists.intro _ (Exists.intro _ (And.intro (c12_keepsAct F _ hc) (And.intro (by decide) (And.intro (fun q => absurd q (by decide)) ?_)))))
      have ⟨_, hc, h⟩ := b_some h
      refine Exists.intro _ (Exists.intro _ (Exists.intro _ (And.intro (c12_jobNow F _ _ hc) (And.intro (by decide) (And.intro (fun q => absurd q (by decide)) ?_)))))
      have ⟨_, hc, h⟩ := b_some h
      refine Exists.intro _ (Exists.intro _ (Exists.intro _ (And.intro (c12_putsBehind F _ _ hc) (And.intro (by decide) (And.intro (fun q => absurd q (by decide)) ?_)))))
      have ⟨hg, h⟩ := g_gd h
      refine And.intro (inB_of hg) ?_
      have ⟨_, hc, h⟩ := b_some h
      refine Exists.intro _ (Exists.intro _ (Exists.intro _ (And.intro (c12_jobNow F _ _ hc) (And.intro (by decide) (And.intro (fun q => absurd q (by decide)) ?_)))))
      have e := Option.some.inj h
      subst e
      exact hRP
    · have h := i_neg hq h
      have e := Option.some.inj h
      subst e
      exact hRP
set_option maxHeartbeats 4000000 in
set_option maxRecDepth 20000 in
theorem w12_keeps_2 {E : EnvT} {G : GT} {RP : Option AV → Mem → Prop} (hG : Cl E 189 0 tb_189 G RP) {r : Mem} (hRP : RP none r) (F : Nat) : ∀ (n : Nat) (x1 : Int32) (σ : Mem), m12_keeps_2 F n x1 σ = some r → G 2 [some (.ref 483, 12), some (.int x1, 0)] [] σ := by
  intro n
  induction n with
  | zero => intro x1 σ h; unfold m12_keeps_2 at h; cases h
  | succ n ih =>
    intro x1 σ h
    refine bk hG (cut := [2]) 400 ?_
    unfold m12_keeps_2 at h
    refine And.intro (fun hq => ?_) (fun hq => ?_)
    · have h := i_pos hq h
      have e := Option.some.inj h
      subst e
      exact hRP
    · have h := i_neg hq h
      have ⟨hg, h⟩ := g_gd h
      refine And.intro (inB_of hg) ?_
      have ⟨hg, h⟩ := g_gd h
      refine And.intro (inB_of hg) ?_
      exact ih _ _ h
set_option maxHeartbeats 4000000 in
set_option maxRecDepth 20000 in
theorem c12_keeps {E : EnvT} (F : Nat)  (σ : Mem) {r : Mem} (h : m12_keeps F σ = some r) : MetAt E 0 189 [(.ref 483, 12)] σ none r := by
  unfold m12_keeps at h
  refine MetAt_of (tb := tb_189) (by decide) tbok_189 (Nat.le_of_ble_eq_true rfl) (fun a q => by cases q) (fun G hG => ?_)
  have hRP : (fun (a : Option AV) (τ : Mem) => a.map (conc E) = (none : Option AV).map (conc E) ∧ τ = r) none r := ⟨rfl, rfl⟩
  change G 0 [some (.ref 483, 12), none] [] σ
  refine bk hG (cut := [2]) 400 ?_
  exact w12_keeps_2 hG hRP F F _ _ h
set_option maxHeartbeats 4000000 in
set_option maxRecDepth 20000 in
theorem w12_laysBack_2 {E : EnvT} {G : GT} {RP : Option AV → Mem → Prop} (hG : Cl E 190 0 tb_190 G RP) {r : Mem} (hRP : RP none r) (F : Nat) : ∀ (n : Nat) (x1 : Int32) (σ : Mem), m12_laysBack_2 F n x1 σ = some r → G 2 [some (.ref 483, 12), some (.int x1, 0)] [] σ := by
  intro n
  induction n with
  | zero => intro x1 σ h; unfold m12_laysBack_2 at h; cases h
  | succ n ih =>
    intro x1 σ h
    refine bk hG (cut := [2]) 400 ?_
    unfold m12_laysBack_2 at h
    refine And.intro (fun hq => ?_) (fun hq => ?_)
    · have h := i_pos hq h
      have e := Option.some.inj h
      subst e
      exact hRP
    · have h := i_neg hq h
      have ⟨hg, h⟩ := g_gd h
      refine And.intro (inB_of hg) ?_
      have ⟨hg, h⟩ := g_gd h
      refine And.intro (inB_of hg) ?_
      exact ih _ _ h
set_option maxHeartbeats 4000000 in
set_option maxRecDepth 20000 in
theorem c12_laysBack {E : EnvT} (F : Nat)  (σ : Mem) {r : Mem} (h : m12_laysBack F σ = some r) : MetAt E 0 190 [(.ref 483, 12)] σ none r := by
  unfold m12_laysBack at h
  refine MetAt_of (tb := tb_190) (by decide) tbok_190 (Nat.le_of_ble_eq_true rfl) (fun a q => by cases q) (fun G hG => ?_)
  have hRP : (fun (a : Option AV) (τ : Mem) => a.map (conc E) = (none : Option AV).map (conc E) ∧ τ = r) none r := ⟨rfl, rfl⟩
  change G 0 [some (.ref 483, 12), none] [] σ
  refine bk hG (cut := [2]) 400 ?_
  exact w12_laysBack_2 hG hRP F F _ _ h
set_option maxHeartbeats 4000000 in
set_option maxRecDepth 20000 in
theorem w12_ahead_108 {E : EnvT} {G : GT} {RP : Option AV → Mem → Prop} {i1 : Int32} {i2 : Int32} {i3 : Int32} (hG : Cl E 191 8 tb_191 G RP) {r : Int32 × Mem} (hRP : RP (some (.int r.1, 0)) r.2) (F : Nat) : ∀ (s0 : Int32) (d4 : Option AV) (d5 : Option AV) (σ : Mem), m12_ahead_108 F i1 i2 i3 s0 σ = some r → G 108 [some (.ref 483, 12), some (.int i1, 0), some (.int i2, 0), some (.int i3, 0), d4, d5] [(.int s0, 0)] σ := by
  intro s0 d4 d5 σ h
  refine bk hG (cut := [41, 108]) 400 ?_
  unfold m12_ahead_108 at h
  have ⟨_, hc, h⟩ := b_some h
  refine Exists.intro _ (Exists.intro _ (Exists.intro _ (And.intro (c12_laysBack F _ hc) (And.intro (by decide) (And.intro (fun q => absurd q (by decide)) ?_)))))
  have e := Option.some.inj h
  subst e
  exact hRP
set_option maxHeartbeats 4000000 in
set_option maxRecDepth 20000 in
theorem w12_ahead_41 {E : EnvT} {G : GT} {RP : Option AV → Mem → Prop} {i1 : Int32} {i2 : Int32} {i3 : Int32} (hG : Cl E 191 8 tb_191 G RP) {r : Int32 × Mem} (hRP : RP (some (.int r.1, 0)) r.2) (F : Nat) : ∀ (n : Nat) (x4 : Int32) (d5 : Option AV) (σ : Mem), m12_ahead_41 F i1 i2 i3 n x4 σ = some r → G 41 [some (.ref 483, 12), some (.int i1, 0), some (.int i2, 0), some (.int i3, 0), some (.int x4, 0), d5] [] σ := by
  intro n
  induction n with
  | zero => intro x4 d5 σ h; unfold m12_ahead_41 at h; cases h
  | succ n ih =>
    intro x4 d5 σ h
    refine bk hG (cut := [41, 108]) 400 ?_
    unfold m12_ahead_41 at h
    refine And.intro (fun hq => ?_) (fun hq => ?_)
    · have h := i_pos hq h
      have ⟨_, hc, h⟩ := b_some h
      refine Exists.intro _ (Exists.intro _ (Exists.intro _ (And.intro (c12_jobNow F _ _ hc) (And.intro (by decide) (And.intro (fun q => absurd q (by decide)) ?_)))))
      refine And.intro (fun hq => ?_) (fun hq => ?_)
      · have h := i_pos hq h
        have ⟨_, hc, h⟩ := b_some h
        refine Exists.intro _ (Exists.intro _ (Exists.intro _ (And.intro (c12_smithOf F _ _ _ hc) (And.intro (by decide) (And.intro (fun q => absurd q (by decide)) ?_)))))
        exact w12_ahead_108 hG hRP F _ _ _ _ h
      · have h := i_neg hq h
        refine And.intro (fun hq => ?_) (fun hq => ?_)
        · have h := i_pos hq h
          have ⟨_, hc, h⟩ := b_some h
          refine Exists.intro _ (Exists.intro _ (Exists.intro _ (And.intro (c12_smithOf F _ _ _ hc) (And.intro (by decide) (And.intro (fun q => absurd q (by decide)) ?_)))))
          exact w12_ahead_108 hG hRP F _ _ _ _ h
        · have h := i_neg hq h
          refine And.intro (fun hq => ?_) (fun hq => ?_)
          · have h := i_pos hq h
            have ⟨_, hc, h⟩ := b_some h
            refine Exists.intro _ (Exists.intro _ (Exists.intro _ (And.intro (c12_jobOf F _ _ _ hc) (And.intro (by decide) (And.intro (fun q => absurd q (by decide)) ?_)))))
            exact w12_ahead_108 hG hRP F _ _ _ _ h
          · have h := i_neg hq h
            exact w12_ahead_108 hG hRP F _ _ _ _ h
    · have h := i_neg hq h
      have ⟨_, hc, h⟩ := b_some h
      refine Exists.intro _ (Exists.intro _ (Exists.intro _ (And.intro (c12_passes F _ hc) (And.intro (by decide) (And.intro (fun q => absurd q (by decide)) ?_)))))
      exact ih _ _ _ h
set_option maxHeartbeats 4000000 in
set_option maxRecDepth 20000 in
theorem c12_ahead {E : EnvT} (F : Nat) (i1 : Int32) (i2 : Int32) (i3 : Int32) (σ : Mem) {r : Int32 × Mem} (h : m12_ahead F i1 i2 i3 σ = some r) : MetAt E 8 191 [(.ref 483, 12), (.int i1, 0), (.int i2, 0), (.int i3, 0)] σ (some (.int r.1, 0)) r.2 := by
  unfold m12_ahead at h
  refine MetAt_of (tb := tb_191) (by decide) tbok_191 (Nat.le_of_ble_eq_true rfl) (fun a q => by cases q; trivial) (fun G hG => ?_)
  have hRP : (fun (a : Option AV) (τ : Mem) => a.map (conc E) = ((some (.int r.1, 0)) : Option AV).map (conc E) ∧ τ = r.2) (some (.int r.1, 0)) r.2 := ⟨rfl, rfl⟩
  change G 0 [some (.ref 483, 12), some (.int i1, 0), some (.int i2, 0), some (.int i3, 0), none, none] [] σ
  refine bk hG (cut := [41, 108]) 400 ?_
  have ⟨_, hc, h⟩ := b_some h
  refine Exists.intro _ (Exists.intro _ (Exists.intro _ (And.intro (c12_isSmith F _ _ hc) (And.intro (by decide) (And.intro (fun q => absurd q (by decide)) ?_)))))
  refine And.intro (fun hq => ?_) (fun hq => ?_)
  · have h := i_pos hq h
    have e := Option.some.inj h
    subst e
    exact hRP
  · have h := i_neg hq h
    have ⟨_, hc, h⟩ := b_some h
    refine Exists.intro _ (Exists.intro _ (Exists.intro _ (And.intro (c12_in F _ _ _ _ hc) (And.intro (by decide) ?_))))
    refine And.intro (fun hq => ?_) (fun hq => ?_)
    · have h := i_pos hq h
      have e := Option.some.inj h
      subst e
      exact hRP
    · have h := i_neg hq h
      have ⟨_, hc, h⟩ := b_some h
      refine Exists.intro _ (Exists.intro _ (Exists.intro _ (And.intro (c12_in F _ _ _ _ hc) (And.intro (by decide) ?_))))
      refine And.intro (fun hq => ?_) (fun hq => ?_)
      · have h := i_pos hq h
        have e := Option.some.inj h
        subst e
        exact hRP
      · have h := i_neg hq h
        have ⟨_, hc, h⟩ := b_some h
        refine Exists.intro _ (Exists.intro _ (Exists.intro _ (And.intro (c12_keeps F _ hc) (And.intro (by decide) (And.intro (fun q => absurd q (by decide)) ?_)))))
        exact w12_ahead_41 hG hRP F F _ _ _ h
set_option maxHeartbeats 4000000 in
set_option maxRecDepth 20000 in
theorem w12_ready_43 {E : EnvT} {G : GT} {RP : Option AV → Mem → Prop} {i1 : Int32} (hG : Cl E 192 8 tb_192 G RP) {r : Int32 × Mem} (hRP : RP (some (.int r.1, 0)) r.2) (F : Nat) : ∀ (d2 : Option AV) (σ : Mem), m12_ready_43 F i1 σ = some r → G 43 [some (.ref 483, 12), some (.int i1, 0), d2] [] σ := by
  intro d2 σ h
  refine bk hG (cut := [16, 43]) 400 ?_
  unfold m12_ready_43 at h
  have ⟨_, hc, h⟩ := b_some h
  refine Exists.intro _ (Exists.intro _ (Exists.intro _ (And.intro (c12_jobOf F _ _ _ hc) (And.intro (by decide) (And.intro (fun q => absurd q (by decide)) ?_)))))
  have ⟨_, hc, h⟩ := b_some h
  refine Exists.intro _ (Exists.intro _ (Exists.intro _ (And.intro (c12_laysBack F _ hc) (And.intro (by decide) (And.intro (fun q => absurd q (by decide)) ?_)))))
  refine And.intro (fun hq => ?_) (fun hq => ?_)
  · have h := i_pos hq h
    have e := Option.some.inj h
    subst e
    exact hRP
  · have h := i_neg hq h
    have e := Option.some.inj h
    subst e
    exact hRP
set_option maxHeartbeats 4000000 in
set_option maxRecDepth 20000 in
theorem w12_ready_16 {E : EnvT} {G : GT} {RP : Option AV → Mem → Prop} {i1 : Int32} (hG : Cl E 192 8 tb_192 G RP) {r : Int32 × Mem} (hRP : RP (some (.int r.1, 0)) r.2) (F : Nat) : ∀ (n : Nat) (x2 : Int32) (σ : Mem), m12_ready_16 F i1 n x2 σ = some r → G 16 [some (.ref 483, 12), some (.int i1, 0), some (.int x2, 0)] [] σ := by
  intro n
  induction n with
  | zero => intro x2 σ h; unfold m12_ready_16 at h; cases h
  | succ n ih =>
    intro x2 σ h
    refine bk hG (cut := [16, 43]) 400 ?_
    unfold m12_ready_16 at h
    refine And.intro (fun hq => ?_) (fun hq => ?_)
    · have h := i_pos hq h
      exact w12_ready_43 hG hRP F _ _ h
    · have h := i_neg hq h
      have ⟨_, hc, h⟩ := b_some h
      refine Exists.intro _ (Exists.intro _ (Exists.intro _ (And.intro (c12_jobOf F _ _ _ hc) (And.intro (by decide) (And.intro (fun q => absurd q (by decide)) ?_)))))
      refine And.intro (fun hq => ?_) (fun hq => ?_)
      · have h := i_pos hq h
        exact w12_ready_43 hG hRP F _ _ h
      · have h := i_neg hq h
        have ⟨_, hc, h⟩ := b_some h
        refine Exists.intro _ (Exists.intro _ (Exists.intro _ (And.intro (c12_passes F _ hc) (And.intro (by decide) (And.intro (fun q => absurd q (by decide)) ?_)))))
        exact ih _ _ h
set_option maxHeartbeats 4000000 in
set_option maxRecDepth 20000 in
theorem c12_ready {E : EnvT} (F : Nat) (i1 : Int32) (σ : Mem) {r : Int32 × Mem} (h : m12_ready F i1 σ = some r) : MetAt E 8 192 [(.ref 483, 12), (.int i1, 0)] σ (some (.int r.1, 0)) r.2 := by
  unfold m12_ready at h
  refine MetAt_of (tb := tb_192) (by decide) tbok_192 (Nat.le_of_ble_eq_true rfl) (fun a q => by cases q; trivial) (fun G hG => ?_)
  have hRP : (fun (a : Option AV) (τ : Mem) => a.map (conc E) = ((some (.int r.1, 0)) : Option AV).map (conc E) ∧ τ = r.2) (some (.int r.1, 0)) r.2 := ⟨rfl, rfl⟩
  change G 0 [some (.ref 483, 12), some (.int i1, 0), none] [] σ
  refine bk hG (cut := [16, 43]) 400 ?_
  have ⟨_, hc, h⟩ := b_some h
  refine Exists.intro _ (Exists.intro _ (Exists.intro _ (And.intro (c12_isJob F _ _ hc) (And.intro (by decide) (And.intro (fun q => absurd q (by decide)) ?_)))))
  refine And.intro (fun hq => ?_) (fun hq => ?_)
  · have h := i_pos hq h
    have e := Option.some.inj h
    subst e
    exact hRP
  · have h := i_neg hq h
    have ⟨_, hc, h⟩ := b_some h
    refine Exists.intro _ (Exists.intro _ (Exists.intro _ (And.intro (c12_keeps F _ hc) (And.intro (by decide) (And.intro (fun q => absurd q (by decide)) ?_)))))
    exact w12_ready_16 hG hRP F F _ _ h
set_option maxHeartbeats 4000000 in
set_option maxRecDepth 20000 in
theorem w12_areDone_2 {E : EnvT} {G : GT} {RP : Option AV → Mem → Prop} {σ : Mem} (hG : Cl E 193 1 tb_193 G RP) {r : Int32} (hRP : RP (some (.int r, 0)) σ) (F : Nat) : ∀ (n : Nat) (x1 : Int32), m12_areDone_2 F σ n x1 = some r → G 2 [some (.ref 483, 12), some (.int x1, 0)] [] σ := by
  intro n
  induction n with
  | zero => intro x1 h; unfold m12_areDone_2 at h; cases h
  | succ n ih =>
    intro x1 h
    refine bk hG (cut := [2]) 400 ?_
    unfold m12_areDone_2 at h
    have ⟨hg, h⟩ := g_gd h
    refine And.intro (inB_of hg) ?_
    refine And.intro (fun hq => ?_) (fun hq => ?_)
    · have h := i_pos hq h
      have e := Option.some.inj h
      subst e
      exact And.intro (Or.inr rfl) hRP
    · have h := i_neg hq h
      have ⟨_, hc, h⟩ := b_some h
      refine Exists.intro _ (Exists.intro _ (Exists.intro _ (And.intro (c12_jobOf F _ _ _ hc) (And.intro (by decide) (And.intro (fun q => absurd q (by decide)) ?_)))))
      refine And.intro (fun hq => ?_) (fun hq => ?_)
      · have h := i_pos hq h
        exact ih _ h
      · have h := i_neg hq h
        have e := Option.some.inj h
        subst e
        exact And.intro (Or.inl rfl) hRP
set_option maxHeartbeats 4000000 in
set_option maxRecDepth 20000 in
theorem c12_areDone {E : EnvT} (F : Nat)  (σ : Mem) {r : Int32} (h : m12_areDone F σ = some r) : MetAt E 1 193 [(.ref 483, 12)] σ (some (.int r, 0)) σ := by
  unfold m12_areDone at h
  refine MetAt_of (tb := tb_193) (by decide) tbok_193 (Nat.le_of_ble_eq_true rfl) (fun a q => by cases q; trivial) (fun G hG => ?_)
  have hRP : (fun (a : Option AV) (τ : Mem) => a.map (conc E) = ((some (.int r, 0)) : Option AV).map (conc E) ∧ τ = σ) (some (.int r, 0)) σ := ⟨rfl, rfl⟩
  change G 0 [some (.ref 483, 12), none] [] σ
  refine bk hG (cut := [2]) 400 ?_
  exact w12_areDone_2 hG hRP F F _ h
set_option maxHeartbeats 4000000 in
set_option maxRecDepth 20000 in
theorem w12_momentsLeft_31 {E : EnvT} {G : GT} {RP : Option AV → Mem → Prop} (hG : Cl E 194 8 tb_194 G RP) {r : Int32 × Mem} (hRP : RP (some (.int r.1, 0)) r.2) (F : Nat) : ∀ (x1 : Int32) (σ : Mem), m12_momentsLeft_31 F x1 σ = some r → G 31 [some (.ref 483, 12), some (.int x1, 0)] [] σ := by
  intro x1 σ h
  refine bk hG (cut := [6, 31]) 400 ?_
  unfold m12_momentsLeft_31 at h
  have ⟨_, hc, h⟩ := b_some h
  refine Exists.intro _ (Exists.intro _ (Exists.intro _ (And.intro (c12_laysBack F _ hc) (And.intro (by decide) (And.intro (fun q => absurd q (by decide)) ?_)))))
  have e := Option.some.inj h
  subst e
  exact hRP
set_option maxHeartbeats 4000000 in
set_option maxRecDepth 20000 in
theorem w12_momentsLeft_6 {E : EnvT} {G : GT} {RP : Option AV → Mem → Prop} (hG : Cl E 194 8 tb_194 G RP) {r : Int32 × Mem} (hRP : RP (some (.int r.1, 0)) r.2) (F : Nat) : ∀ (n : Nat) (x1 : Int32) (σ : Mem), m12_momentsLeft_6 F n x1 σ = some r → G 6 [some (.ref 483, 12), some (.int x1, 0)] [] σ := by
  intro n
  induction n with
  | zero => intro x1 σ h; unfold m12_momentsLeft_6 at h; cases h
  | succ n ih =>
    intro x1 σ h
    refine bk hG (cut := [6, 31]) 400 ?_
    unfold m12_momentsLeft_6 at h
    refine And.intro (fun hq => ?_) (fun hq => ?_)
    · have h := i_pos hq h
      exact w12_momentsLeft_31 hG hRP F _ _ h
    · have h := i_neg hq h
      have ⟨_, hc, h⟩ := b_some h
      refine Exists.intro _ (Exists.intro _ (Exists.intro _ (And.intro (c12_areDone F _ hc) (And.intro (by decide) (And.intro (fun q => absurd q (by decide)) ?_)))))
      refine And.intro (fun hq => ?_) (fun hq => ?_)
      · have h := i_pos hq h
        have ⟨_, hc, h⟩ := b_some h
        refine Exists.intro _ (Exists.intro _ (Exists.intro _ (And.intro (c12_passes F _ hc) (And.intro (by decide) (And.intro (fun q => absurd q (by decide)) ?_)))))
        exact ih _ _ h
      · have h := i_neg hq h
        exact w12_momentsLeft_31 hG hRP F _ _ h
set_option maxHeartbeats 4000000 in
set_option maxRecDepth 20000 in
theorem c12_momentsLeft {E : EnvT} (F : Nat)  (σ : Mem) {r : Int32 × Mem} (h : m12_momentsLeft F σ = some r) : MetAt E 8 194 [(.ref 483, 12)] σ (some (.int r.1, 0)) r.2 := by
  unfold m12_momentsLeft at h
  refine MetAt_of (tb := tb_194) (by decide) tbok_194 (Nat.le_of_ble_eq_true rfl) (fun a q => by cases q; trivial) (fun G hG => ?_)
  have hRP : (fun (a : Option AV) (τ : Mem) => a.map (conc E) = ((some (.int r.1, 0)) : Option AV).map (conc E) ∧ τ = r.2) (some (.int r.1, 0)) r.2 := ⟨rfl, rfl⟩
  change G 0 [some (.ref 483, 12), none] [] σ
  refine bk hG (cut := [6, 31]) 400 ?_
  have ⟨_, hc, h⟩ := b_some h
  refine Exists.intro _ (Exists.intro _ (Exists.intro _ (And.intro (c12_keeps F _ hc) (And.intro (by decide) (And.intro (fun q => absurd q (by decide)) ?_)))))
  exact w12_momentsLeft_6 hG hRP F F _ _ h
set_option maxHeartbeats 4000000 in
set_option maxRecDepth 20000 in
theorem c12_all {E : EnvT} (F : Nat)  (σ : Mem) {r : Int32 × Mem} (h : m12_all F σ = some r) : MetAt E 9 195 [(.ref 483, 12)] σ (some (.int r.1, 0)) r.2 := by
  unfold m12_all at h
  refine MetAt_of (tb := tb_195) (by decide) tbok_195 (Nat.le_of_ble_eq_true rfl) (fun a q => by cases q; trivial) (fun G hG => ?_)
  have hRP : (fun (a : Option AV) (τ : Mem) => a.map (conc E) = ((some (.int r.1, 0)) : Option AV).map (conc E) ∧ τ = r.2) (some (.int r.1, 0)) r.2 := ⟨rfl, rfl⟩
  change G 0 [some (.ref 483, 12), none] [] σ
  refine bk hG (cut := []) 400 ?_
  have ⟨_, hc, h⟩ := b_some h
  refine Exists.intro _ (Exists.intro _ (Exists.intro _ (And.intro (c12_isSmithy F _ hc) (And.intro (by decide) (And.intro (fun q => absurd q (by decide)) ?_)))))
  refine And.intro (fun hq => ?_) (fun hq => ?_)
  · have h := i_pos hq h
    have e := Option.some.inj h
    subst e
    exact hRP
  · have h := i_neg hq h
    have ⟨_, hc, h⟩ := b_some h
    refine Exists.intro _ (Exists.intro _ (Exists.intro _ (And.intro (c12_momentsLeft F _ hc) (And.intro (by decide) (And.intro (fun q => absurd q (by decide)) ?_)))))
    refine And.intro (fun hq => ?_) (fun hq => ?_)
    · have h := i_pos hq h
      have ⟨hg, h⟩ := g_gd h
      refine And.intro (inB_of hg) ?_
      have e := Option.some.inj h
      subst e
      exact hRP
    · have h := i_neg hq h
      have e := Option.some.inj h
      subst e
      exact hRP
set_option maxHeartbeats 4000000 in
set_option maxRecDepth 20000 in
theorem w12_power_4 {E : EnvT} {G : GT} {RP : Option AV → Mem → Prop} {i1 : Int32} {σ : Mem} (hG : Cl E 196 0 tb_196 G RP) {r : Int32} (hRP : RP (some (.int r, 0)) σ) (F : Nat) : ∀ (n : Nat) (x2 : Int32) (x3 : Int32), m12_power_4 F i1 σ n x2 x3 = some r → G 4 [some (.ref 483, 12), some (.int i1, 0), some (.int x2, 0), some (.int x3, 0)] [] σ := by
  intro n
  induction n with
  | zero => intro x2 x3 h; unfold m12_power_4 at h; cases h
  | succ n ih =>
    intro x2 x3 h
    refine bk hG (cut := [4]) 400 ?_
    unfold m12_power_4 at h
    have ⟨hg, h⟩ := g_gd h
    refine And.intro (inB_of hg) ?_
    refine And.intro (fun hq => ?_) (fun hq => ?_)
    · have h := i_pos hq h
      have e := Option.some.inj h
      subst e
      exact hRP
    · have h := i_neg hq h
      exact ih _ _ h
set_option maxHeartbeats 4000000 in
set_option maxRecDepth 20000 in
theorem c12_power {E : EnvT} (F : Nat) (i1 : Int32) (σ : Mem) {r : Int32} (h : m12_power F i1 σ = some r) : MetAt E 0 196 [(.ref 483, 12), (.int i1, 0)] σ (some (.int r, 0)) σ := by
  unfold m12_power at h
  refine MetAt_of (tb := tb_196) (by decide) tbok_196 (Nat.le_of_ble_eq_true rfl) (fun a q => by cases q; trivial) (fun G hG => ?_)
  have hRP : (fun (a : Option AV) (τ : Mem) => a.map (conc E) = ((some (.int r, 0)) : Option AV).map (conc E) ∧ τ = σ) (some (.int r, 0)) σ := ⟨rfl, rfl⟩
  change G 0 [some (.ref 483, 12), some (.int i1, 0), none, none] [] σ
  refine bk hG (cut := [4]) 400 ?_
  exact w12_power_4 hG hRP F F _ _ h
set_option maxHeartbeats 4000000 in
set_option maxRecDepth 20000 in
theorem c12_setIn {E : EnvT} (F : Nat) (i1 : Int32) (i2 : Int32) (i3 : Int32) (σ : Mem) {r : Int32} (h : m12_setIn F i1 i2 i3 σ = some r) : MetAt E 1 197 [(.ref 483, 12), (.int i1, 0), (.int i2, 0), (.int i3, 0)] σ (some (.int r, 0)) σ := by
  unfold m12_setIn at h
  refine MetAt_of (tb := tb_197) (by decide) tbok_197 (Nat.le_of_ble_eq_true rfl) (fun a q => by cases q; trivial) (fun G hG => ?_)
  have hRP : (fun (a : Option AV) (τ : Mem) => a.map (conc E) = ((some (.int r, 0)) : Option AV).map (conc E) ∧ τ = σ) (some (.int r, 0)) σ := ⟨rfl, rfl⟩
  change G 0 [some (.ref 483, 12), some (.int i1, 0), some (.int i2, 0), some (.int i3, 0)] [] σ
  refine bk hG (cut := []) 400 ?_
  have ⟨_, hc, h⟩ := b_some h
  refine Exists.intro _ (Exists.intro _ (Exists.intro _ (And.intro (c12_power F _ _ hc) (And.intro (by decide) (And.intro (fun q => absurd q (by decide)) ?_)))))
  have ⟨hg, h⟩ := g_gd h
  refine And.intro hg ?_
  have ⟨_, hc, h⟩ := b_some h
  refine Exists.intro _ (Exists.intro _ (Exists.intro _ (And.intro (c12_power F _ _ hc) (And.intro (by decide) (And.intro (fun q => absurd q (by decide)) ?_)))))
  have ⟨hg, h⟩ := g_gd h
  refine And.intro hg ?_
  have e := Option.some.inj h
  subst e
  exact hRP
set_option maxHeartbeats 4000000 in
set_option maxRecDepth 20000 in
theorem w12_blowsBy_9 {E : EnvT} {G : GT} {RP : Option AV → Mem → Prop} {i1 : Int32} {i2 : Int32} (hG : Cl E 198 8 tb_198 G RP) {r : Int32 × Mem} (hRP : RP (some (.int r.1, 0)) r.2) (F : Nat) : ∀ (n : Nat) (x3 : Int32) (x4 : Int32) (σ : Mem), m12_blowsBy_9 F i1 i2 n x3 x4 σ = some r → G 9 [some (.ref 483, 12), some (.int i1, 0), some (.int i2, 0), some (.int x3, 0), some (.int x4, 0)] [] σ := by
  intro n
  induction n with
  | zero => intro x3 x4 σ h; unfold m12_blowsBy_9 at h; cases h
  | succ n ih =>
    intro x3 x4 σ h
    refine bk hG (cut := [9]) 400 ?_
    unfold m12_blowsBy_9 at h
    refine And.intro (fun hq => ?_) (fun hq => ?_)
    · have h := i_pos hq h
      have ⟨_, hc, h⟩ := b_some h
      refine Exists.intro _ (Exists.intro _ (Exists.intro _ (And.intro (c12_laysBack F _ hc) (And.intro (by decide) (And.intro (fun q => absurd q (by decide)) ?_)))))
      have e := Option.some.inj h
      subst e
      exact hRP
    · have h := i_neg hq h
      have ⟨_, hc, h⟩ := b_some h
      refine Exists.intro _ (Exists.intro _ (Exists.intro _ (And.intro (c12_setIn F _ _ _ _ hc) (And.intro (by decide) (And.intro (fun q => absurd q (by decide)) ?_)))))
      have ⟨_, hc, h⟩ := b_some h
      refine Exists.intro _ (Exists.intro _ (Exists.intro _ (And.intro (c12_passes F _ hc) (And.intro (by decide) (And.intro (fun q => absurd q (by decide)) ?_)))))
      exact ih _ _ _ h
set_option maxHeartbeats 4000000 in
set_option maxRecDepth 20000 in
theorem c12_blowsBy {E : EnvT} (F : Nat) (i1 : Int32) (i2 : Int32) (σ : Mem) {r : Int32 × Mem} (h : m12_blowsBy F i1 i2 σ = some r) : MetAt E 8 198 [(.ref 483, 12), (.int i1, 0), (.int i2, 0)] σ (some (.int r.1, 0)) r.2 := by
  unfold m12_blowsBy at h
  refine MetAt_of (tb := tb_198) (by decide) tbok_198 (Nat.le_of_ble_eq_true rfl) (fun a q => by cases q; trivial) (fun G hG => ?_)
  have hRP : (fun (a : Option AV) (τ : Mem) => a.map (conc E) = ((some (.int r.1, 0)) : Option AV).map (conc E) ∧ τ = r.2) (some (.int r.1, 0)) r.2 := ⟨rfl, rfl⟩
  change G 0 [some (.ref 483, 12), some (.int i1, 0), some (.int i2, 0), none, none] [] σ
  refine bk hG (cut := [9]) 400 ?_
  have ⟨_, hc, h⟩ := b_some h
  refine Exists.intro _ (Exists.intro _ (Exists.intro _ (And.intro (c12_keeps F _ hc) (And.intro (by decide) (And.intro (fun q => absurd q (by decide)) ?_)))))
  exact w12_blowsBy_9 hG hRP F F _ _ _ h
set_option maxHeartbeats 4000000 in
set_option maxRecDepth 20000 in
theorem w12_rota_41 {E : EnvT} {G : GT} {RP : Option AV → Mem → Prop} {i1 : Int32} {i2 : Int32} (hG : Cl E 199 9 tb_199 G RP) {r : Int32 × Mem} (hRP : RP (some (.int r.1, 0)) r.2) (F : Nat) : ∀ (n : Nat) (x3 : Int32) (x4 : Int32) (x5 : Int32) (d6 : Option AV) (σ : Mem), m12_rota_41 F i1 i2 n x3 x4 x5 σ = some r → G 41 [some (.ref 483, 12), some (.int i1, 0), some (.int i2, 0), some (.int x3, 0), some (.int x4, 0), some (.int x5, 0), d6] [] σ := by
  intro n
  induction n with
  | zero => intro x3 x4 x5 d6 σ h; unfold m12_rota_41 at h; cases h
  | succ n ih =>
    intro x3 x4 x5 d6 σ h
    refine bk hG (cut := [41]) 400 ?_
    unfold m12_rota_41 at h
    have ⟨_, hc, h⟩ := b_some h
    refine Exists.intro _ (Exists.intro _ (Exists.intro _ (And.intro (c12_power F _ _ hc) (And.intro (by decide) (And.intro (fun q => absurd q (by decide)) ?_)))))
    refine And.intro (fun hq => ?_) (fun hq => ?_)
    · have h := i_pos hq h
      refine And.intro (fun hq => ?_) (fun hq => ?_)
      · have h := i_pos hq h
        have e := Option.some.inj h
        subst e
        exact hRP
      · have h := i_neg hq h
        refine And.intro (fun hq => ?_) (fun hq => ?_)
        · have h := i_pos hq h
          have ⟨_, hc, h⟩ := b_some h
          refine Exists.intro _ (Exists.intro _ (Exists.intro _ (And.intro (c12_setIn F _ _ _ _ hc) (And.intro (by decide) (And.intro (fun q => absurd q (by decide)) ?_)))))
          have e := Option.some.inj h
          subst e
          exact hRP
        · have h := i_neg hq h
          have e := Option.some.inj h
          subst e
          exact hRP
    · have h := i_neg hq h
      have ⟨_, hc, h⟩ := b_some h
      refine Exists.intro _ (Exists.intro _ (Exists.intro _ (And.intro (c12_blowsBy F _ _ _ hc) (And.intro (by decide) (And.intro (fun q => absurd q (by decide)) ?_)))))
      refine And.intro (fun hq => ?_) (fun hq => ?_)
      · have h := i_pos hq h
        exact ih _ _ _ _ _ h
      · have h := i_neg hq h
        refine And.intro (fun hq => ?_) (fun hq => ?_)
        · have h := i_pos hq h
          exact ih _ _ _ _ _ h
        · have h := i_neg hq h
          exact ih _ _ _ _ _ h
set_option maxHeartbeats 4000000 in
set_option maxRecDepth 20000 in
theorem c12_rota {E : EnvT} (F : Nat) (i1 : Int32) (i2 : Int32) (σ : Mem) {r : Int32 × Mem} (h : m12_rota F i1 i2 σ = some r) : MetAt E 9 199 [(.ref 483, 12), (.int i1, 0), (.int i2, 0)] σ (some (.int r.1, 0)) r.2 := by
  unfold m12_rota at h
  refine MetAt_of (tb := tb_199) (by decide) tbok_199 (Nat.le_of_ble_eq_true rfl) (fun a q => by cases q; trivial) (fun G hG => ?_)
  have hRP : (fun (a : Option AV) (τ : Mem) => a.map (conc E) = ((some (.int r.1, 0)) : Option AV).map (conc E) ∧ τ = r.2) (some (.int r.1, 0)) r.2 := ⟨rfl, rfl⟩
  change G 0 [some (.ref 483, 12), some (.int i1, 0), some (.int i2, 0), none, none, none, none] [] σ
  refine bk hG (cut := [41]) 400 ?_
  have ⟨_, hc, h⟩ := b_some h
  refine Exists.intro _ (Exists.intro _ (Exists.intro _ (And.intro (c12_isSmithy F _ hc) (And.intro (by decide) (And.intro (fun q => absurd q (by decide)) ?_)))))
  refine And.intro (fun hq => ?_) (fun hq => ?_)
  · have h := i_pos hq h
    have e := Option.some.inj h
    subst e
    exact hRP
  · have h := i_neg hq h
    have ⟨_, hc, h⟩ := b_some h
    refine Exists.intro _ (Exists.intro _ (Exists.intro _ (And.intro (c12_in F _ _ _ _ hc) (And.intro (by decide) ?_))))
    refine And.intro (fun hq => ?_) (fun hq => ?_)
    · have h := i_pos hq h
      have e := Option.some.inj h
      subst e
      exact hRP
    · have h := i_neg hq h
      have ⟨_, hc, h⟩ := b_some h
      refine Exists.intro _ (Exists.intro _ (Exists.intro _ (And.intro (c12_in F _ _ _ _ hc) (And.intro (by decide) ?_))))
      refine And.intro (fun hq => ?_) (fun hq => ?_)
      · have h := i_pos hq h
        have e := Option.some.inj h
        subst e
        exact hRP
      · have h := i_neg hq h
        exact w12_rota_41 hG hRP F F _ _ _ _ _ h
set_option maxHeartbeats 4000000 in
set_option maxRecDepth 20000 in
theorem w12_heatsThen_58 {E : EnvT} {G : GT} {RP : Option AV → Mem → Prop} {i1 : Int32} (hG : Cl E 200 8 tb_200 G RP) {r : Int32 × Mem} (hRP : RP (some (.int r.1, 0)) r.2) (F : Nat) : ∀ (n : Nat) (x3 : Int32) (x4 : Int32) (d2 : Option AV) (σ : Mem), m12_heatsThen_58 F i1 n x3 x4 σ = some r → G 58 [some (.ref 483, 12), some (.int i1, 0), d2, some (.int x3, 0), some (.int x4, 0)] [] σ := by
  intro n
  induction n with
  | zero => intro x3 x4 d2 σ h; unfold m12_heatsThen_58 at h; cases h
  | succ n ih =>
    intro x3 x4 d2 σ h
    refine bk hG (cut := [4, 58]) 400 ?_
    unfold m12_heatsThen_58 at h
    refine And.intro (fun hq => ?_) (fun hq => ?_)
    · have h := i_pos hq h
      have e := Option.some.inj h
      subst e
      exact hRP
    · have h := i_neg hq h
      have ⟨_, hc, h⟩ := b_some h
      refine Exists.intro _ (Exists.intro _ (Exists.intro _ (And.intro (c12_smithOf F _ _ _ hc) (And.intro (by decide) (And.intro (fun q => absurd q (by decide)) ?_)))))
      exact ih _ _ _ _ h
set_option maxHeartbeats 4000000 in
set_option maxRecDepth 20000 in
theorem w12_heatsThen_4 {E : EnvT} {G : GT} {RP : Option AV → Mem → Prop} {i1 : Int32} (hG : Cl E 200 8 tb_200 G RP) {r : Int32 × Mem} (hRP : RP (some (.int r.1, 0)) r.2) (F : Nat) : ∀ (n : Nat) (x2 : Int32) (x3 : Int32) (d4 : Option AV) (σ : Mem), m12_heatsThen_4 F i1 n x2 x3 σ = some r → G 4 [some (.ref 483, 12), some (.int i1, 0), some (.int x2, 0), some (.int x3, 0), d4] [] σ := by
  intro n
  induction n with
  | zero => intro x2 x3 d4 σ h; unfold m12_heatsThen_4 at h; cases h
  | succ n ih =>
    intro x2 x3 d4 σ h
    refine bk hG (cut := [4, 58]) 400 ?_
    unfold m12_heatsThen_4 at h
    have ⟨hg, h⟩ := g_gd h
    refine And.intro (inB_of hg) ?_
    refine And.intro (fun hq => ?_) (fun hq => ?_)
    · have h := i_pos hq h
      have ⟨_, hc, h⟩ := b_some h
      refine Exists.intro _ (Exists.intro _ (Exists.intro _ (And.intro (c12_passes F _ hc) (And.intro (by decide) (And.intro (fun q => absurd q (by decide)) ?_)))))
      have ⟨hg, h⟩ := g_gd h
      refine And.intro (inB_of hg) ?_
      exact w12_heatsThen_58 hG hRP F F _ _ _ _ h
    · have h := i_neg hq h
      refine And.intro (by decide) ?_
      have ⟨hg, h⟩ := g_gd h
      refine And.intro (inB_of hg) ?_
      refine And.intro (by decide) ?_
      exact ih _ _ _ _ h
set_option maxHeartbeats 4000000 in
set_option maxRecDepth 20000 in
theorem c12_heatsThen {E : EnvT} (F : Nat) (i1 : Int32) (σ : Mem) {r : Int32 × Mem} (h : m12_heatsThen F i1 σ = some r) : MetAt E 8 200 [(.ref 483, 12), (.int i1, 0)] σ (some (.int r.1, 0)) r.2 := by
  unfold m12_heatsThen at h
  refine MetAt_of (tb := tb_200) (by decide) tbok_200 (Nat.le_of_ble_eq_true rfl) (fun a q => by cases q; trivial) (fun G hG => ?_)
  have hRP : (fun (a : Option AV) (τ : Mem) => a.map (conc E) = ((some (.int r.1, 0)) : Option AV).map (conc E) ∧ τ = r.2) (some (.int r.1, 0)) r.2 := ⟨rfl, rfl⟩
  change G 0 [some (.ref 483, 12), some (.int i1, 0), none, none, none] [] σ
  refine bk hG (cut := [4, 58]) 400 ?_
  exact w12_heatsThen_4 hG hRP F F _ _ _ _ h
set_option maxHeartbeats 4000000 in
set_option maxRecDepth 20000 in
theorem w12_roundNow_106 {E : EnvT} {G : GT} {RP : Option AV → Mem → Prop} (hG : Cl E 201 9 tb_201 G RP) {r : Int32 × Mem} (hRP : RP (some (.int r.1, 0)) r.2) (F : Nat) {k88 : Int32 → Int32 → Int32 → Mem → Option (Int32 × Mem)} (hk88 : ∀ (x1 : Int32) (x2 : Int32) (x3 : Int32) (d4 : Option AV) (σ : Mem), k88 x1 x2 x3 σ = some r → G 88 [some (.ref 483, 12), some (.int x1, 0), some (.int x2, 0), some (.int x3, 0), d4] [] σ) : ∀ (n : Nat) (x1 : Int32) (x2 : Int32) (x3 : Int32) (x4 : Int32) (σ : Mem), m12_roundNow_106 F k88 n x1 x2 x3 x4 σ = some r → G 106 [some (.ref 483, 12), some (.int x1, 0), some (.int x2, 0), some (.int x3, 0), some (.int x4, 0)] [] σ := by
  intro n
  induction n with
  | zero => intro x1 x2 x3 x4 σ h; unfold m12_roundNow_106 at h; cases h
  | succ n ih =>
    intro x1 x2 x3 x4 σ h
    refine bk hG (cut := [11, 39, 68, 88, 97, 106]) 400 ?_
    unfold m12_roundNow_106 at h
    have ⟨hg, h⟩ := g_gd h
    refine And.intro (inB_of hg) ?_
    refine And.intro (fun hq => ?_) (fun hq => ?_)
    · have h := i_pos hq h
      exact hk88 _ _ _ _ _ h
    · have h := i_neg hq h
      have ⟨hg, h⟩ := g_gd h
      refine And.intro (inB_of hg) ?_
      have ⟨hg, h⟩ := g_gd h
      refine And.intro (inB_of hg) ?_
      have ⟨hg, h⟩ := g_gd h
      refine And.intro (inB_of hg) ?_
      exact ih _ _ _ _ _ h
set_option maxHeartbeats 4000000 in
set_option maxRecDepth 20000 in
theorem w12_roundNow_97 {E : EnvT} {G : GT} {RP : Option AV → Mem → Prop} (hG : Cl E 201 9 tb_201 G RP) {r : Int32 × Mem} (hRP : RP (some (.int r.1, 0)) r.2) (F : Nat) {k88 : Int32 → Int32 → Int32 → Mem → Option (Int32 × Mem)} (hk88 : ∀ (x1 : Int32) (x2 : Int32) (x3 : Int32) (d4 : Option AV) (σ : Mem), k88 x1 x2 x3 σ = some r → G 88 [some (.ref 483, 12), some (.int x1, 0), some (.int x2, 0), some (.int x3, 0), d4] [] σ) : ∀ (x1 : Int32) (x2 : Int32) (x3 : Int32) (d4 : Option AV) (σ : Mem), m12_roundNow_97 F k88 x1 x2 x3 σ = some r → G 97 [some (.ref 483, 12), some (.int x1, 0), some (.int x2, 0), some (.int x3, 0), d4] [] σ := by
  intro x1 x2 x3 d4 σ h
  refine bk hG (cut := [11, 39, 68, 88, 97, 106]) 400 ?_
  unfold m12_roundNow_97 at h
  have ⟨_, hc, h⟩ := b_some h
  refine Exists.intro _ (Exists.intro _ (Exists.intro _ (And.intro (c12_heatsThen F _ _ hc) (And.intro (by decide) (And.intro (fun q => absurd q (by decide)) ?_)))))
  exact w12_roundNow_106 hG hRP F (fun _ _ _ _ _ h => hk88 _ _ _ _ _ h) F _ _ _ _ _ h
set_option maxHeartbeats 4000000 in
set_option maxRecDepth 20000 in
theorem w12_roundNow_88 {E : EnvT} {G : GT} {RP : Option AV → Mem → Prop} (hG : Cl E 201 9 tb_201 G RP) {r : Int32 × Mem} (hRP : RP (some (.int r.1, 0)) r.2) (F : Nat) : ∀ (n : Nat) (x1 : Int32) (x2 : Int32) (x3 : Int32) (d4 : Option AV) (σ : Mem), m12_roundNow_88 F n x1 x2 x3 σ = some r → G 88 [some (.ref 483, 12), some (.int x1, 0), some (.int x2, 0), some (.int x3, 0), d4] [] σ := by
  intro n
  induction n with
  | zero => intro x1 x2 x3 d4 σ h; unfold m12_roundNow_88 at h; cases h
  | succ n ih =>
    intro x1 x2 x3 d4 σ h
    refine bk hG (cut := [11, 39, 68, 88, 97, 106]) 400 ?_
    unfold m12_roundNow_88 at h
    refine And.intro (fun hq => ?_) (fun hq => ?_)
    · have h := i_pos hq h
      exact w12_roundNow_97 hG hRP F (fun _ _ _ _ _ h => ih _ _ _ _ _ h) _ _ _ _ _ h
    · have h := i_neg hq h
      refine And.intro (fun hq => ?_) (fun hq => ?_)
      · have h := i_pos hq h
        have e := Option.some.inj h
        subst e
        exact hRP
      · have h := i_neg hq h
        exact w12_roundNow_97 hG hRP F (fun _ _ _ _ _ h => ih _ _ _ _ _ h) _ _ _ _ _ h
set_option maxHeartbeats 4000000 in
set_option maxRecDepth 20000 in
theorem w12_roundNow_68 {E : EnvT} {G : GT} {RP : Option AV → Mem → Prop} (hG : Cl E 201 9 tb_201 G RP) {r : Int32 × Mem} (hRP : RP (some (.int r.1, 0)) r.2) (F : Nat) : ∀ (n : Nat) (x1 : Int32) (x2 : Int32) (x3 : Int32) (x4 : Int32) (σ : Mem), m12_roundNow_68 F n x1 x2 x3 x4 σ = some r → G 68 [some (.ref 483, 12), some (.int x1, 0), some (.int x2, 0), some (.int x3, 0), some (.int x4, 0)] [] σ := by
  intro n
  induction n with
  | zero => intro x1 x2 x3 x4 σ h; unfold m12_roundNow_68 at h; cases h
  | succ n ih =>
    intro x1 x2 x3 x4 σ h
    refine bk hG (cut := [11, 39, 68, 88, 97, 106]) 400 ?_
    unfold m12_roundNow_68 at h
    refine And.intro (fun hq => ?_) (fun hq => ?_)
    · have h := i_pos hq h
      exact w12_roundNow_88 hG hRP F F _ _ _ _ _ h
    · have h := i_neg hq h
      have ⟨hg, h⟩ := g_gd h
      refine And.intro (inB_of hg) ?_
      exact ih _ _ _ _ _ h
set_option maxHeartbeats 4000000 in
set_option maxRecDepth 20000 in
theorem w12_roundNow_39 {E : EnvT} {G : GT} {RP : Option AV → Mem → Prop} (hG : Cl E 201 9 tb_201 G RP) {r : Int32 × Mem} (hRP : RP (some (.int r.1, 0)) r.2) (F : Nat) : ∀ (n : Nat) (x1 : Int32) (x2 : Int32) (d3 : Option AV) (d4 : Option AV) (σ : Mem), m12_roundNow_39 F n x1 x2 σ = some r → G 39 [some (.ref 483, 12), some (.int x1, 0), some (.int x2, 0), d3, d4] [] σ := by
  intro n
  induction n with
  | zero => intro x1 x2 d3 d4 σ h; unfold m12_roundNow_39 at h; cases h
  | succ n ih =>
    intro x1 x2 d3 d4 σ h
    refine bk hG (cut := [11, 39, 68, 88, 97, 106]) 400 ?_
    unfold m12_roundNow_39 at h
    refine And.intro (fun hq => ?_) (fun hq => ?_)
    · have h := i_pos hq h
      exact w12_roundNow_68 hG hRP F F _ _ _ _ _ h
    · have h := i_neg hq h
      have ⟨_, hc, h⟩ := b_some h
      refine Exists.intro _ (Exists.intro _ (Exists.intro _ (And.intro (c12_heatsThen F _ _ hc) (And.intro (by decide) (And.intro (fun q => absurd q (by decide)) ?_)))))
      have ⟨_, hc, h⟩ := b_some h
      refine Exists.intro _ (Exists.intro _ (Exists.intro _ (And.intro (c12_heatsThen F _ _ hc) (And.intro (by decide) (And.intro (fun q => absurd q (by decide)) ?_)))))
      have ⟨_, hc, h⟩ := b_some h
      refine Exists.intro _ (Exists.intro _ (Exists.intro _ (And.intro (c12_heatsThen F _ _ hc) (And.intro (by decide) (And.intro (fun q => absurd q (by decide)) ?_)))))
      exact ih _ _ _ _ _ h
set_option maxHeartbeats 4000000 in
set_option maxRecDepth 20000 in
theorem w12_roundNow_11 {E : EnvT} {G : GT} {RP : Option AV → Mem → Prop} (hG : Cl E 201 9 tb_201 G RP) {r : Int32 × Mem} (hRP : RP (some (.int r.1, 0)) r.2) (F : Nat) : ∀ (n : Nat) (x1 : Int32) (x2 : Int32) (d3 : Option AV) (d4 : Option AV) (σ : Mem), m12_roundNow_11 F n x1 x2 σ = some r → G 11 [some (.ref 483, 12), some (.int x1, 0), some (.int x2, 0), d3, d4] [] σ := by
  intro n
  induction n with
  | zero => intro x1 x2 d3 d4 σ h; unfold m12_roundNow_11 at h; cases h
  | succ n ih =>
    intro x1 x2 d3 d4 σ h
    refine bk hG (cut := [11, 39, 68, 88, 97, 106]) 400 ?_
    unfold m12_roundNow_11 at h
    refine And.intro (fun hq => ?_) (fun hq => ?_)
    · have h := i_pos hq h
      have ⟨_, hc, h⟩ := b_some h
      refine Exists.intro _ (Exists.intro _ (Exists.intro _ (And.intro (c12_heatsThen F _ _ hc) (And.intro (by decide) (And.intro (fun q => absurd q (by decide)) ?_)))))
      exact w12_roundNow_39 hG hRP F F _ _ _ _ _ h
    · have h := i_neg hq h
      have ⟨_, hc, h⟩ := b_some h
      refine Exists.intro _ (Exists.intro _ (Exists.intro _ (And.intro (c12_smithOf F _ _ _ hc) (And.intro (by decide) (And.intro (fun q => absurd q (by decide)) ?_)))))
      exact ih _ _ _ _ _ h
set_option maxHeartbeats 4000000 in
set_option maxRecDepth 20000 in
theorem c12_roundNow {E : EnvT} (F : Nat)  (σ : Mem) {r : Int32 × Mem} (h : m12_roundNow F σ = some r) : MetAt E 9 201 [(.ref 483, 12)] σ (some (.int r.1, 0)) r.2 := by
  unfold m12_roundNow at h
  refine MetAt_of (tb := tb_201) (by decide) tbok_201 (Nat.le_of_ble_eq_true rfl) (fun a q => by cases q; trivial) (fun G hG => ?_)
  have hRP : (fun (a : Option AV) (τ : Mem) => a.map (conc E) = ((some (.int r.1, 0)) : Option AV).map (conc E) ∧ τ = r.2) (some (.int r.1, 0)) r.2 := ⟨rfl, rfl⟩
  change G 0 [some (.ref 483, 12), none, none, none, none] [] σ
  refine bk hG (cut := [11, 39, 68, 88, 97, 106]) 400 ?_
  have ⟨hg, h⟩ := g_gd h
  refine And.intro (inB_of hg) ?_
  exact w12_roundNow_11 hG hRP F F _ _ _ _ _ h
set_option maxHeartbeats 4000000 in
set_option maxRecDepth 20000 in
theorem c12_round {E : EnvT} (F : Nat) (i1 : Int32) (σ : Mem) {r : Int32 × Mem} (h : m12_round F i1 σ = some r) : MetAt E 10 202 [(.ref 483, 12), (.int i1, 0)] σ (some (.int r.1, 0)) r.2 := by
  unfold m12_round at h
  refine MetAt_of (tb := tb_202) (by decide) tbok_202 (Nat.le_of_ble_eq_true rfl) (fun a q => by cases q; trivial) (fun G hG => ?_)
  have hRP : (fun (a : Option AV) (τ : Mem) => a.map (conc E) = ((some (.int r.1, 0)) : Option AV).map (conc E) ∧ τ = r.2) (some (.int r.1, 0)) r.2 := ⟨rfl, rfl⟩
  change G 0 [some (.ref 483, 12), some (.int i1, 0), none] [] σ
  refine bk hG (cut := []) 400 ?_
  have ⟨_, hc, h⟩ := b_some h
  refine Exists.intro _ (Exists.intro _ (Exists.intro _ (And.intro (c12_isSmithy F _ hc) (And.intro (by decide) (And.intro (fun q => absurd q (by decide)) ?_)))))
  refine And.intro (fun hq => ?_) (fun hq => ?_)
  · have h := i_pos hq h
    have e := Option.some.inj h
    subst e
    exact hRP
  · have h := i_neg hq h
    have ⟨_, hc, h⟩ := b_some h
    refine Exists.intro _ (Exists.intro _ (Exists.intro _ (And.intro (c12_in F _ _ _ _ hc) (And.intro (by decide) ?_))))
    refine And.intro (fun hq => ?_) (fun hq => ?_)
    · have h := i_pos hq h
      have e := Option.some.inj h
      subst e
      exact hRP
    · have h := i_neg hq h
      have ⟨_, hc, h⟩ := b_some h
      refine Exists.intro _ (Exists.intro _ (Exists.intro _ (And.intro (c12_keeps F _ hc) (And.intro (by decide) (And.intro (fun q => absurd q (by decide)) ?_)))))
      refine And.intro (Or.inr rfl) ?_
      have ⟨_, hc, h⟩ := b_some h
      refine Exists.intro _ (Exists.intro _ (Exists.intro _ (And.intro (c12_roundNow F _ hc) (And.intro (by decide) (And.intro (fun q => absurd q (by decide)) ?_)))))
      refine And.intro (Or.inl rfl) ?_
      have ⟨_, hc, h⟩ := b_some h
      refine Exists.intro _ (Exists.intro _ (Exists.intro _ (And.intro (c12_laysBack F _ hc) (And.intro (by decide) (And.intro (fun q => absurd q (by decide)) ?_)))))
      refine And.intro (fun hq => ?_) (fun hq => ?_)
      · have h := i_pos hq h
        have e := Option.some.inj h
        subst e
        exact hRP
      · have h := i_neg hq h
        have ⟨hg, h⟩ := g_gd h
        refine And.intro (inB_of hg) ?_
        refine And.intro (fun hq => ?_) (fun hq => ?_)
        · have h := i_pos hq h
          have ⟨hg, h⟩ := g_gd h
          refine And.intro (inB_of hg) ?_
          have e := Option.some.inj h
          subst e
          exact hRP
        · have h := i_neg hq h
          have e := Option.some.inj h
          subst e
          exact hRP
set_option maxHeartbeats 4000000 in
set_option maxRecDepth 20000 in
theorem w12_ninth_4 {E : EnvT} {G : GT} {RP : Option AV → Mem → Prop} {i0 : Int32} {σ : Mem} (hG : Cl E 203 0 tb_203 G RP) {r : Int32} (hRP : RP (some (.int r, 0)) σ) (F : Nat) : ∀ (n : Nat) (x1 : Int32) (x2 : Int32), m12_ninth_4 F i0 σ n x1 x2 = some r → G 4 [some (.int i0, 0), some (.int x1, 0), some (.int x2, 0)] [] σ := by
  intro n
  induction n with
  | zero => intro x1 x2 h; unfold m12_ninth_4 at h; cases h
  | succ n ih =>
    intro x1 x2 h
    refine bk hG (cut := [4]) 400 ?_
    unfold m12_ninth_4 at h
    refine And.intro (fun hq => ?_) (fun hq => ?_)
    · have h := i_pos hq h
      have e := Option.some.inj h
      subst e
      exact hRP
    · have h := i_neg hq h
      exact ih _ _ h
set_option maxHeartbeats 4000000 in
set_option maxRecDepth 20000 in
theorem c12_ninth {E : EnvT} (F : Nat) (i0 : Int32) (σ : Mem) {r : Int32} (h : m12_ninth F i0 σ = some r) : MetAt E 0 203 [(.int i0, 0)] σ (some (.int r, 0)) σ := by
  unfold m12_ninth at h
  refine MetAt_of (tb := tb_203) (by decide) tbok_203 (Nat.le_of_ble_eq_true rfl) (fun a q => by cases q; trivial) (fun G hG => ?_)
  have hRP : (fun (a : Option AV) (τ : Mem) => a.map (conc E) = ((some (.int r, 0)) : Option AV).map (conc E) ∧ τ = σ) (some (.int r, 0)) σ := ⟨rfl, rfl⟩
  change G 0 [some (.int i0, 0), none, none] [] σ
  refine bk hG (cut := [4]) 400 ?_
  exact w12_ninth_4 hG hRP F F _ _ h
set_option maxHeartbeats 4000000 in
set_option maxRecDepth 20000 in
theorem c12_jobIn {E : EnvT} (F : Nat) (i1 : Int32) (i2 : Int32) (σ : Mem) {r : Int32} (h : m12_jobIn F i1 i2 σ = some r) : MetAt E 1 204 [(.ref 483, 12), (.int i1, 0), (.int i2, 0)] σ (some (.int r, 0)) σ := by
  unfold m12_jobIn at h
  refine MetAt_of (tb := tb_204) (by decide) tbok_204 (Nat.le_of_ble_eq_true rfl) (fun a q => by cases q; trivial) (fun G hG => ?_)
  have hRP : (fun (a : Option AV) (τ : Mem) => a.map (conc E) = ((some (.int r, 0)) : Option AV).map (conc E) ∧ τ = σ) (some (.int r, 0)) σ := ⟨rfl, rfl⟩
  change G 0 [some (.ref 483, 12), some (.int i1, 0), some (.int i2, 0)] [] σ
  refine bk hG (cut := []) 400 ?_
  have ⟨hg, h⟩ := g_gd h
  refine And.intro (inB_of hg) ?_
  have ⟨_, hc, h⟩ := b_some h
  refine Exists.intro _ (Exists.intro _ (Exists.intro _ (And.intro (c12_ninth F _ _ hc) (And.intro (by decide) ?_))))
  have ⟨hg, h⟩ := g_gd h
  refine And.intro hg ?_
  refine And.intro (by decide) ?_
  have e := Option.some.inj h
  subst e
  exact hRP
set_option maxHeartbeats 4000000 in
set_option maxRecDepth 20000 in
theorem w12_countsBeside_140 {E : EnvT} {G : GT} {RP : Option AV → Mem → Prop} {i1 : Int32} (hG : Cl E 205 2 tb_205 G RP) {r : Mem} (hRP : RP none r) (F : Nat) : ∀ (n : Nat) (x5 : Int32) (d2 : Option AV) (d3 : Option AV) (d4 : Option AV) (d6 : Option AV) (σ : Mem), m12_countsBeside_140 F i1 n x5 σ = some r → G 140 [some (.ref 483, 12), some (.int i1, 0), d2, d3, d4, some (.int x5, 0), d6] [] σ := by
  intro n
  induction n with
  | zero => intro x5 d2 d3 d4 d6 σ h; unfold m12_countsBeside_140 at h; cases h
  | succ n ih =>
    intro x5 d2 d3 d4 d6 σ h
    refine bk hG (cut := [10, 126, 140]) 400 ?_
    unfold m12_countsBeside_140 at h
    have ⟨hg, h⟩ := g_gd h
    refine And.intro (inB_of hg) ?_
    refine And.intro (fun hq => ?_) (fun hq => ?_)
    · have h := i_pos hq h
      have e := Option.some.inj h
      subst e
      exact hRP
    · have h := i_neg hq h
      have ⟨_, hc, h⟩ := b_some h
      refine Exists.intro _ (Exists.intro _ (Exists.intro _ (And.intro (c12_jobIn F _ _ _ hc) (And.intro (by decide) (And.intro (fun q => absurd q (by decide)) ?_)))))
      have ⟨hg, h⟩ := g_gd h
      refine And.intro (inB_of hg) ?_
      exact ih _ _ _ _ _ _ h
set_option maxHeartbeats 4000000 in
set_option maxRecDepth 20000 in
theorem w12_countsBeside_126 {E : EnvT} {G : GT} {RP : Option AV → Mem → Prop} {i1 : Int32} (hG : Cl E 205 2 tb_205 G RP) {r : Mem} (hRP : RP none r) (F : Nat) : ∀ (x3 : Int32) (x4 : Int32) (d2 : Option AV) (d5 : Option AV) (d6 : Option AV) (σ : Mem), m12_countsBeside_126 F i1 x3 x4 σ = some r → G 126 [some (.ref 483, 12), some (.int i1, 0), d2, some (.int x3, 0), some (.int x4, 0), d5, d6] [] σ := by
  intro x3 x4 d2 d5 d6 σ h
  refine bk hG (cut := [10, 126, 140]) 400 ?_
  unfold m12_countsBeside_126 at h
  exact w12_countsBeside_140 hG hRP F F _ _ _ _ _ _ h
set_option maxHeartbeats 4000000 in
set_option maxRecDepth 20000 in
theorem w12_countsBeside_10 {E : EnvT} {G : GT} {RP : Option AV → Mem → Prop} {i1 : Int32} (hG : Cl E 205 2 tb_205 G RP) {r : Mem} (hRP : RP none r) (F : Nat) : ∀ (n : Nat) (x2 : Int32) (x3 : Int32) (x4 : Int32) (x5 : Int32) (d6 : Option AV) (σ : Mem), m12_countsBeside_10 F i1 n x2 x3 x4 x5 σ = some r → G 10 [some (.ref 483, 12), some (.int i1, 0), some (.int x2, 0), some (.int x3, 0), some (.int x4, 0), some (.int x5, 0), d6] [] σ := by
  intro n
  induction n with
  | zero => intro x2 x3 x4 x5 d6 σ h; unfold m12_countsBeside_10 at h; cases h
  | succ n ih =>
    intro x2 x3 x4 x5 d6 σ h
    refine bk hG (cut := [10, 126, 140]) 400 ?_
    unfold m12_countsBeside_10 at h
    have ⟨hg, h⟩ := g_gd h
    refine And.intro (inB_of hg) ?_
    refine And.intro (fun hq => ?_) (fun hq => ?_)
    · have h := i_pos hq h
      refine And.intro (fun hq => ?_) (fun hq => ?_)
      · have h := i_pos hq h
        have e := Option.some.inj h
        subst e
        exact hRP
      · have h := i_neg hq h
        refine And.intro (fun hq => ?_) (fun hq => ?_)
        · have h := i_pos hq h
          refine And.intro (fun hq => ?_) (fun hq => ?_)
          · have h := i_pos hq h
            exact w12_countsBeside_126 hG hRP F _ _ _ _ _ _ h
          · have h := i_neg hq h
            have e := Option.some.inj h
            subst e
            exact hRP
        · have h := i_neg hq h
          exact w12_countsBeside_126 hG hRP F _ _ _ _ _ _ h
    · have h := i_neg hq h
      have ⟨_, hc, h⟩ := b_some h
      refine Exists.intro _ (Exists.intro _ (Exists.intro _ (And.intro (c12_jobIn F _ _ _ hc) (And.intro (by decide) (And.intro (fun q => absurd q (by decide)) ?_)))))
      refine And.intro (fun hq => ?_) (fun hq => ?_)
      · have h := i_pos hq h
        have ⟨_, hc, h⟩ := b_some h
        refine Exists.intro _ (Exists.intro _ (Exists.intro _ (And.intro (c12_isJob F _ _ hc) (And.intro (by decide) (And.intro (fun q => absurd q (by decide)) ?_)))))
        refine And.intro (fun hq => ?_) (fun hq => ?_)
        · have h := i_pos hq h
          have e := Option.some.inj h
          subst e
          exact hRP
        · have h := i_neg hq h
          have ⟨_, hc, h⟩ := b_some h
          refine Exists.intro _ (Exists.intro _ (Exists.intro _ (And.intro (c12_isOpen F _ _ _ hc) (And.intro (by decide) (And.intro (fun q => absurd q (by decide)) ?_)))))
          refine And.intro (fun hq => ?_) (fun hq => ?_)
          · have h := i_pos hq h
            have e := Option.some.inj h
            subst e
            exact hRP
          · have h := i_neg hq h
            have ⟨_, hc, h⟩ := b_some h
            refine Exists.intro _ (Exists.intro _ (Exists.intro _ (And.intro (c12_needs F _ _ hc) (And.intro (by decide) (And.intro (fun q => absurd q (by decide)) ?_)))))
            refine And.intro (fun hq => ?_) (fun hq => ?_)
            · have h := i_pos hq h
              have ⟨_, hc, h⟩ := b_some h
              refine Exists.intro _ (Exists.intro _ (Exists.intro _ (And.intro (c12_needs F _ _ hc) (And.intro (by decide) (And.intro (fun q => absurd q (by decide)) ?_)))))
              have ⟨_, hc, h⟩ := b_some h
              refine Exists.intro _ (Exists.intro _ (Exists.intro _ (And.intro (c12_jobOf F _ _ _ hc) (And.intro (by decide) (And.intro (fun q => absurd q (by decide)) ?_)))))
              exact ih _ _ _ _ _ _ h
            · have h := i_neg hq h
              have e := Option.some.inj h
              subst e
              exact hRP
      · have h := i_neg hq h
        exact ih _ _ _ _ _ _ h
set_option maxHeartbeats 4000000 in
set_option maxRecDepth 20000 in
theorem c12_countsBeside {E : EnvT} (F : Nat) (i1 : Int32) (σ : Mem) {r : Mem} (h : m12_countsBeside F i1 σ = some r) : MetAt E 2 205 [(.ref 483, 12), (.int i1, 0)] σ none r := by
  unfold m12_countsBeside at h
  refine MetAt_of (tb := tb_205) (by decide) tbok_205 (Nat.le_of_ble_eq_true rfl) (fun a q => by cases q) (fun G hG => ?_)
  have hRP : (fun (a : Option AV) (τ : Mem) => a.map (conc E) = (none : Option AV).map (conc E) ∧ τ = r) none r := ⟨rfl, rfl⟩
  change G 0 [some (.ref 483, 12), some (.int i1, 0), none, none, none, none, none] [] σ
  refine bk hG (cut := [10, 126, 140]) 400 ?_
  exact w12_countsBeside_10 hG hRP F F _ _ _ _ _ _ h
