set_option maxHeartbeats 4000000 in
set_option maxRecDepth 20000 in
theorem c0_putFirst {E : EnvT} (F : Nat) (c1 : Nat) (i2 : Int32) (i3 : Int32) (σ : Mem) {r : Mem} (h : m0_putFirst F c1 i2 i3 σ = some r) : MetAt E 2 6 [(.ref 56, 0), (.ref c1, 7), (.int i2, 0), (.int i3, 0)] σ none r := by
  unfold m0_putFirst at h
  refine MetAt_of (tb := tb_6) (by decide) tbok_6 (Nat.le_of_ble_eq_true rfl) (fun a q => by cases q) (fun G hG => ?_)
  have hRP : (fun (a : Option AV) (τ : Mem) => a.map (conc E) = (none : Option AV).map (conc E) ∧ τ = r) none r := ⟨rfl, rfl⟩
  change G 0 [some (.ref 56, 0), some (.ref c1, 7), some (.int i2, 0), some (.int i3, 0)] [] σ
  refine bk hG (cut := []) 400 ?_
  refine And.intro (fun hq => ?_) (fun hq => ?_)
  · have h := i_pos hq h
    have ⟨hg, h⟩ := g_gd h
    refine And.intro (inB_of hg) ?_
    have e := Option.some.inj h
    subst e
    exact hRP
  · have h := i_neg hq h
    have ⟨_, hc, h⟩ := b_some h
    refine Exists.intro _ (Exists.intro _ (Exists.intro _ (And.intro (c7_jobOf F _ _ _ _ hc) (And.intro (by decide) (And.intro (fun q => absurd q (by decide)) ?_)))))
    refine And.intro (fun hq => ?_) (fun hq => ?_)
    · have h := i_pos hq h
      have ⟨hg, h⟩ := g_gd h
      refine And.intro (inB_of hg) ?_
      have e := Option.some.inj h
      subst e
      exact hRP
    · have h := i_neg hq h
      have ⟨hg, h⟩ := g_gd h
      refine And.intro (inB_of hg) ?_
      have ⟨hg, h⟩ := g_gd h
      refine And.intro (inB_of hg) ?_
      have e := Option.some.inj h
      subst e
      exact hRP
set_option maxHeartbeats 4000000 in
set_option maxRecDepth 20000 in
theorem w0_chooseJobs_169 {E : EnvT} {G : GT} {RP : Option AV → Mem → Prop} {D : Nat} {i1 : Int32} {i2 : Int32} {rec : Int32 → Int32 → Mem → Option (Mem)} (hG : Cl E 5 (4 + 1 * (D + 1)) tb_5 G RP) {r : Mem} (hRP : RP none r) (F : Nat) (hrec : ∀ (i1 : Int32) (i2 : Int32) (σ : Mem) {r : Mem}, rec i1 i2 σ = some r → MetAt E (4 + 1 * D) 5 [(.ref 56, 0), (.int i1, 0), (.int i2, 0)] σ none r) {k11 : Int32 → Mem → Option (Mem)} (hk11 : ∀ (x3 : Int32) (d4 : Option AV) (d5 : Option AV) (σ : Mem), k11 x3 σ = some r → G 11 [some (.ref 56, 0), some (.int i1, 0), some (.int i2, 0), some (.int x3, 0), d4, d5] [] σ) : ∀ (x3 : Int32) (x4 : Nat) (x5 : Int32) (σ : Mem), m0_chooseJobs_169 F rec i1 i2 k11 x3 x4 x5 σ = some r → G 169 [some (.ref 56, 0), some (.int i1, 0), some (.int i2, 0), some (.int x3, 0), some (.ref x4, 7), some (.int x5, 0)] [] σ := by
  intro x3 x4 x5 σ h
  refine bk hG (cut := [11, 85, 91, 132, 169]) 400 ?_
  unfold m0_chooseJobs_169 at h
  have ⟨hg, h⟩ := g_gd h
  refine And.intro (inB_of hg) ?_
  have ⟨hg, h⟩ := g_gd h
  refine And.intro (inB_of hg) ?_
  refine And.intro (fun hq => ?_) (fun hq => ?_)
  · have h := i_pos hq h
    have ⟨_, hc, h⟩ := b_some h
    refine Exists.intro _ (Exists.intro _ (Exists.intro _ (And.intro (c0_keepRow F _ hc) (And.intro (by omega) (And.intro (fun q => absurd q (by decide)) ?_)))))
    exact hk11 _ _ _ _ h
  · have h := i_neg hq h
    exact hk11 _ _ _ _ h
set_option maxHeartbeats 4000000 in
set_option maxRecDepth 20000 in
theorem w0_chooseJobs_132 {E : EnvT} {G : GT} {RP : Option AV → Mem → Prop} {D : Nat} {i1 : Int32} {i2 : Int32} {rec : Int32 → Int32 → Mem → Option (Mem)} (hG : Cl E 5 (4 + 1 * (D + 1)) tb_5 G RP) {r : Mem} (hRP : RP none r) (F : Nat) (hrec : ∀ (i1 : Int32) (i2 : Int32) (σ : Mem) {r : Mem}, rec i1 i2 σ = some r → MetAt E (4 + 1 * D) 5 [(.ref 56, 0), (.int i1, 0), (.int i2, 0)] σ none r) {k11 : Int32 → Mem → Option (Mem)} (hk11 : ∀ (x3 : Int32) (d4 : Option AV) (d5 : Option AV) (σ : Mem), k11 x3 σ = some r → G 11 [some (.ref 56, 0), some (.int i1, 0), some (.int i2, 0), some (.int x3, 0), d4, d5] [] σ) : ∀ (x3 : Int32) (x4 : Nat) (x5 : Int32) (σ : Mem), m0_chooseJobs_132 F rec i1 i2 k11 x3 x4 x5 σ = some r → G 132 [some (.ref 56, 0), some (.int i1, 0), some (.int i2, 0), some (.int x3, 0), some (.ref x4, 7), some (.int x5, 0)] [] σ := by
  intro x3 x4 x5 σ h
  refine bk hG (cut := [11, 85, 91, 132, 169]) 400 ?_
  unfold m0_chooseJobs_132 at h
  have ⟨hg, h⟩ := g_gd h
  refine And.intro (inB_of hg) ?_
  have ⟨hg, h⟩ := g_gd h
  refine And.intro (inB_of hg) ?_
  refine And.intro (fun hq => ?_) (fun hq => ?_)
  · have h := i_pos hq h
    refine And.intro (fun hq => ?_) (fun hq => ?_)
    · have h := i_pos hq h
      exact w0_chooseJobs_169 hG hRP F hrec (fun _ _ _ _ h => hk11 _ _ _ _ h) _ _ _ _ h
    · have h := i_neg hq h
      have ⟨_, hc, h⟩ := b_some h
      refine Exists.intro _ (Exists.intro _ (Exists.intro _ (And.intro (hrec _ _ _ hc) (And.intro (by omega) (And.intro (fun q => absurd q (by decide)) ?_)))))
      exact hk11 _ _ _ _ h
  · have h := i_neg hq h
    exact w0_chooseJobs_169 hG hRP F hrec (fun _ _ _ _ h => hk11 _ _ _ _ h) _ _ _ _ h
set_option maxHeartbeats 4000000 in
set_option maxRecDepth 20000 in
theorem w0_chooseJobs_91 {E : EnvT} {G : GT} {RP : Option AV → Mem → Prop} {D : Nat} {i1 : Int32} {i2 : Int32} {rec : Int32 → Int32 → Mem → Option (Mem)} (hG : Cl E 5 (4 + 1 * (D + 1)) tb_5 G RP) {r : Mem} (hRP : RP none r) (F : Nat) (hrec : ∀ (i1 : Int32) (i2 : Int32) (σ : Mem) {r : Mem}, rec i1 i2 σ = some r → MetAt E (4 + 1 * D) 5 [(.ref 56, 0), (.int i1, 0), (.int i2, 0)] σ none r) {k11 : Int32 → Mem → Option (Mem)} (hk11 : ∀ (x3 : Int32) (d4 : Option AV) (d5 : Option AV) (σ : Mem), k11 x3 σ = some r → G 11 [some (.ref 56, 0), some (.int i1, 0), some (.int i2, 0), some (.int x3, 0), d4, d5] [] σ) : ∀ (n : Nat) (x3 : Int32) (x4 : Nat) (x5 : Int32) (σ : Mem), m0_chooseJobs_91 F rec i1 i2 k11 n x3 x4 x5 σ = some r → G 91 [some (.ref 56, 0), some (.int i1, 0), some (.int i2, 0), some (.int x3, 0), some (.ref x4, 7), some (.int x5, 0)] [] σ := by
  intro n
  induction n with
  | zero => intro x3 x4 x5 σ h; unfold m0_chooseJobs_91 at h; cases h
  | succ n ih =>
    intro x3 x4 x5 σ h
    refine bk hG (cut := [11, 85, 91, 132, 169]) 400 ?_
    unfold m0_chooseJobs_91 at h
    refine And.intro (fun hq => ?_) (fun hq => ?_)
    · have h := i_pos hq h
      exact w0_chooseJobs_132 hG hRP F hrec (fun _ _ _ _ h => hk11 _ _ _ _ h) _ _ _ _ h
    · have h := i_neg hq h
      have ⟨hg, h⟩ := g_gd h
      refine And.intro (inB_of hg) ?_
      have ⟨hg, h⟩ := g_gd h
      refine And.intro (inB_of hg) ?_
      refine And.intro (fun hq => ?_) (fun hq => ?_)
      · have h := i_pos hq h
        exact w0_chooseJobs_132 hG hRP F hrec (fun _ _ _ _ h => hk11 _ _ _ _ h) _ _ _ _ h
      · have h := i_neg hq h
        have ⟨_, hc, h⟩ := b_some h
        refine Exists.intro _ (Exists.intro _ (Exists.intro _ (And.intro (c2_go F _ _ hc) (And.intro (by omega) (And.intro (fun q => absurd q (by decide)) ?_)))))
        exact ih _ _ _ _ h
set_option maxHeartbeats 4000000 in
set_option maxRecDepth 20000 in
theorem w0_chooseJobs_85 {E : EnvT} {G : GT} {RP : Option AV → Mem → Prop} {D : Nat} {i1 : Int32} {i2 : Int32} {rec : Int32 → Int32 → Mem → Option (Mem)} (hG : Cl E 5 (4 + 1 * (D + 1)) tb_5 G RP) {r : Mem} (hRP : RP none r) (F : Nat) (hrec : ∀ (i1 : Int32) (i2 : Int32) (σ : Mem) {r : Mem}, rec i1 i2 σ = some r → MetAt E (4 + 1 * D) 5 [(.ref 56, 0), (.int i1, 0), (.int i2, 0)] σ none r) {k11 : Int32 → Mem → Option (Mem)} (hk11 : ∀ (x3 : Int32) (d4 : Option AV) (d5 : Option AV) (σ : Mem), k11 x3 σ = some r → G 11 [some (.ref 56, 0), some (.int i1, 0), some (.int i2, 0), some (.int x3, 0), d4, d5] [] σ) : ∀ (x3 : Int32) (x4 : Nat) (s1 : Nat) (s2 : Int32) (s3 : Int32) (d5 : Option AV) (σ : Mem), m0_chooseJobs_85 F rec i1 i2 k11 x3 x4 s1 s2 s3 σ = some r → G 85 [some (.ref 56, 0), some (.int i1, 0), some (.int i2, 0), some (.int x3, 0), some (.ref x4, 7), d5] [(.int s3, 0), (.int s2, 0), (.ref s1, 7), (.ref 56, 0)] σ := by
  intro x3 x4 s1 s2 s3 d5 σ h
  refine bk hG (cut := [11, 85, 91, 132, 169]) 400 ?_
  unfold m0_chooseJobs_85 at h
  have ⟨_, hc, h⟩ := b_some h
  refine Exists.intro _ (Exists.intro _ (Exists.intro _ (And.intro (c0_putFirst F _ _ _ _ hc) (And.intro (by omega) (And.intro (fun q => absurd q (by decide)) ?_)))))
  exact w0_chooseJobs_91 hG hRP F hrec (fun _ _ _ _ h => hk11 _ _ _ _ h) F _ _ _ _ h
set_option maxHeartbeats 4000000 in
set_option maxRecDepth 20000 in
theorem w0_chooseJobs_11 {E : EnvT} {G : GT} {RP : Option AV → Mem → Prop} {D : Nat} {i1 : Int32} {i2 : Int32} {rec : Int32 → Int32 → Mem → Option (Mem)} (hG : Cl E 5 (4 + 1 * (D + 1)) tb_5 G RP) {r : Mem} (hRP : RP none r) (F : Nat) (hrec : ∀ (i1 : Int32) (i2 : Int32) (σ : Mem) {r : Mem}, rec i1 i2 σ = some r → MetAt E (4 + 1 * D) 5 [(.ref 56, 0), (.int i1, 0), (.int i2, 0)] σ none r) : ∀ (n : Nat) (x3 : Int32) (d4 : Option AV) (d5 : Option AV) (σ : Mem), m0_chooseJobs_11 F rec i1 i2 n x3 σ = some r → G 11 [some (.ref 56, 0), some (.int i1, 0), some (.int i2, 0), some (.int x3, 0), d4, d5] [] σ := by
  intro n
  induction n with
  | zero => intro x3 d4 d5 σ h; unfold m0_chooseJobs_11 at h; cases h
  | succ n ih =>
    intro x3 d4 d5 σ h
    refine bk hG (cut := [11, 85, 91, 132, 169]) 400 ?_
    unfold m0_chooseJobs_11 at h
    refine And.intro (fun hq => ?_) (fun hq => ?_)
    · have h := i_pos hq h
      have e := Option.some.inj h
      subst e
      exact hRP
    · have h := i_neg hq h
      have ⟨hg, h⟩ := g_gd h
      refine And.intro (inB_of hg) ?_
      have ⟨hg, h⟩ := g_gd h
      refine And.intro (inB_of hg) ?_
      have ⟨_, hc, h⟩ := b_some h
      refine Exists.intro _ (Exists.intro _ (Exists.intro _ (And.intro (c7_copyFrom F _ _ _ hc) (And.intro (by omega) (And.intro (fun q => absurd q (by decide)) ?_)))))
      have ⟨hg, h⟩ := g_gd h
      refine And.intro (inB_of hg) ?_
      have ⟨hg, h⟩ := g_gd h
      refine And.intro (inB_of hg) ?_
      refine And.intro (fun hq => ?_) (fun hq => ?_)
      · have h := i_pos hq h
        exact ih _ _ _ _ h
      · have h := i_neg hq h
        have ⟨hg, h⟩ := g_gd h
        refine And.intro (inB_of hg) ?_
        have ⟨hg, h⟩ := g_gd h
        refine And.intro (inB_of hg) ?_
        have ⟨hg, h⟩ := g_gd h
        refine And.intro (inB_of hg) ?_
        refine And.intro (fun hq => ?_) (fun hq => ?_)
        · have h := i_pos hq h
          exact w0_chooseJobs_85 hG hRP F hrec (fun _ _ _ _ h => ih _ _ _ _ h) _ _ _ _ _ _ _ h
        · have h := i_neg hq h
          exact w0_chooseJobs_85 hG hRP F hrec (fun _ _ _ _ h => ih _ _ _ _ h) _ _ _ _ _ _ _ h
set_option maxHeartbeats 4000000 in
set_option maxRecDepth 20000 in
theorem c0_chooseJobs {E : EnvT} (F : Nat) : ∀ (D : Nat) (i1 : Int32) (i2 : Int32) (σ : Mem) {r : Mem}, m0_chooseJobs F D i1 i2 σ = some r → MetAt E (4 + 1 * D) 5 [(.ref 56, 0), (.int i1, 0), (.int i2, 0)] σ none r := by
  intro D
  induction D with
  | zero => intro i1 i2 σ r h; cases h
  | succ D ih =>
    intro i1 i2 σ r h
    have hrec := @ih
    change m0_chooseJobs_e F (m0_chooseJobs F D) i1 i2 σ = some r at h
    unfold m0_chooseJobs_e at h
    refine MetAt_of (tb := tb_5) (by decide) tbok_5 (Nat.le_of_ble_eq_true rfl) (fun a q => by cases q) (fun G hG => ?_)
    have hRP : (fun (a : Option AV) (τ : Mem) => a.map (conc E) = (none : Option AV).map (conc E) ∧ τ = r) none r := ⟨rfl, rfl⟩
    change G 0 [some (.ref 56, 0), some (.int i1, 0), some (.int i2, 0), none, none, none] [] σ
    refine bk hG (cut := [11, 85, 91, 132, 169]) 400 ?_
    refine And.intro (fun hq => ?_) (fun hq => ?_)
    · have h := i_pos hq h
      exact w0_chooseJobs_11 hG hRP F hrec F _ _ _ _ h
    · have h := i_neg hq h
      have e := Option.some.inj h
      subst e
      exact hRP
set_option maxHeartbeats 4000000 in
set_option maxRecDepth 20000 in
theorem w0_bestOrder_99 {E : EnvT} {G : GT} {RP : Option AV → Mem → Prop} {c1 : Nat} {i2 : Int32} {i3 : Int32} (hG : Cl E 4 12 tb_4 G RP) {r : Int32 × Mem} (hRP : RP (some (.int r.1, 0)) r.2) (F : Nat) : ∀ (s1 : Int32) (d4 : Option AV) (σ : Mem), m0_bestOrder_99 F c1 i2 i3 s1 σ = some r → G 99 [some (.ref 56, 0), some (.ref c1, 7), some (.int i2, 0), some (.int i3, 0), d4] [(.int s1, 0), (.ref 56, 0)] σ := by
  intro s1 d4 σ h
  refine bk hG (cut := [23, 84, 99]) 400 ?_
  unfold m0_bestOrder_99 at h
  have ⟨_, hc, h⟩ := b_some h
  refine Exists.intro _ (Exists.intro _ (Exists.intro _ (And.intro (c0_chooseJobs F 7 _ _ _ hc) (And.intro (by decide) (And.intro (fun q => absurd q (by decide)) ?_)))))
  refine And.intro (fun hq => ?_) (fun hq => ?_)
  · have h := i_pos hq h
    have e := Option.some.inj h
    subst e
    exact hRP
  · have h := i_neg hq h
    refine And.intro (fun hq => ?_) (fun hq => ?_)
    · have h := i_pos hq h
      refine And.intro (fun hq => ?_) (fun hq => ?_)
      · have h := i_pos hq h
        have e := Option.some.inj h
        subst e
        exact hRP
      · have h := i_neg hq h
        refine And.intro (fun hq => ?_) (fun hq => ?_)
        · have h := i_pos hq h
          have e := Option.some.inj h
          subst e
          exact hRP
        · have h := i_neg hq h
          have ⟨hg, h⟩ := g_gd h
          refine And.intro (inB_of hg) ?_
          have e := Option.some.inj h
          subst e
          exact hRP
    · have h := i_neg hq h
      have e := Option.some.inj h
      subst e
      exact hRP
set_option maxHeartbeats 4000000 in
set_option maxRecDepth 20000 in
theorem w0_bestOrder_84 {E : EnvT} {G : GT} {RP : Option AV → Mem → Prop} {c1 : Nat} {i2 : Int32} {i3 : Int32} (hG : Cl E 4 12 tb_4 G RP) {r : Int32 × Mem} (hRP : RP (some (.int r.1, 0)) r.2) (F : Nat) : ∀ (d4 : Option AV) (σ : Mem), m0_bestOrder_84 F c1 i2 i3 σ = some r → G 84 [some (.ref 56, 0), some (.ref c1, 7), some (.int i2, 0), some (.int i3, 0), d4] [] σ := by
  intro d4 σ h
  refine bk hG (cut := [23, 84, 99]) 400 ?_
  unfold m0_bestOrder_84 at h
  refine And.intro (fun hq => ?_) (fun hq => ?_)
  · have h := i_pos hq h
    exact w0_bestOrder_99 hG hRP F _ _ _ h
  · have h := i_neg hq h
    exact w0_bestOrder_99 hG hRP F _ _ _ h
set_option maxHeartbeats 4000000 in
set_option maxRecDepth 20000 in
theorem w0_bestOrder_23 {E : EnvT} {G : GT} {RP : Option AV → Mem → Prop} {c1 : Nat} {i2 : Int32} {i3 : Int32} (hG : Cl E 4 12 tb_4 G RP) {r : Int32 × Mem} (hRP : RP (some (.int r.1, 0)) r.2) (F : Nat) : ∀ (n : Nat) (x4 : Int32) (σ : Mem), m0_bestOrder_23 F c1 i2 i3 n x4 σ = some r → G 23 [some (.ref 56, 0), some (.ref c1, 7), some (.int i2, 0), some (.int i3, 0), some (.int x4, 0)] [] σ := by
  intro n
  induction n with
  | zero => intro x4 σ h; unfold m0_bestOrder_23 at h; cases h
  | succ n ih =>
    intro x4 σ h
    refine bk hG (cut := [23, 84, 99]) 400 ?_
    unfold m0_bestOrder_23 at h
    refine And.intro (fun hq => ?_) (fun hq => ?_)
    · have h := i_pos hq h
      exact w0_bestOrder_84 hG hRP F _ _ h
    · have h := i_neg hq h
      refine And.intro (fun hq => ?_) (fun hq => ?_)
      · have h := i_pos hq h
        exact w0_bestOrder_84 hG hRP F _ _ h
      · have h := i_neg hq h
        have ⟨_, hc, h⟩ := b_some h
        refine Exists.intro _ (Exists.intro _ (Exists.intro _ (And.intro (c7_isToDo F _ _ _ _ _ hc) (And.intro (by decide) (And.intro (fun q => absurd q (by decide)) ?_)))))
        refine And.intro (fun hq => ?_) (fun hq => ?_)
        · have h := i_pos hq h
          exact ih _ _ h
        · have h := i_neg hq h
          have ⟨hg, h⟩ := g_gd h
          refine And.intro (inB_of hg) ?_
          exact ih _ _ h
set_option maxHeartbeats 4000000 in
set_option maxRecDepth 20000 in
theorem c0_bestOrder {E : EnvT} (F : Nat) (c1 : Nat) (i2 : Int32) (i3 : Int32) (σ : Mem) {r : Int32 × Mem} (h : m0_bestOrder F c1 i2 i3 σ = some r) : MetAt E 12 4 [(.ref 56, 0), (.ref c1, 7), (.int i2, 0), (.int i3, 0)] σ (some (.int r.1, 0)) r.2 := by
  unfold m0_bestOrder at h
  refine MetAt_of (tb := tb_4) (by decide) tbok_4 (Nat.le_of_ble_eq_true rfl) (fun a q => by cases q; trivial) (fun G hG => ?_)
  have hRP : (fun (a : Option AV) (τ : Mem) => a.map (conc E) = ((some (.int r.1, 0)) : Option AV).map (conc E) ∧ τ = r.2) (some (.int r.1, 0)) r.2 := ⟨rfl, rfl⟩
  change G 0 [some (.ref 56, 0), some (.ref c1, 7), some (.int i2, 0), some (.int i3, 0), none] [] σ
  refine bk hG (cut := [23, 84, 99]) 400 ?_
  have ⟨hg, h⟩ := g_gd h
  refine And.intro (inB_of hg) ?_
  have ⟨_, hc, h⟩ := b_some h
  refine Exists.intro _ (Exists.intro _ (Exists.intro _ (And.intro (c7_copyFrom F _ _ _ hc) (And.intro (by decide) (And.intro (fun q => absurd q (by decide)) ?_)))))
  exact w0_bestOrder_23 hG hRP F F _ _ h
set_option maxHeartbeats 4000000 in
set_option maxRecDepth 20000 in
theorem w0_chooseBeside_73 {E : EnvT} {G : GT} {RP : Option AV → Mem → Prop} {D : Nat} {i1 : Int32} {i2 : Int32} {i3 : Int32} {i4 : Int32} {rec : Int32 → Int32 → Int32 → Int32 → Mem → Option (Mem)} (hG : Cl E 8 (1 + 1 * (D + 1)) tb_8 G RP) {r : Mem} (hRP : RP none r) (F : Nat) (hrec : ∀ (i1 : Int32) (i2 : Int32) (i3 : Int32) (i4 : Int32) (σ : Mem) {r : Mem}, rec i1 i2 i3 i4 σ = some r → MetAt E (1 + 1 * D) 8 [(.ref 56, 0), (.int i1, 0), (.int i2, 0), (.int i3, 0), (.int i4, 0)] σ none r) : ∀ (n : Nat) (x5 : Int32) (σ : Mem), m0_chooseBeside_73 F rec i1 i2 i3 i4 n x5 σ = some r → G 73 [some (.ref 56, 0), some (.int i1, 0), some (.int i2, 0), some (.int i3, 0), some (.int i4, 0), some (.int x5, 0)] [] σ := by
  intro n
  induction n with
  | zero => intro x5 σ h; unfold m0_chooseBeside_73 at h; cases h
  | succ n ih =>
    intro x5 σ h
    refine bk hG (cut := [36, 73]) 400 ?_
    unfold m0_chooseBeside_73 at h
    refine And.intro (fun hq => ?_) (fun hq => ?_)
    · have h := i_pos hq h
      have e := Option.some.inj h
      subst e
      exact hRP
    · have h := i_neg hq h
      have ⟨hg, h⟩ := g_gd h
      refine And.intro (inB_of hg) ?_
      have ⟨_, hc, h⟩ := b_some h
      refine Exists.intro _ (Exists.intro _ (Exists.intro _ (And.intro (c7_isToDo F _ _ _ _ _ hc) (And.intro (by omega) (And.intro (fun q => absurd q (by decide)) ?_)))))
      refine And.intro (fun hq => ?_) (fun hq => ?_)
      · have h := i_pos hq h
        exact ih _ _ h
      · have h := i_neg hq h
        have ⟨hg, h⟩ := g_gd h
        refine And.intro (inB_of hg) ?_
        refine And.intro (fun hq => ?_) (fun hq => ?_)
        · have h := i_pos hq h
          have ⟨hg, h⟩ := g_gd h
          refine And.intro (inB_of hg) ?_
          have ⟨hg, h⟩ := g_gd h
          refine And.intro (inB_of hg) ?_
          have ⟨hg, h⟩ := g_gd h
          refine And.intro (inB_of hg) ?_
          have ⟨_, hc, h⟩ := b_some h
          refine Exists.intro _ (Exists.intro _ (Exists.intro _ (And.intro (hrec _ _ _ _ _ hc) (And.intro (by omega) (And.intro (fun q => absurd q (by decide)) ?_)))))
          exact ih _ _ h
        · have h := i_neg hq h
          exact ih _ _ h
set_option maxHeartbeats 4000000 in
set_option maxRecDepth 20000 in
theorem w0_chooseBeside_36 {E : EnvT} {G : GT} {RP : Option AV → Mem → Prop} {D : Nat} {i1 : Int32} {i2 : Int32} {i3 : Int32} {i4 : Int32} {rec : Int32 → Int32 → Int32 → Int32 → Mem → Option (Mem)} (hG : Cl E 8 (1 + 1 * (D + 1)) tb_8 G RP) {r : Mem} (hRP : RP none r) (F : Nat) (hrec : ∀ (i1 : Int32) (i2 : Int32) (i3 : Int32) (i4 : Int32) (σ : Mem) {r : Mem}, rec i1 i2 i3 i4 σ = some r → MetAt E (1 + 1 * D) 8 [(.ref 56, 0), (.int i1, 0), (.int i2, 0), (.int i3, 0), (.int i4, 0)] σ none r) : ∀ (d5 : Option AV) (σ : Mem), m0_chooseBeside_36 F rec i1 i2 i3 i4 σ = some r → G 36 [some (.ref 56, 0), some (.int i1, 0), some (.int i2, 0), some (.int i3, 0), some (.int i4, 0), d5] [] σ := by
  intro d5 σ h
  refine bk hG (cut := [36, 73]) 400 ?_
  unfold m0_chooseBeside_36 at h
  have ⟨_, hc, h⟩ := b_some h
  refine Exists.intro _ (Exists.intro _ (Exists.intro _ (And.intro (c0_keepRow F _ hc) (And.intro (by omega) (And.intro (fun q => absurd q (by decide)) ?_)))))
  have e := Option.some.inj h
  subst e
  exact hRP
set_option maxHeartbeats 4000000 in
set_option maxRecDepth 20000 in
theorem c0_chooseBeside {E : EnvT} (F : Nat) : ∀ (D : Nat) (i1 : Int32) (i2 : Int32) (i3 : Int32) (i4 : Int32) (σ : Mem) {r : Mem}, m0_chooseBeside F D i1 i2 i3 i4 σ = some r → MetAt E (1 + 1 * D) 8 [(.ref 56, 0), (.int i1, 0), (.int i2, 0), (.int i3, 0), (.int i4, 0)] σ none r := by
  intro D
  induction D with
  | zero => intro i1 i2 i3 i4 σ r h; cases h
  | succ D ih =>
    intro i1 i2 i3 i4 σ r h
    have hrec := @ih
    change m0_chooseBeside_e F (m0_chooseBeside F D) i1 i2 i3 i4 σ = some r at h
    unfold m0_chooseBeside_e at h
    refine MetAt_of (tb := tb_8) (by decide) tbok_8 (Nat.le_of_ble_eq_true rfl) (fun a q => by cases q) (fun G hG => ?_)
    have hRP : (fun (a : Option AV) (τ : Mem) => a.map (conc E) = (none : Option AV).map (conc E) ∧ τ = r) none r := ⟨rfl, rfl⟩
    change G 0 [some (.ref 56, 0), some (.int i1, 0), some (.int i2, 0), some (.int i3, 0), some (.int i4, 0), none] [] σ
    refine bk hG (cut := [36, 73]) 400 ?_
    refine And.intro (fun hq => ?_) (fun hq => ?_)
    · have h := i_pos hq h
      have ⟨hg, h⟩ := g_gd h
      refine And.intro (inB_of hg) ?_
      have ⟨_, hc, h⟩ := b_some h
      refine Exists.intro _ (Exists.intro _ (Exists.intro _ (And.intro (hrec _ _ _ _ _ hc) (And.intro (by omega) (And.intro (fun q => absurd q (by decide)) ?_)))))
      exact w0_chooseBeside_73 hG hRP F hrec F _ _ h
    · have h := i_neg hq h
      refine And.intro (fun hq => ?_) (fun hq => ?_)
      · have h := i_pos hq h
        exact w0_chooseBeside_36 hG hRP F hrec _ _ h
      · have h := i_neg hq h
        refine And.intro (fun hq => ?_) (fun hq => ?_)
        · have h := i_pos hq h
          refine And.intro (fun hq => ?_) (fun hq => ?_)
          · have h := i_pos hq h
            have e := Option.some.inj h
            subst e
            exact hRP
          · have h := i_neg hq h
            exact w0_chooseBeside_36 hG hRP F hrec _ _ h
        · have h := i_neg hq h
          have e := Option.some.inj h
          subst e
          exact hRP
set_option maxHeartbeats 4000000 in
set_option maxRecDepth 20000 in
theorem w0_bestBeside_22 {E : EnvT} {G : GT} {RP : Option AV → Mem → Prop} {c1 : Nat} {i2 : Int32} (hG : Cl E 7 7 tb_7 G RP) {r : Int32 × Mem} (hRP : RP (some (.int r.1, 0)) r.2) (F : Nat) : ∀ (n : Nat) (x3 : Int32) (σ : Mem), m0_bestBeside_22 F c1 i2 n x3 σ = some r → G 22 [some (.ref 56, 0), some (.ref c1, 7), some (.int i2, 0), some (.int x3, 0)] [] σ := by
  intro n
  induction n with
  | zero => intro x3 σ h; unfold m0_bestBeside_22 at h; cases h
  | succ n ih =>
    intro x3 σ h
    refine bk hG (cut := [22]) 400 ?_
    unfold m0_bestBeside_22 at h
    refine And.intro (fun hq => ?_) (fun hq => ?_)
    · have h := i_pos hq h
      have ⟨_, hc, h⟩ := b_some h
      refine Exists.intro _ (Exists.intro _ (Exists.intro _ (And.intro (c0_chooseBeside F 5 _ _ _ _ _ hc) (And.intro (by decide) (And.intro (fun q => absurd q (by decide)) ?_)))))
      refine And.intro (fun hq => ?_) (fun hq => ?_)
      · have h := i_pos hq h
        have e := Option.some.inj h
        subst e
        exact hRP
      · have h := i_neg hq h
        refine And.intro (fun hq => ?_) (fun hq => ?_)
        · have h := i_pos hq h
          have e := Option.some.inj h
          subst e
          exact hRP
        · have h := i_neg hq h
          refine And.intro (fun hq => ?_) (fun hq => ?_)
          · have h := i_pos hq h
            have e := Option.some.inj h
            subst e
            exact hRP
          · have h := i_neg hq h
            have ⟨hg, h⟩ := g_gd h
            refine And.intro (inB_of hg) ?_
            have e := Option.some.inj h
            subst e
            exact hRP
    · have h := i_neg hq h
      have ⟨hg, h⟩ := g_gd h
      refine And.intro (inB_of hg) ?_
      exact ih _ _ h
set_option maxHeartbeats 4000000 in
set_option maxRecDepth 20000 in
theorem c0_bestBeside {E : EnvT} (F : Nat) (c1 : Nat) (i2 : Int32) (σ : Mem) {r : Int32 × Mem} (h : m0_bestBeside F c1 i2 σ = some r) : MetAt E 7 7 [(.ref 56, 0), (.ref c1, 7), (.int i2, 0)] σ (some (.int r.1, 0)) r.2 := by
  unfold m0_bestBeside at h
  refine MetAt_of (tb := tb_7) (by decide) tbok_7 (Nat.le_of_ble_eq_true rfl) (fun a q => by cases q; trivial) (fun G hG => ?_)
  have hRP : (fun (a : Option AV) (τ : Mem) => a.map (conc E) = ((some (.int r.1, 0)) : Option AV).map (conc E) ∧ τ = r.2) (some (.int r.1, 0)) r.2 := ⟨rfl, rfl⟩
  change G 0 [some (.ref 56, 0), some (.ref c1, 7), some (.int i2, 0), none] [] σ
  refine bk hG (cut := [22]) 400 ?_
  have ⟨hg, h⟩ := g_gd h
  refine And.intro (inB_of hg) ?_
  have ⟨_, hc, h⟩ := b_some h
  refine Exists.intro _ (Exists.intro _ (Exists.intro _ (And.intro (c7_copyFrom F _ _ _ hc) (And.intro (by decide) (And.intro (fun q => absurd q (by decide)) ?_)))))
  exact w0_bestBeside_22 hG hRP F F _ _ h
set_option maxHeartbeats 4000000 in
set_option maxRecDepth 20000 in
theorem c2_plain {E : EnvT} (F : Nat) (c1 : Nat) (σ : Mem) {r : Mem} (h : m2_plain F c1 σ = some r) : MetAt E 0 13 [(.ref 40, 2), (.ref c1, 50)] σ none r := by
  unfold m2_plain at h
  refine MetAt_of (tb := tb_13) (by decide) tbok_13 (Nat.le_of_ble_eq_true rfl) (fun a q => by cases q) (fun G hG => ?_)
  have hRP : (fun (a : Option AV) (τ : Mem) => a.map (conc E) = (none : Option AV).map (conc E) ∧ τ = r) none r := ⟨rfl, rfl⟩
  change G 0 [some (.ref 40, 2), some (.ref c1, 50)] [] σ
  refine bk hG (cut := []) 400 ?_
  refine And.intro (Or.inl rfl) ?_
  refine And.intro (Or.inl rfl) ?_
  refine And.intro (Or.inl rfl) ?_
  have e := Option.some.inj h
  subst e
  exact hRP
set_option maxHeartbeats 4000000 in
set_option maxRecDepth 20000 in
theorem w3_latest_4 {E : EnvT} {G : GT} {RP : Option AV → Mem → Prop} {c0 : Nat} {σ : Mem} (hG : Cl E 27 1 tb_27 G RP) {r : Int32} (hRP : RP (some (.int r, 0)) σ) (F : Nat) : ∀ (n : Nat) (x1 : Int32) (x2 : Int32), m3_latest_4 F c0 σ n x1 x2 = some r → G 4 [some (.ref c0, 3), some (.int x1, 0), some (.int x2, 0)] [] σ := by
  intro n
  induction n with
  | zero => intro x1 x2 h; unfold m3_latest_4 at h; cases h
  | succ n ih =>
    intro x1 x2 h
    refine bk hG (cut := [4]) 400 ?_
    unfold m3_latest_4 at h
    refine And.intro (fun hq => ?_) (fun hq => ?_)
    · have h := i_pos hq h
      have e := Option.some.inj h
      subst e
      exact hRP
    · have h := i_neg hq h
      have ⟨hg, h⟩ := g_gd h
      refine And.intro (inB_of hg) ?_
      exact ih _ _ h
set_option maxHeartbeats 4000000 in
set_option maxRecDepth 20000 in
theorem c3_latest {E : EnvT} (F : Nat) (c0 : Nat) (σ : Mem) {r : Int32} (h : m3_latest F c0 σ = some r) : MetAt E 1 27 [(.ref c0, 3)] σ (some (.int r, 0)) σ := by
  unfold m3_latest at h
  refine MetAt_of (tb := tb_27) (by decide) tbok_27 (Nat.le_of_ble_eq_true rfl) (fun a q => by cases q; trivial) (fun G hG => ?_)
  have hRP : (fun (a : Option AV) (τ : Mem) => a.map (conc E) = ((some (.int r, 0)) : Option AV).map (conc E) ∧ τ = σ) (some (.int r, 0)) σ := ⟨rfl, rfl⟩
  change G 0 [some (.ref c0, 3), none, none] [] σ
  refine bk hG (cut := [4]) 400 ?_
  exact w3_latest_4 hG hRP F F _ _ h
set_option maxHeartbeats 4000000 in
set_option maxRecDepth 20000 in
theorem w7_begin_95 {E : EnvT} {G : GT} {RP : Option AV → Mem → Prop} {c0 : Nat} {c1 : Nat} (hG : Cl E 51 0 tb_51 G RP) {r : Mem} (hRP : RP none r) (F : Nat) : ∀ (n : Nat) (x2 : Int32) (σ : Mem), m7_begin_95 F c0 c1 n x2 σ = some r → G 95 [some (.ref c0, 7), some (.ref c1, 4), some (.int x2, 0)] [] σ := by
  intro n
  induction n with
  | zero => intro x2 σ h; unfold m7_begin_95 at h; cases h
  | succ n ih =>
    intro x2 σ h
    refine bk hG (cut := [7, 55, 95]) 400 ?_
    unfold m7_begin_95 at h
    refine And.intro (fun hq => ?_) (fun hq => ?_)
    · have h := i_pos hq h
      have ⟨hg, h⟩ := g_gd h
      refine And.intro (inB_of hg) ?_
      have e := Option.some.inj h
      subst e
      exact hRP
    · have h := i_neg hq h
      have ⟨hg, h⟩ := g_gd h
      refine And.intro (inB_of hg) ?_
      have ⟨hg, h⟩ := g_gd h
      refine And.intro (inB_of hg) ?_
      exact ih _ _ h
set_option maxHeartbeats 4000000 in
set_option maxRecDepth 20000 in
theorem w7_begin_55 {E : EnvT} {G : GT} {RP : Option AV → Mem → Prop} {c0 : Nat} {c1 : Nat} (hG : Cl E 51 0 tb_51 G RP) {r : Mem} (hRP : RP none r) (F : Nat) : ∀ (n : Nat) (x2 : Int32) (σ : Mem), m7_begin_55 F c0 c1 n x2 σ = some r → G 55 [some (.ref c0, 7), some (.ref c1, 4), some (.int x2, 0)] [] σ := by
  intro n
  induction n with
  | zero => intro x2 σ h; unfold m7_begin_55 at h; cases h
  | succ n ih =>
    intro x2 σ h
    refine bk hG (cut := [7, 55, 95]) 400 ?_
    unfold m7_begin_55 at h
    refine And.intro (fun hq => ?_) (fun hq => ?_)
    · have h := i_pos hq h
      exact w7_begin_95 hG hRP F F _ _ h
    · have h := i_neg hq h
      have ⟨hg, h⟩ := g_gd h
      refine And.intro (inB_of hg) ?_
      have ⟨hg, h⟩ := g_gd h
      refine And.intro (inB_of hg) ?_
      have ⟨hg, h⟩ := g_gd h
      refine And.intro (inB_of hg) ?_
      have ⟨hg, h⟩ := g_gd h
      refine And.intro (inB_of hg) ?_
      exact ih _ _ h
set_option maxHeartbeats 4000000 in
set_option maxRecDepth 20000 in
theorem w7_begin_7 {E : EnvT} {G : GT} {RP : Option AV → Mem → Prop} {c0 : Nat} {c1 : Nat} (hG : Cl E 51 0 tb_51 G RP) {r : Mem} (hRP : RP none r) (F : Nat) : ∀ (n : Nat) (x2 : Int32) (σ : Mem), m7_begin_7 F c0 c1 n x2 σ = some r → G 7 [some (.ref c0, 7), some (.ref c1, 4), some (.int x2, 0)] [] σ := by
  intro n
  induction n with
  | zero => intro x2 σ h; unfold m7_begin_7 at h; cases h
  | succ n ih =>
    intro x2 σ h
    refine bk hG (cut := [7, 55, 95]) 400 ?_
    unfold m7_begin_7 at h
    refine And.intro (fun hq => ?_) (fun hq => ?_)
    · have h := i_pos hq h
      exact w7_begin_55 hG hRP F F _ _ h
    · have h := i_neg hq h
      have ⟨hg, h⟩ := g_gd h
      refine And.intro (inB_of hg) ?_
      have ⟨hg, h⟩ := g_gd h
      refine And.intro (inB_of hg) ?_
      have ⟨hg, h⟩ := g_gd h
      refine And.intro (inB_of hg) ?_
      have ⟨hg, h⟩ := g_gd h
      refine And.intro (inB_of hg) ?_
      have ⟨hg, h⟩ := g_gd h
      refine And.intro (inB_of hg) ?_
      exact ih _ _ h
set_option maxHeartbeats 4000000 in
set_option maxRecDepth 20000 in
theorem c7_begin {E : EnvT} (F : Nat) (c0 : Nat) (c1 : Nat) (σ : Mem) {r : Mem} (h : m7_begin F c0 c1 σ = some r) : MetAt E 0 51 [(.ref c0, 7), (.ref c1, 4)] σ none r := by
  unfold m7_begin at h
  refine MetAt_of (tb := tb_51) (by decide) tbok_51 (Nat.le_of_ble_eq_true rfl) (fun a q => by cases q) (fun G hG => ?_)
  have hRP : (fun (a : Option AV) (τ : Mem) => a.map (conc E) = (none : Option AV).map (conc E) ∧ τ = r) none r := ⟨rfl, rfl⟩
  change G 0 [some (.ref c0, 7), some (.ref c1, 4), none] [] σ
  refine bk hG (cut := [7, 55, 95]) 400 ?_
  exact w7_begin_7 hG hRP F F _ _ h
set_option maxHeartbeats 4000000 in
set_option maxRecDepth 20000 in
theorem w3_agree_2 {E : EnvT} {G : GT} {RP : Option AV → Mem → Prop} {c0 : Nat} {i1 : Int32} {c2 : Nat} {σ : Mem} (hG : Cl E 28 0 tb_28 G RP) {r : Int32} (hRP : RP (some (.int r, 0)) σ) (F : Nat) : ∀ (n : Nat) (x3 : Int32), m3_agree_2 F c0 i1 c2 σ n x3 = some r → G 2 [some (.ref c0, 3), some (.int i1, 0), some (.ref c2, 7), some (.int x3, 0)] [] σ := by
  intro n
  induction n with
  | zero => intro x3 h; unfold m3_agree_2 at h; cases h
  | succ n ih =>
    intro x3 h
    refine bk hG (cut := [2]) 400 ?_
    unfold m3_agree_2 at h
    refine And.intro (fun hq => ?_) (fun hq => ?_)
    · have h := i_pos hq h
      have e := Option.some.inj h
      subst e
      exact And.intro (Or.inr rfl) hRP
    · have h := i_neg hq h
      have ⟨hg, h⟩ := g_gd h
      refine And.intro (inB_of hg) ?_
      refine And.intro (fun hq => ?_) (fun hq => ?_)
      · have h := i_pos hq h
        have ⟨hg, h⟩ := g_gd h
        refine And.intro (inB_of hg) ?_
        have ⟨hg, h⟩ := g_gd h
        refine And.intro (inB_of hg) ?_
        have ⟨hg, h⟩ := g_gd h
        refine And.intro (inB_of hg) ?_
        refine And.intro (fun hq => ?_) (fun hq => ?_)
        · have h := i_pos hq h
          exact ih _ h
        · have h := i_neg hq h
          have e := Option.some.inj h
          subst e
          exact And.intro (Or.inl rfl) hRP
      · have h := i_neg hq h
        exact ih _ h
set_option maxHeartbeats 4000000 in
set_option maxRecDepth 20000 in
theorem c3_agree {E : EnvT} (F : Nat) (c0 : Nat) (i1 : Int32) (c2 : Nat) (σ : Mem) {r : Int32} (h : m3_agree F c0 i1 c2 σ = some r) : MetAt E 0 28 [(.ref c0, 3), (.int i1, 0), (.ref c2, 7)] σ (some (.int r, 0)) σ := by
  unfold m3_agree at h
  refine MetAt_of (tb := tb_28) (by decide) tbok_28 (Nat.le_of_ble_eq_true rfl) (fun a q => by cases q; trivial) (fun G hG => ?_)
  have hRP : (fun (a : Option AV) (τ : Mem) => a.map (conc E) = ((some (.int r, 0)) : Option AV).map (conc E) ∧ τ = σ) (some (.int r, 0)) σ := ⟨rfl, rfl⟩
  change G 0 [some (.ref c0, 3), some (.int i1, 0), some (.ref c2, 7), none] [] σ
  refine bk hG (cut := [2]) 400 ?_
  exact w3_agree_2 hG hRP F F _ h
set_option maxHeartbeats 4000000 in
set_option maxRecDepth 20000 in
theorem w1_fits_82 {E : EnvT} {G : GT} {RP : Option AV → Mem → Prop} {c1 : Nat} {i2 : Int32} (hG : Cl E 10 4 tb_10 G RP) {r : Int32 × Mem} (hRP : RP (some (.int r.1, 0)) r.2) (F : Nat) {k23 : Int32 → Int32 → Mem → Option (Int32 × Mem)} (hk23 : ∀ (x3 : Int32) (x4 : Int32) (d5 : Option AV) (σ : Mem), k23 x3 x4 σ = some r → G 23 [some (.ref 135, 1), some (.ref c1, 3), some (.int i2, 0), some (.int x3, 0), some (.int x4, 0), d5] [] σ) : ∀ (x3 : Int32) (x4 : Int32) (d5 : Option AV) (σ : Mem), m1_fits_82 F c1 i2 k23 x3 x4 σ = some r → G 82 [some (.ref 135, 1), some (.ref c1, 3), some (.int i2, 0), some (.int x3, 0), some (.int x4, 0), d5] [] σ := by
  intro x3 x4 d5 σ h
  refine bk hG (cut := [23, 53, 82]) 400 ?_
  unfold m1_fits_82 at h
  have ⟨_, hc, h⟩ := b_some h
  refine Exists.intro _ (Exists.intro _ (Exists.intro _ (And.intro (c2_go F _ _ hc) (And.intro (by decide) (And.intro (fun q => absurd q (by decide)) ?_)))))
  exact hk23 _ _ _ _ h
set_option maxHeartbeats 4000000 in
set_option maxRecDepth 20000 in
theorem w1_fits_53 {E : EnvT} {G : GT} {RP : Option AV → Mem → Prop} {c1 : Nat} {i2 : Int32} (hG : Cl E 10 4 tb_10 G RP) {r : Int32 × Mem} (hRP : RP (some (.int r.1, 0)) r.2) (F : Nat) {k82 : Int32 → Int32 → Mem → Option (Int32 × Mem)} (hk82 : ∀ (x3 : Int32) (x4 : Int32) (d5 : Option AV) (σ : Mem), k82 x3 x4 σ = some r → G 82 [some (.ref 135, 1), some (.ref c1, 3), some (.int i2, 0), some (.int x3, 0), some (.int x4, 0), d5] [] σ) : ∀ (n : Nat) (x3 : Int32) (x4 : Int32) (x5 : Int32) (σ : Mem), m1_fits_53 F c1 i2 k82 n x3 x4 x5 σ = some r → G 53 [some (.ref 135, 1), some (.ref c1, 3), some (.int i2, 0), some (.int x3, 0), some (.int x4, 0), some (.int x5, 0)] [] σ := by
  intro n
  induction n with
  | zero => intro x3 x4 x5 σ h; unfold m1_fits_53 at h; cases h
  | succ n ih =>
    intro x3 x4 x5 σ h
    refine bk hG (cut := [23, 53, 82]) 400 ?_
    unfold m1_fits_53 at h
    refine And.intro (fun hq => ?_) (fun hq => ?_)
    · have h := i_pos hq h
      exact hk82 _ _ _ _ h
    · have h := i_neg hq h
      have ⟨hg, h⟩ := g_gd h
      refine And.intro (inB_of hg) ?_
      have ⟨hg, h⟩ := g_gd h
      refine And.intro (inB_of hg) ?_
      exact ih _ _ _ _ h
set_option maxHeartbeats 4000000 in
set_option maxRecDepth 20000 in
theorem w1_fits_23 {E : EnvT} {G : GT} {RP : Option AV → Mem → Prop} {c1 : Nat} {i2 : Int32} (hG : Cl E 10 4 tb_10 G RP) {r : Int32 × Mem} (hRP : RP (some (.int r.1, 0)) r.2) (F : Nat) : ∀ (n : Nat) (x3 : Int32) (x4 : Int32) (d5 : Option AV) (σ : Mem), m1_fits_23 F c1 i2 n x3 x4 σ = some r → G 23 [some (.ref 135, 1), some (.ref c1, 3), some (.int i2, 0), some (.int x3, 0), some (.int x4, 0), d5] [] σ := by
  intro n
  induction n with
  | zero => intro x3 x4 d5 σ h; unfold m1_fits_23 at h; cases h
  | succ n ih =>
    intro x3 x4 d5 σ h
    refine bk hG (cut := [23, 53, 82]) 400 ?_
    unfold m1_fits_23 at h
    refine And.intro (fun hq => ?_) (fun hq => ?_)
    · have h := i_pos hq h
      have e := Option.some.inj h
      subst e
      exact And.intro (Or.inr rfl) hRP
    · have h := i_neg hq h
      have ⟨_, hc, h⟩ := b_some h
      refine Exists.intro _ (Exists.intro _ (Exists.intro _ (And.intro (c3_agree F _ _ _ _ hc) (And.intro (by decide) (And.intro (fun q => absurd q (by decide)) ?_)))))
      refine And.intro (fun hq => ?_) (fun hq => ?_)
      · have h := i_pos hq h
        have e := Option.some.inj h
        subst e
        exact And.intro (Or.inl rfl) hRP
      · have h := i_neg hq h
        refine And.intro (fun hq => ?_) (fun hq => ?_)
        · have h := i_pos hq h
          exact w1_fits_53 hG hRP F (fun _ _ _ _ h => w1_fits_82 hG hRP F (fun _ _ _ _ h => ih _ _ _ _ h) _ _ _ _ h) F _ _ _ _ h
        · have h := i_neg hq h
          exact w1_fits_82 hG hRP F (fun _ _ _ _ h => ih _ _ _ _ h) _ _ _ _ h
set_option maxHeartbeats 4000000 in
set_option maxRecDepth 20000 in
theorem c1_fits {E : EnvT} (F : Nat) (c1 : Nat) (i2 : Int32) (σ : Mem) {r : Int32 × Mem} (h : m1_fits F c1 i2 σ = some r) : MetAt E 4 10 [(.ref 135, 1), (.ref c1, 3), (.int i2, 0)] σ (some (.int r.1, 0)) r.2 := by
  unfold m1_fits at h
  refine MetAt_of (tb := tb_10) (by decide) tbok_10 (Nat.le_of_ble_eq_true rfl) (fun a q => by cases q; trivial) (fun G hG => ?_)
  have hRP : (fun (a : Option AV) (τ : Mem) => a.map (conc E) = ((some (.int r.1, 0)) : Option AV).map (conc E) ∧ τ = r.2) (some (.int r.1, 0)) r.2 := ⟨rfl, rfl⟩
  change G 0 [some (.ref 135, 1), some (.ref c1, 3), some (.int i2, 0), none, none, none] [] σ
  refine bk hG (cut := [23, 53, 82]) 400 ?_
  have ⟨_, hc, h⟩ := b_some h
  refine Exists.intro _ (Exists.intro _ (Exists.intro _ (And.intro (c3_latest F _ _ hc) (And.intro (by decide) (And.intro (fun q => absurd q (by decide)) ?_)))))
  have ⟨_, hc, h⟩ := b_some h
  refine Exists.intro _ (Exists.intro _ (Exists.intro _ (And.intro (c7_begin F _ _ _ hc) (And.intro (by decide) (And.intro (fun q => absurd q (by decide)) ?_)))))
  exact w1_fits_23 hG hRP F F _ _ _ _ h
set_option maxHeartbeats 4000000 in
set_option maxRecDepth 20000 in
theorem w1_weigh_89 {E : EnvT} {G : GT} {RP : Option AV → Mem → Prop} {i2 : Int32} {c3 : Nat} {i4 : Int32} (hG : Cl E 9 5 tb_9 G RP) {r : Mem} (hRP : RP none r) (F : Nat) {k13 : Int32 → Mem → Option (Mem)} (hk13 : ∀ (x5 : Int32) (d6 : Option AV) (σ : Mem), k13 x5 σ = some r → G 13 [some (.ref 135, 1), some (.ref 12, 125), some (.int i2, 0), some (.ref c3, 3), some (.int i4, 0), some (.int x5, 0), d6] [] σ) : ∀ (n : Nat) (x5 : Int32) (x6 : Int32) (σ : Mem), m1_weigh_89 F i2 c3 i4 k13 n x5 x6 σ = some r → G 89 [some (.ref 135, 1), some (.ref 12, 125), some (.int i2, 0), some (.ref c3, 3), some (.int i4, 0), some (.int x5, 0), some (.int x6, 0)] [] σ := by
  intro n
  induction n with
  | zero => intro x5 x6 σ h; unfold m1_weigh_89 at h; cases h
  | succ n ih =>
    intro x5 x6 σ h
    refine bk hG (cut := [13, 44, 89]) 400 ?_
    unfold m1_weigh_89 at h
    refine And.intro (fun hq => ?_) (fun hq => ?_)
    · have h := i_pos hq h
      exact hk13 _ _ _ h
    · have h := i_neg hq h
      have ⟨hg, h⟩ := g_gd h
      refine And.intro (inB_of hg) ?_
      have ⟨hg, h⟩ := g_gd h
      refine And.intro (inB_of hg) ?_
      have ⟨hg, h⟩ := g_gd h
      refine And.intro (inB_of hg) ?_
      exact ih _ _ _ h
set_option maxHeartbeats 4000000 in
set_option maxRecDepth 20000 in
theorem w1_weigh_44 {E : EnvT} {G : GT} {RP : Option AV → Mem → Prop} {i2 : Int32} {c3 : Nat} {i4 : Int32} (hG : Cl E 9 5 tb_9 G RP) {r : Mem} (hRP : RP none r) (F : Nat) {k13 : Int32 → Mem → Option (Mem)} (hk13 : ∀ (x5 : Int32) (d6 : Option AV) (σ : Mem), k13 x5 σ = some r → G 13 [some (.ref 135, 1), some (.ref 12, 125), some (.int i2, 0), some (.ref c3, 3), some (.int i4, 0), some (.int x5, 0), d6] [] σ) : ∀ (x5 : Int32) (s1 : Nat) (d6 : Option AV) (σ : Mem), m1_weigh_44 F i2 c3 i4 k13 x5 s1 σ = some r → G 44 [some (.ref 135, 1), some (.ref 12, 125), some (.int i2, 0), some (.ref c3, 3), some (.int i4, 0), some (.int x5, 0), d6] [(.ref s1, 50), (.ref 40, 2)] σ := by
  intro x5 s1 d6 σ h
  refine bk hG (cut := [13, 44, 89]) 400 ?_
  unfold m1_weigh_44 at h
  have ⟨_, hc, h⟩ := b_some h
  refine Exists.intro _ (Exists.intro _ (Exists.intro _ (And.intro (c2_plain F _ _ hc) (And.intro (by decide) (And.intro (fun q => absurd q (by decide)) ?_)))))
  refine And.intro (fun hq => ?_) (fun hq => ?_)
  · have h := i_pos hq h
    exact hk13 _ _ _ h
  · have h := i_neg hq h
    have ⟨_, hc, h⟩ := b_some h
    refine Exists.intro _ (Exists.intro _ (Exists.intro _ (And.intro (c1_fits F _ _ _ hc) (And.intro (by decide) (And.intro (fun q => absurd q (by decide)) ?_)))))
    refine And.intro (fun hq => ?_) (fun hq => ?_)
    · have h := i_pos hq h
      exact hk13 _ _ _ h
    · have h := i_neg hq h
      refine And.intro (fun hq => ?_) (fun hq => ?_)
      · have h := i_pos hq h
        exact w1_weigh_89 hG hRP F (fun _ _ _ h => hk13 _ _ _ h) F _ _ _ h
      · have h := i_neg hq h
        exact w1_weigh_89 hG hRP F (fun _ _ _ h => hk13 _ _ _ h) F _ _ _ h
set_option maxHeartbeats 4000000 in
set_option maxRecDepth 20000 in
theorem w1_weigh_13 {E : EnvT} {G : GT} {RP : Option AV → Mem → Prop} {i2 : Int32} {c3 : Nat} {i4 : Int32} (hG : Cl E 9 5 tb_9 G RP) {r : Mem} (hRP : RP none r) (F : Nat) : ∀ (n : Nat) (x5 : Int32) (d6 : Option AV) (σ : Mem), m1_weigh_13 F i2 c3 i4 n x5 σ = some r → G 13 [some (.ref 135, 1), some (.ref 12, 125), some (.int i2, 0), some (.ref c3, 3), some (.int i4, 0), some (.int x5, 0), d6] [] σ := by
  intro n
  induction n with
  | zero => intro x5 d6 σ h; unfold m1_weigh_13 at h; cases h
  | succ n ih =>
    intro x5 d6 σ h
    refine bk hG (cut := [13, 44, 89]) 400 ?_
    unfold m1_weigh_13 at h
    refine And.intro (fun hq => ?_) (fun hq => ?_)
    · have h := i_pos hq h
      have e := Option.some.inj h
      subst e
      exact hRP
    · have h := i_neg hq h
      refine And.intro (fun hq => ?_) (fun hq => ?_)
      · have h := i_pos hq h
        have e := Option.some.inj h
        subst e
        exact hRP
      · have h := i_neg hq h
        refine And.intro (fun hq => ?_) (fun hq => ?_)
        · have h := i_pos hq h
          exact w1_weigh_44 hG hRP F (fun _ _ _ h => ih _ _ _ h) _ _ _ _ h
        · have h := i_neg hq h
          have ⟨hg, h⟩ := g_gd h
          refine And.intro (inB_of hg) ?_
          exact w1_weigh_44 hG hRP F (fun _ _ _ h => ih _ _ _ h) _ _ _ _ h
set_option maxHeartbeats 4000000 in
set_option maxRecDepth 20000 in
theorem c1_weigh {E : EnvT} (F : Nat) (i2 : Int32) (c3 : Nat) (i4 : Int32) (σ : Mem) {r : Mem} (h : m1_weigh F i2 c3 i4 σ = some r) : MetAt E 5 9 [(.ref 135, 1), (.ref 12, 125), (.int i2, 0), (.ref c3, 3), (.int i4, 0)] σ none r := by
  unfold m1_weigh at h
  refine MetAt_of (tb := tb_9) (by decide) tbok_9 (Nat.le_of_ble_eq_true rfl) (fun a q => by cases q) (fun G hG => ?_)
  have hRP : (fun (a : Option AV) (τ : Mem) => a.map (conc E) = (none : Option AV).map (conc E) ∧ τ = r) none r := ⟨rfl, rfl⟩
  change G 0 [some (.ref 135, 1), some (.ref 12, 125), some (.int i2, 0), some (.ref c3, 3), some (.int i4, 0), none, none] [] σ
  refine bk hG (cut := [13, 44, 89]) 400 ?_
  exact w1_weigh_13 hG hRP F F _ _ _ h
set_option maxHeartbeats 4000000 in
set_option maxRecDepth 20000 in
theorem w1_mostAlike_18 {E : EnvT} {G : GT} {RP : Option AV → Mem → Prop} {i1 : Int32} {σ : Mem} (hG : Cl E 11 1 tb_11 G RP) {r : Int32} (hRP : RP (some (.int r, 0)) σ) (F : Nat) {k4 : Int32 → Int32 → Option (Int32)} (hk4 : ∀ (x2 : Int32) (x3 : Int32) (d4 : Option AV) (d5 : Option AV), k4 x2 x3 = some r → G 4 [some (.ref 135, 1), some (.int i1, 0), some (.int x2, 0), some (.int x3, 0), d4, d5] [] σ) : ∀ (n : Nat) (x2 : Int32) (x3 : Int32) (x4 : Int32) (x5 : Int32), m1_mostAlike_18 F i1 σ k4 n x2 x3 x4 x5 = some r → G 18 [some (.ref 135, 1), some (.int i1, 0), some (.int x2, 0), some (.int x3, 0), some (.int x4, 0), some (.int x5, 0)] [] σ := by
  intro n
  induction n with
  | zero => intro x2 x3 x4 x5 h; unfold m1_mostAlike_18 at h; cases h
  | succ n ih =>
    intro x2 x3 x4 x5 h
    refine bk hG (cut := [4, 18]) 400 ?_
    unfold m1_mostAlike_18 at h
    refine And.intro (fun hq => ?_) (fun hq => ?_)
    · have h := i_pos hq h
      exact hk4 _ _ _ _ h
    · have h := i_neg hq h
      have ⟨hg, h⟩ := g_gd h
      refine And.intro (inB_of hg) ?_
      have ⟨hg, h⟩ := g_gd h
      refine And.intro (inB_of hg) ?_
      have ⟨hg, h⟩ := g_gd h
      refine And.intro (inB_of hg) ?_
      have ⟨hg, h⟩ := g_gd h
      refine And.intro (inB_of hg) ?_
      refine And.intro (fun hq => ?_) (fun hq => ?_)
      · have h := i_pos hq h
        exact ih _ _ _ _ h
      · have h := i_neg hq h
        exact ih _ _ _ _ h
set_option maxHeartbeats 4000000 in
set_option maxRecDepth 20000 in
theorem w1_mostAlike_4 {E : EnvT} {G : GT} {RP : Option AV → Mem → Prop} {i1 : Int32} {σ : Mem} (hG : Cl E 11 1 tb_11 G RP) {r : Int32} (hRP : RP (some (.int r, 0)) σ) (F : Nat) : ∀ (n : Nat) (x2 : Int32) (x3 : Int32) (d4 : Option AV) (d5 : Option AV), m1_mostAlike_4 F i1 σ n x2 x3 = some r → G 4 [some (.ref 135, 1), some (.int i1, 0), some (.int x2, 0), some (.int x3, 0), d4, d5] [] σ := by
  intro n
  induction n with
  | zero => intro x2 x3 d4 d5 h; unfold m1_mostAlike_4 at h; cases h
  | succ n ih =>
    intro x2 x3 d4 d5 h
    refine bk hG (cut := [4, 18]) 400 ?_
    unfold m1_mostAlike_4 at h
    refine And.intro (fun hq => ?_) (fun hq => ?_)
    · have h := i_pos hq h
      have e := Option.some.inj h
      subst e
      exact hRP
    · have h := i_neg hq h
      exact w1_mostAlike_18 hG hRP F (fun _ _ _ _ h => ih _ _ _ _ h) F _ _ _ _ h
set_option maxHeartbeats 4000000 in
set_option maxRecDepth 20000 in
theorem c1_mostAlike {E : EnvT} (F : Nat) (i1 : Int32) (σ : Mem) {r : Int32} (h : m1_mostAlike F i1 σ = some r) : MetAt E 1 11 [(.ref 135, 1), (.int i1, 0)] σ (some (.int r, 0)) σ := by
  unfold m1_mostAlike at h
  refine MetAt_of (tb := tb_11) (by decide) tbok_11 (Nat.le_of_ble_eq_true rfl) (fun a q => by cases q; trivial) (fun G hG => ?_)
  have hRP : (fun (a : Option AV) (τ : Mem) => a.map (conc E) = ((some (.int r, 0)) : Option AV).map (conc E) ∧ τ = σ) (some (.int r, 0)) σ := ⟨rfl, rfl⟩
  change G 0 [some (.ref 135, 1), some (.int i1, 0), none, none, none, none] [] σ
  refine bk hG (cut := [4, 18]) 400 ?_
  exact w1_mostAlike_4 hG hRP F F _ _ _ _ h
set_option maxHeartbeats 4000000 in
set_option maxRecDepth 20000 in
theorem w1_partingPart_4 {E : EnvT} {G : GT} {RP : Option AV → Mem → Prop} {σ : Mem} (hG : Cl E 12 2 tb_12 G RP) {r : Int32} (hRP : RP (some (.int r, 0)) σ) (F : Nat) : ∀ (n : Nat) (x1 : Int32) (x2 : Int32), m1_partingPart_4 F σ n x1 x2 = some r → G 4 [some (.ref 135, 1), some (.int x1, 0), some (.int x2, 0)] [] σ := by
  intro n
  induction n with
  | zero => intro x1 x2 h; unfold m1_partingPart_4 at h; cases h
  | succ n ih =>
    intro x1 x2 h
    refine bk hG (cut := [4]) 400 ?_
    unfold m1_partingPart_4 at h
    refine And.intro (fun hq => ?_) (fun hq => ?_)
    · have h := i_pos hq h
      have e := Option.some.inj h
      subst e
      exact hRP
    · have h := i_neg hq h
      have ⟨_, hc, h⟩ := b_some h
      refine Exists.intro _ (Exists.intro _ (Exists.intro _ (And.intro (c1_mostAlike F _ _ hc) (And.intro (by decide) (And.intro (fun q => absurd q (by decide)) ?_)))))
      have ⟨_, hc, h⟩ := b_some h
      refine Exists.intro _ (Exists.intro _ (Exists.intro _ (And.intro (c1_mostAlike F _ _ hc) (And.intro (by decide) (And.intro (fun q => absurd q (by decide)) ?_)))))
      refine And.intro (fun hq => ?_) (fun hq => ?_)
      · have h := i_pos hq h
        exact ih _ _ h
      · have h := i_neg hq h
        exact ih _ _ h
set_option maxHeartbeats 4000000 in
set_option maxRecDepth 20000 in
theorem c1_partingPart {E : EnvT} (F : Nat)  (σ : Mem) {r : Int32} (h : m1_partingPart F σ = some r) : MetAt E 2 12 [(.ref 135, 1)] σ (some (.int r, 0)) σ := by
  unfold m1_partingPart at h
  refine MetAt_of (tb := tb_12) (by decide) tbok_12 (Nat.le_of_ble_eq_true rfl) (fun a q => by cases q; trivial) (fun G hG => ?_)
  have hRP : (fun (a : Option AV) (τ : Mem) => a.map (conc E) = ((some (.int r, 0)) : Option AV).map (conc E) ∧ τ = σ) (some (.int r, 0)) σ := ⟨rfl, rfl⟩
  change G 0 [some (.ref 135, 1), none, none] [] σ
  refine bk hG (cut := [4]) 400 ?_
  exact w1_partingPart_4 hG hRP F F _ _ h
set_option maxHeartbeats 4000000 in
set_option maxRecDepth 20000 in
theorem w3_copyFrom_10 {E : EnvT} {G : GT} {RP : Option AV → Mem → Prop} {c0 : Nat} {c1 : Nat} (hG : Cl E 25 0 tb_25 G RP) {r : Mem} (hRP : RP none r) (F : Nat) : ∀ (n : Nat) (x2 : Int32) (σ : Mem), m3_copyFrom_10 F c0 c1 n x2 σ = some r → G 10 [some (.ref c0, 3), some (.ref c1, 3), some (.int x2, 0)] [] σ := by
  intro n
  induction n with
  | zero => intro x2 σ h; unfold m3_copyFrom_10 at h; cases h
  | succ n ih =>
    intro x2 σ h
    refine bk hG (cut := [10]) 400 ?_
    unfold m3_copyFrom_10 at h
    refine And.intro (fun hq => ?_) (fun hq => ?_)
    · have h := i_pos hq h
      have e := Option.some.inj h
      subst e
      exact hRP
    · have h := i_neg hq h
      have ⟨hg, h⟩ := g_gd h
      refine And.intro (inB_of hg) ?_
      have ⟨hg, h⟩ := g_gd h
      refine And.intro (inB_of hg) ?_
      have ⟨hg, h⟩ := g_gd h
      refine And.intro (inB_of hg) ?_
      have ⟨hg, h⟩ := g_gd h
      refine And.intro (inB_of hg) ?_
      have ⟨hg, h⟩ := g_gd h
      refine And.intro (inB_of hg) ?_
      have ⟨hg, h⟩ := g_gd h
      refine And.intro (inB_of hg) ?_
      exact ih _ _ h
set_option maxHeartbeats 4000000 in
set_option maxRecDepth 20000 in
theorem c3_copyFrom {E : EnvT} (F : Nat) (c0 : Nat) (c1 : Nat) (σ : Mem) {r : Mem} (h : m3_copyFrom F c0 c1 σ = some r) : MetAt E 0 25 [(.ref c0, 3), (.ref c1, 3)] σ none r := by
  unfold m3_copyFrom at h
  refine MetAt_of (tb := tb_25) (by decide) tbok_25 (Nat.le_of_ble_eq_true rfl) (fun a q => by cases q) (fun G hG => ?_)
  have hRP : (fun (a : Option AV) (τ : Mem) => a.map (conc E) = (none : Option AV).map (conc E) ∧ τ = r) none r := ⟨rfl, rfl⟩
  change G 0 [some (.ref c0, 3), some (.ref c1, 3), none] [] σ
  refine bk hG (cut := [10]) 400 ?_
  exact w3_copyFrom_10 hG hRP F F _ _ h
set_option maxHeartbeats 4000000 in
set_option maxRecDepth 20000 in
theorem c3_add {E : EnvT} (F : Nat) (c0 : Nat) (i1 : Int32) (i2 : Int32) (i3 : Int32) (σ : Mem) {r : Mem} (h : m3_add F c0 i1 i2 i3 σ = some r) : MetAt E 0 26 [(.ref c0, 3), (.int i1, 0), (.int i2, 0), (.int i3, 0)] σ none r := by
  unfold m3_add at h
  refine MetAt_of (tb := tb_26) (by decide) tbok_26 (Nat.le_of_ble_eq_true rfl) (fun a q => by cases q) (fun G hG => ?_)
  have hRP : (fun (a : Option AV) (τ : Mem) => a.map (conc E) = (none : Option AV).map (conc E) ∧ τ = r) none r := ⟨rfl, rfl⟩
  change G 0 [some (.ref c0, 3), some (.int i1, 0), some (.int i2, 0), some (.int i3, 0)] [] σ
  refine bk hG (cut := []) 400 ?_
  refine And.intro (fun hq => ?_) (fun hq => ?_)
  · have h := i_pos hq h
    have e := Option.some.inj h
    subst e
    exact hRP
  · have h := i_neg hq h
    have ⟨hg, h⟩ := g_gd h
    refine And.intro (inB_of hg) ?_
    have ⟨hg, h⟩ := g_gd h
    refine And.intro (inB_of hg) ?_
    have ⟨hg, h⟩ := g_gd h
    refine And.intro (inB_of hg) ?_
    have e := Option.some.inj h
    subst e
    exact hRP
set_option maxHeartbeats 4000000 in
set_option maxRecDepth 20000 in
theorem w4_copyFrom_161 {E : EnvT} {G : GT} {RP : Option AV → Mem → Prop} {c0 : Nat} {c1 : Nat} (hG : Cl E 29 0 tb_29 G RP) {r : Mem} (hRP : RP none r) (F : Nat) : ∀ (n : Nat) (x2 : Int32) (σ : Mem), m4_copyFrom_161 F c0 c1 n x2 σ = some r → G 161 [some (.ref c0, 4), some (.ref c1, 4), some (.int x2, 0)] [] σ := by
  intro n
  induction n with
  | zero => intro x2 σ h; unfold m4_copyFrom_161 at h; cases h
  | succ n ih =>
    intro x2 σ h
    refine bk hG (cut := [50, 75, 161]) 400 ?_
    unfold m4_copyFrom_161 at h
    refine And.intro (fun hq => ?_) (fun hq => ?_)
    · have h := i_pos hq h
      have e := Option.some.inj h
      subst e
      exact hRP
    · have h := i_neg hq h
      have ⟨hg, h⟩ := g_gd h
      refine And.intro (inB_of hg) ?_
      have ⟨hg, h⟩ := g_gd h
      refine And.intro (inB_of hg) ?_
      exact ih _ _ h
set_option maxHeartbeats 4000000 in
set_option maxRecDepth 20000 in
theorem w4_copyFrom_75 {E : EnvT} {G : GT} {RP : Option AV → Mem → Prop} {c0 : Nat} {c1 : Nat} (hG : Cl E 29 0 tb_29 G RP) {r : Mem} (hRP : RP none r) (F : Nat) : ∀ (n : Nat) (x2 : Int32) (σ : Mem), m4_copyFrom_75 F c0 c1 n x2 σ = some r → G 75 [some (.ref c0, 4), some (.ref c1, 4), some (.int x2, 0)] [] σ := by
  intro n
  induction n with
  | zero => intro x2 σ h; unfold m4_copyFrom_75 at h; cases h
  | succ n ih =>
    intro x2 σ h
    refine bk hG (cut := [50, 75, 161]) 400 ?_
    unfold m4_copyFrom_75 at h
    refine And.intro (fun hq => ?_) (fun hq => ?_)
    · have h := i_pos hq h
      exact w4_copyFrom_161 hG hRP F F _ _ h
    · have h := i_neg hq h
      have ⟨hg, h⟩ := g_gd h
      refine And.intro (inB_of hg) ?_
      have ⟨hg, h⟩ := g_gd h
      refine And.intro (inB_of hg) ?_
      have ⟨hg, h⟩ := g_gd h
      refine And.intro (inB_of hg) ?_
      have ⟨hg, h⟩ := g_gd h
      refine And.intro (inB_of hg) ?_
      have ⟨hg, h⟩ := g_gd h
      refine And.intro (inB_of hg) ?_
      have ⟨hg, h⟩ := g_gd h
      refine And.intro (inB_of hg) ?_
      have ⟨hg, h⟩ := g_gd h
      refine And.intro (inB_of hg) ?_
      have ⟨hg, h⟩ := g_gd h
      refine And.intro (inB_of hg) ?_
      have ⟨hg, h⟩ := g_gd h
      refine And.intro (inB_of hg) ?_
      have ⟨hg, h⟩ := g_gd h
      refine And.intro (inB_of hg) ?_
      have ⟨hg, h⟩ := g_gd h
      refine And.intro (inB_of hg) ?_
      have ⟨hg, h⟩ := g_gd h
      refine And.intro (inB_of hg) ?_
      exact ih _ _ h
set_option maxHeartbeats 4000000 in
set_option maxRecDepth 20000 in
theorem w4_copyFrom_50 {E : EnvT} {G : GT} {RP : Option AV → Mem → Prop} {c0 : Nat} {c1 : Nat} (hG : Cl E 29 0 tb_29 G RP) {r : Mem} (hRP : RP none r) (F : Nat) : ∀ (n : Nat) (x2 : Int32) (σ : Mem), m4_copyFrom_50 F c0 c1 n x2 σ = some r → G 50 [some (.ref c0, 4), some (.ref c1, 4), some (.int x2, 0)] [] σ := by
  intro n
  induction n with
  | zero => intro x2 σ h; unfold m4_copyFrom_50 at h; cases h
  | succ n ih =>
    intro x2 σ h
    refine bk hG (cut := [50, 75, 161]) 400 ?_
    unfold m4_copyFrom_50 at h
    refine And.intro (fun hq => ?_) (fun hq => ?_)
    · have h := i_pos hq h
      exact w4_copyFrom_75 hG hRP F F _ _ h
    · have h := i_neg hq h
      have ⟨hg, h⟩ := g_gd h
      refine And.intro (inB_of hg) ?_
      have ⟨hg, h⟩ := g_gd h
      refine And.intro (inB_of hg) ?_
      exact ih _ _ h
set_option maxHeartbeats 4000000 in
set_option maxRecDepth 20000 in
theorem c4_copyFrom {E : EnvT} (F : Nat) (c0 : Nat) (c1 : Nat) (σ : Mem) {r : Mem} (h : m4_copyFrom F c0 c1 σ = some r) : MetAt E 0 29 [(.ref c0, 4), (.ref c1, 4)] σ none r := by
  unfold m4_copyFrom at h
  refine MetAt_of (tb := tb_29) (by decide) tbok_29 (Nat.le_of_ble_eq_true rfl) (fun a q => by cases q) (fun G hG => ?_)
  have hRP : (fun (a : Option AV) (τ : Mem) => a.map (conc E) = (none : Option AV).map (conc E) ∧ τ = r) none r := ⟨rfl, rfl⟩
  change G 0 [some (.ref c0, 4), some (.ref c1, 4), none] [] σ
  refine bk hG (cut := [50, 75, 161]) 400 ?_
  have ⟨hg, h⟩ := g_gd h
  refine And.intro hg ?_
  exact w4_copyFrom_50 hG hRP F F _ _ h
set_option maxHeartbeats 4000000 in
set_option maxRecDepth 20000 in
theorem c8_rewind {E : EnvT} (F : Nat)  (σ : Mem) {r : Mem} (h : m8_rewind F σ = some r) : MetAt E 0 60 [(.ref 1, 8)] σ none r := by
  unfold m8_rewind at h
  refine MetAt_of (tb := tb_60) (by decide) tbok_60 (Nat.le_of_ble_eq_true rfl) (fun a q => by cases q) (fun G hG => ?_)
  have hRP : (fun (a : Option AV) (τ : Mem) => a.map (conc E) = (none : Option AV).map (conc E) ∧ τ = r) none r := ⟨rfl, rfl⟩
  change G 0 [some (.ref 1, 8)] [] σ
  refine bk hG (cut := []) 400 ?_
  have e := Option.some.inj h
  subst e
  exact hRP
set_option maxHeartbeats 4000000 in
set_option maxRecDepth 20000 in
theorem w8_next_38 {E : EnvT} {G : GT} {RP : Option AV → Mem → Prop} (hG : Cl E 62 0 tb_62 G RP) {r : Int32 × Mem} (hRP : RP (some (.int r.1, 0)) r.2) (F : Nat) : ∀ (σ : Mem), m8_next_38 F σ = some r → G 38 [some (.ref 1, 8)] [] σ := by
  intro σ h
  refine bk hG (cut := [0, 38]) 400 ?_
  unfold m8_next_38 at h
  refine And.intro (fun hq => ?_) (fun hq => ?_)
  · have h := i_pos hq h
    have e := Option.some.inj h
    subst e
    exact hRP
  · have h := i_neg hq h
    have ⟨hg, h⟩ := g_gd h
    refine And.intro (inB_of hg) ?_
    have e := Option.some.inj h
    subst e
    exact hRP
set_option maxHeartbeats 4000000 in
set_option maxRecDepth 20000 in
theorem w8_next_0 {E : EnvT} {G : GT} {RP : Option AV → Mem → Prop} (hG : Cl E 62 0 tb_62 G RP) {r : Int32 × Mem} (hRP : RP (some (.int r.1, 0)) r.2) (F : Nat) : ∀ (n : Nat) (σ : Mem), m8_next_0 F n σ = some r → G 0 [some (.ref 1, 8)] [] σ := by
  intro n
  induction n with
  | zero => intro σ h; unfold m8_next_0 at h; cases h
  | succ n ih =>
    intro σ h
    refine bk hG (cut := [0, 38]) 400 ?_
    unfold m8_next_0 at h
    refine And.intro (fun hq => ?_) (fun hq => ?_)
    · have h := i_pos hq h
      exact w8_next_38 hG hRP F _ h
    · have h := i_neg hq h
      have ⟨hg, h⟩ := g_gd h
      refine And.intro (inB_of hg) ?_
      refine And.intro (fun hq => ?_) (fun hq => ?_)
      · have h := i_pos hq h
        exact ih _ h
      · have h := i_neg hq h
        exact w8_next_38 hG hRP F _ h
set_option maxHeartbeats 4000000 in
set_option maxRecDepth 20000 in
theorem c8_next {E : EnvT} (F : Nat)  (σ : Mem) {r : Int32 × Mem} (h : m8_next F σ = some r) : MetAt E 0 62 [(.ref 1, 8)] σ (some (.int r.1, 0)) r.2 := by
  unfold m8_next at h
  refine MetAt_of (tb := tb_62) (by decide) tbok_62 (Nat.le_of_ble_eq_true rfl) (fun a q => by cases q; trivial) (fun G hG => ?_)
  have hRP : (fun (a : Option AV) (τ : Mem) => a.map (conc E) = ((some (.int r.1, 0)) : Option AV).map (conc E) ∧ τ = r.2) (some (.int r.1, 0)) r.2 := ⟨rfl, rfl⟩
  change G 0 [some (.ref 1, 8)] [] σ
  exact w8_next_0 hG hRP F F _ h
set_option maxHeartbeats 4000000 in
set_option maxRecDepth 20000 in
theorem w8_run_5 {E : EnvT} {G : GT} {RP : Option AV → Mem → Prop} {i1 : Int32} {i2 : Int32} {σ : Mem} (hG : Cl E 63 0 tb_63 G RP) {r : Int32} (hRP : RP (some (.int r, 0)) σ) (F : Nat) : ∀ (n : Nat) (x3 : Int32), m8_run_5 F i1 i2 σ n x3 = some r → G 5 [some (.ref 1, 8), some (.int i1, 0), some (.int i2, 0), some (.int x3, 0)] [] σ := by
  intro n
  induction n with
  | zero => intro x3 h; unfold m8_run_5 at h; cases h
  | succ n ih =>
    intro x3 h
    refine bk hG (cut := [5]) 400 ?_
    unfold m8_run_5 at h
    refine And.intro (fun hq => ?_) (fun hq => ?_)
    · have h := i_pos hq h
      have e := Option.some.inj h
      subst e
      exact hRP
    · have h := i_neg hq h
      have ⟨hg, h⟩ := g_gd h
      refine And.intro (inB_of hg) ?_
      refine And.intro (fun hq => ?_) (fun hq => ?_)
      · have h := i_pos hq h
        have e := Option.some.inj h
        subst e
        exact hRP
      · have h := i_neg hq h
        have ⟨hg, h⟩ := g_gd h
        refine And.intro (inB_of hg) ?_
        refine And.intro (fun hq => ?_) (fun hq => ?_)
        · have h := i_pos hq h
          have e := Option.some.inj h
          subst e
          exact hRP
        · have h := i_neg hq h
          exact ih _ h
set_option maxHeartbeats 4000000 in
set_option maxRecDepth 20000 in
theorem c8_run {E : EnvT} (F : Nat) (i1 : Int32) (i2 : Int32) (σ : Mem) {r : Int32} (h : m8_run F i1 i2 σ = some r) : MetAt E 0 63 [(.ref 1, 8), (.int i1, 0), (.int i2, 0)] σ (some (.int r, 0)) σ := by
  unfold m8_run at h
  refine MetAt_of (tb := tb_63) (by decide) tbok_63 (Nat.le_of_ble_eq_true rfl) (fun a q => by cases q; trivial) (fun G hG => ?_)
  have hRP : (fun (a : Option AV) (τ : Mem) => a.map (conc E) = ((some (.int r, 0)) : Option AV).map (conc E) ∧ τ = σ) (some (.int r, 0)) σ := ⟨rfl, rfl⟩
  change G 0 [some (.ref 1, 8), some (.int i1, 0), some (.int i2, 0), none] [] σ
  refine bk hG (cut := [5]) 400 ?_
  exact w8_run_5 hG hRP F F _ h
set_option maxHeartbeats 4000000 in
set_option maxRecDepth 20000 in
theorem w8_word_49 {E : EnvT} {G : GT} {RP : Option AV → Mem → Prop} {c1 : Nat} {σ : Mem} (hG : Cl E 64 4 tb_64 G RP) {r : Int32} (hRP : RP (some (.int r, 0)) σ) (F : Nat) {k20 : Int32 → Int32 → Int32 → Int32 → Int32 → Option (Int32)} (hk20 : ∀ (x2 : Int32) (x3 : Int32) (x4 : Int32) (x5 : Int32) (x6 : Int32) (d7 : Option AV), k20 x2 x3 x4 x5 x6 = some r → G 20 [some (.ref 1, 8), some (.ref c1, 61), some (.int x2, 0), some (.int x3, 0), some (.int x4, 0), some (.int x5, 0), some (.int x6, 0), d7] [] σ) : ∀ (x2 : Int32) (x3 : Int32) (x4 : Int32) (x5 : Int32) (x6 : Int32) (s0 : Int32) (d7 : Option AV), m8_word_49 F c1 σ k20 x2 x3 x4 x5 x6 s0 = some r → G 49 [some (.ref 1, 8), some (.ref c1, 61), some (.int x2, 0), some (.int x3, 0), some (.int x4, 0), some (.int x5, 0), some (.int x6, 0), d7] [(.int s0, 0)] σ := by
  intro x2 x3 x4 x5 x6 s0 d7 h
  refine bk hG (cut := [20, 49]) 400 ?_
  unfold m8_word_49 at h
  refine And.intro (fun hq => ?_) (fun hq => ?_)
  · have h := i_pos hq h
    refine And.intro (fun hq => ?_) (fun hq => ?_)
    · have h := i_pos hq h
      refine And.intro (fun hq => ?_) (fun hq => ?_)
      · have h := i_pos hq h
        refine And.intro (fun hq => ?_) (fun hq => ?_)
        · have h := i_pos hq h
          exact hk20 _ _ _ _ _ _ h
        · have h := i_neg hq h
          have e := Option.some.inj h
          subst e
          exact hRP
      · have h := i_neg hq h
        exact hk20 _ _ _ _ _ _ h
    · have h := i_neg hq h
      exact hk20 _ _ _ _ _ _ h
  · have h := i_neg hq h
    refine And.intro (fun hq => ?_) (fun hq => ?_)
    · have h := i_pos hq h
      exact hk20 _ _ _ _ _ _ h
    · have h := i_neg hq h
      have ⟨hg, h⟩ := g_gd h
      refine And.intro (inB_of hg) ?_
      refine And.intro (fun hq => ?_) (fun hq => ?_)
      · have h := i_pos hq h
        exact hk20 _ _ _ _ _ _ h
      · have h := i_neg hq h
        exact hk20 _ _ _ _ _ _ h
set_option maxHeartbeats 4000000 in
set_option maxRecDepth 20000 in
theorem w8_word_20 {E : EnvT} {G : GT} {RP : Option AV → Mem → Prop} {c1 : Nat} {σ : Mem} (hG : Cl E 64 4 tb_64 G RP) {r : Int32} (hRP : RP (some (.int r, 0)) σ) (F : Nat) : ∀ (n : Nat) (x2 : Int32) (x3 : Int32) (x4 : Int32) (x5 : Int32) (x6 : Int32) (d7 : Option AV), m8_word_20 F c1 σ n x2 x3 x4 x5 x6 = some r → G 20 [some (.ref 1, 8), some (.ref c1, 61), some (.int x2, 0), some (.int x3, 0), some (.int x4, 0), some (.int x5, 0), some (.int x6, 0), d7] [] σ := by
  intro n
  induction n with
  | zero => intro x2 x3 x4 x5 x6 d7 h; unfold m8_word_20 at h; cases h
  | succ n ih =>
    intro x2 x3 x4 x5 x6 d7 h
    refine bk hG (cut := [20, 49]) 400 ?_
    unfold m8_word_20 at h
    refine And.intro (fun hq => ?_) (fun hq => ?_)
    · have h := i_pos hq h
      have e := Option.some.inj h
      subst e
      exact hRP
    · have h := i_neg hq h
      refine And.intro (fun hq => ?_) (fun hq => ?_)
      · have h := i_pos hq h
        exact w8_word_49 hG hRP F (fun _ _ _ _ _ _ h => ih _ _ _ _ _ _ h) _ _ _ _ _ _ _ h
      · have h := i_neg hq h
        have ⟨hg, h⟩ := g_gd h
        refine And.intro (inB_of hg) ?_
        exact w8_word_49 hG hRP F (fun _ _ _ _ _ _ h => ih _ _ _ _ _ _ h) _ _ _ _ _ _ _ h
set_option maxHeartbeats 4000000 in
set_option maxRecDepth 20000 in
theorem c8_word {E : EnvT} (F : Nat) (c1 : Nat) (σ : Mem) {r : Int32} (h : m8_word F c1 σ = some r) : MetAt E 4 64 [(.ref 1, 8), (.ref c1, 61)] σ (some (.int r, 0)) σ := by
  unfold m8_word at h
  refine MetAt_of (tb := tb_64) (by decide) tbok_64 (Nat.le_of_ble_eq_true rfl) (fun a q => by cases q; trivial) (fun G hG => ?_)
  have hRP : (fun (a : Option AV) (τ : Mem) => a.map (conc E) = ((some (.int r, 0)) : Option AV).map (conc E) ∧ τ = σ) (some (.int r, 0)) σ := ⟨rfl, rfl⟩
  change G 0 [some (.ref 1, 8), some (.ref c1, 61), none, none, none, none, none, none] [] σ
  refine bk hG (cut := [20, 49]) 400 ?_
  have ⟨_, hc, h⟩ := b_some h
  refine Exists.intro _ (Exists.intro _ (Exists.intro _ (And.intro (c8_run F _ _ _ hc) (And.intro (by decide) (And.intro (fun q => absurd q (by decide)) ?_)))))
  exact w8_word_20 hG hRP F F _ _ _ _ _ _ h
set_option maxHeartbeats 4000000 in
set_option maxRecDepth 20000 in
theorem c8_fail {E : EnvT} (F : Nat) (i1 : Int32) (i2 : Int32) (σ : Mem) {r : Mem} (h : m8_fail F i1 i2 σ = some r) : MetAt E 0 61 [(.ref 1, 8), (.int i1, 0), (.int i2, 0)] σ none r := by
  unfold m8_fail at h
  refine MetAt_of (tb := tb_61) (by decide) tbok_61 (Nat.le_of_ble_eq_true rfl) (fun a q => by cases q) (fun G hG => ?_)
  have hRP : (fun (a : Option AV) (τ : Mem) => a.map (conc E) = (none : Option AV).map (conc E) ∧ τ = r) none r := ⟨rfl, rfl⟩
  change G 0 [some (.ref 1, 8), some (.int i1, 0), some (.int i2, 0)] [] σ
  refine bk hG (cut := []) 400 ?_
  refine And.intro (fun hq => ?_) (fun hq => ?_)
  · have h := i_pos hq h
    have e := Option.some.inj h
    subst e
    exact hRP
  · have h := i_neg hq h
    have e := Option.some.inj h
    subst e
    exact hRP
set_option maxHeartbeats 4000000 in
set_option maxRecDepth 20000 in
theorem c8_passWord {E : EnvT} (F : Nat)  (σ : Mem) {r : Mem} (h : m8_passWord F σ = some r) : MetAt E 1 65 [(.ref 1, 8)] σ none r := by
  unfold m8_passWord at h
  refine MetAt_of (tb := tb_65) (by decide) tbok_65 (Nat.le_of_ble_eq_true rfl) (fun a q => by cases q) (fun G hG => ?_)
  have hRP : (fun (a : Option AV) (τ : Mem) => a.map (conc E) = (none : Option AV).map (conc E) ∧ τ = r) none r := ⟨rfl, rfl⟩
  change G 0 [some (.ref 1, 8)] [] σ
  refine bk hG (cut := []) 400 ?_
  have ⟨_, hc, h⟩ := b_some h
  refine Exists.intro _ (Exists.intro _ (Exists.intro _ (And.intro (c8_run F _ _ _ hc) (And.intro (by decide) (And.intro (fun q => absurd q (by decide)) ?_)))))
  have e := Option.some.inj h
  subst e
  exact hRP
set_option maxHeartbeats 4000000 in
set_option maxRecDepth 20000 in
theorem w8_number_103 {E : EnvT} {G : GT} {RP : Option AV → Mem → Prop} {i1 : Int32} {i2 : Int32} (hG : Cl E 66 1 tb_66 G RP) {r : Int32 × Mem} (hRP : RP (some (.int r.1, 0)) r.2) (F : Nat) : ∀ (x3 : Int32) (x4 : Int32) (d5 : Option AV) (σ : Mem), m8_number_103 F i1 i2 x3 x4 σ = some r → G 103 [some (.ref 1, 8), some (.int i1, 0), some (.int i2, 0), some (.int x3, 0), some (.int x4, 0), d5] [] σ := by
  intro x3 x4 d5 σ h
  refine bk hG (cut := [20, 61, 94, 103]) 400 ?_
  unfold m8_number_103 at h
  refine And.intro (fun hq => ?_) (fun hq => ?_)
  · have h := i_pos hq h
    have e := Option.some.inj h
    subst e
    exact hRP
  · have h := i_neg hq h
    have e := Option.some.inj h
    subst e
    exact hRP
set_option maxHeartbeats 4000000 in
set_option maxRecDepth 20000 in
theorem w8_number_94 {E : EnvT} {G : GT} {RP : Option AV → Mem → Prop} {i1 : Int32} {i2 : Int32} (hG : Cl E 66 1 tb_66 G RP) {r : Int32 × Mem} (hRP : RP (some (.int r.1, 0)) r.2) (F : Nat) {k103 : Int32 → Int32 → Mem → Option (Int32 × Mem)} (hk103 : ∀ (x3 : Int32) (x4 : Int32) (d5 : Option AV) (σ : Mem), k103 x3 x4 σ = some r → G 103 [some (.ref 1, 8), some (.int i1, 0), some (.int i2, 0), some (.int x3, 0), some (.int x4, 0), d5] [] σ) : ∀ (x3 : Int32) (x4 : Int32) (d5 : Option AV) (σ : Mem), m8_number_94 F i1 i2 k103 x3 x4 σ = some r → G 94 [some (.ref 1, 8), some (.int i1, 0), some (.int i2, 0), some (.int x3, 0), some (.int x4, 0), d5] [] σ := by
  intro x3 x4 d5 σ h
  refine bk hG (cut := [20, 61, 94, 103]) 400 ?_
  unfold m8_number_94 at h
  have ⟨_, hc, h⟩ := b_some h
  refine Exists.intro _ (Exists.intro _ (Exists.intro _ (And.intro (c8_fail F _ _ _ hc) (And.intro (by decide) (And.intro (fun q => absurd q (by decide)) ?_)))))
  exact hk103 _ _ _ _ h
set_option maxHeartbeats 4000000 in
set_option maxRecDepth 20000 in
theorem w8_number_61 {E : EnvT} {G : GT} {RP : Option AV → Mem → Prop} {i1 : Int32} {i2 : Int32} (hG : Cl E 66 1 tb_66 G RP) {r : Int32 × Mem} (hRP : RP (some (.int r.1, 0)) r.2) (F : Nat) : ∀ (x3 : Int32) (x4 : Int32) (d5 : Option AV) (σ : Mem), m8_number_61 F i1 i2 x3 x4 σ = some r → G 61 [some (.ref 1, 8), some (.int i1, 0), some (.int i2, 0), some (.int x3, 0), some (.int x4, 0), d5] [] σ := by
  intro x3 x4 d5 σ h
  refine bk hG (cut := [20, 61, 94, 103]) 400 ?_
  unfold m8_number_61 at h
  refine And.intro (fun hq => ?_) (fun hq => ?_)
  · have h := i_pos hq h
    have ⟨_, hc, h⟩ := b_some h
    refine Exists.intro _ (Exists.intro _ (Exists.intro _ (And.intro (c8_fail F _ _ _ hc) (And.intro (by decide) (And.intro (fun q => absurd q (by decide)) ?_)))))
    exact w8_number_103 hG hRP F _ _ _ _ h
  · have h := i_neg hq h
    refine And.intro (fun hq => ?_) (fun hq => ?_)
    · have h := i_pos hq h
      exact w8_number_94 hG hRP F (fun _ _ _ _ h => w8_number_103 hG hRP F _ _ _ _ h) _ _ _ _ h
    · have h := i_neg hq h
      refine And.intro (fun hq => ?_) (fun hq => ?_)
      · have h := i_pos hq h
        exact w8_number_94 hG hRP F (fun _ _ _ _ h => w8_number_103 hG hRP F _ _ _ _ h) _ _ _ _ h
      · have h := i_neg hq h
        refine And.intro (fun hq => ?_) (fun hq => ?_)
        · have h := i_pos hq h
          exact w8_number_103 hG hRP F _ _ _ _ h
        · have h := i_neg hq h
          exact w8_number_94 hG hRP F (fun _ _ _ _ h => w8_number_103 hG hRP F _ _ _ _ h) _ _ _ _ h
set_option maxHeartbeats 4000000 in
set_option maxRecDepth 20000 in
theorem w8_number_20 {E : EnvT} {G : GT} {RP : Option AV → Mem → Prop} {i1 : Int32} {i2 : Int32} (hG : Cl E 66 1 tb_66 G RP) {r : Int32 × Mem} (hRP : RP (some (.int r.1, 0)) r.2) (F : Nat) : ∀ (n : Nat) (x3 : Int32) (x4 : Int32) (x5 : Int32) (σ : Mem), m8_number_20 F i1 i2 n x3 x4 x5 σ = some r → G 20 [some (.ref 1, 8), some (.int i1, 0), some (.int i2, 0), some (.int x3, 0), some (.int x4, 0), some (.int x5, 0)] [] σ := by
  intro n
  induction n with
  | zero => intro x3 x4 x5 σ h; unfold m8_number_20 at h; cases h
  | succ n ih =>
    intro x3 x4 x5 σ h
    refine bk hG (cut := [20, 61, 94, 103]) 400 ?_
    unfold m8_number_20 at h
    refine And.intro (fun hq => ?_) (fun hq => ?_)
    · have h := i_pos hq h
      exact w8_number_61 hG hRP F _ _ _ _ h
    · have h := i_neg hq h
      refine And.intro (fun hq => ?_) (fun hq => ?_)
      · have h := i_pos hq h
        exact w8_number_61 hG hRP F _ _ _ _ h
      · have h := i_neg hq h
        have ⟨hg, h⟩ := g_gd h
        refine And.intro (inB_of hg) ?_
        exact ih _ _ _ _ h
set_option maxHeartbeats 4000000 in
set_option maxRecDepth 20000 in
theorem c8_number {E : EnvT} (F : Nat) (i1 : Int32) (i2 : Int32) (σ : Mem) {r : Int32 × Mem} (h : m8_number F i1 i2 σ = some r) : MetAt E 1 66 [(.ref 1, 8), (.int i1, 0), (.int i2, 0)] σ (some (.int r.1, 0)) r.2 := by
  unfold m8_number at h
  refine MetAt_of (tb := tb_66) (by decide) tbok_66 (Nat.le_of_ble_eq_true rfl) (fun a q => by cases q; trivial) (fun G hG => ?_)
  have hRP : (fun (a : Option AV) (τ : Mem) => a.map (conc E) = ((some (.int r.1, 0)) : Option AV).map (conc E) ∧ τ = r.2) (some (.int r.1, 0)) r.2 := ⟨rfl, rfl⟩
  change G 0 [some (.ref 1, 8), some (.int i1, 0), some (.int i2, 0), none, none, none] [] σ
  refine bk hG (cut := [20, 61, 94, 103]) 400 ?_
  have ⟨_, hc, h⟩ := b_some h
  refine Exists.intro _ (Exists.intro _ (Exists.intro _ (And.intro (c8_next F _ hc) (And.intro (by decide) (And.intro (fun q => absurd q (by decide)) ?_)))))
  have ⟨_, hc, h⟩ := b_some h
  refine Exists.intro _ (Exists.intro _ (Exists.intro _ (And.intro (c8_run F _ _ _ hc) (And.intro (by decide) (And.intro (fun q => absurd q (by decide)) ?_)))))
  exact w8_number_20 hG hRP F F _ _ _ _ h
set_option maxHeartbeats 4000000 in
set_option maxRecDepth 20000 in
theorem w4_readJob_81 {E : EnvT} {G : GT} {RP : Option AV → Mem → Prop} {c0 : Nat} (hG : Cl E 32 5 tb_32 G RP) {r : Mem} (hRP : RP none r) (F : Nat) : ∀ (s0 : Nat) (s1 : Int32) (s2 : Int32) (d2 : Option AV) (σ : Mem), m4_readJob_81 F c0 s0 s1 s2 σ = some r → G 81 [some (.ref c0, 4), some (.ref 1, 8), d2] [(.int s2, 0), (.int s1, 0), (.ref s0, 102)] σ := by
  intro s0 s1 s2 d2 σ h
  refine bk hG (cut := [81]) 400 ?_
  unfold m4_readJob_81 at h
  have ⟨hg, h⟩ := g_gd h
  refine And.intro (inB_of hg) ?_
  have ⟨_, hc, h⟩ := b_some h
  refine Exists.intro _ (Exists.intro _ (Exists.intro _ (And.intro (c8_number F _ _ _ hc) (And.intro (by decide) (And.intro (fun q => absurd q (by decide)) ?_)))))
  have ⟨hg, h⟩ := g_gd h
  refine And.intro (inB_of hg) ?_
  have ⟨_, hc, h⟩ := b_some h
  refine Exists.intro _ (Exists.intro _ (Exists.intro _ (And.intro (c8_number F _ _ _ hc) (And.intro (by decide) (And.intro (fun q => absurd q (by decide)) ?_)))))
  have ⟨hg, h⟩ := g_gd h
  refine And.intro (inB_of hg) ?_
  have ⟨_, hc, h⟩ := b_some h
  refine Exists.intro _ (Exists.intro _ (Exists.intro _ (And.intro (c8_number F _ _ _ hc) (And.intro (by decide) (And.intro (fun q => absurd q (by decide)) ?_)))))
  have ⟨hg, h⟩ := g_gd h
  refine And.intro (inB_of hg) ?_
  have e := Option.some.inj h
  subst e
  exact hRP
set_option maxHeartbeats 4000000 in
set_option maxRecDepth 20000 in
theorem c4_readJob {E : EnvT} (F : Nat) (c0 : Nat) (σ : Mem) {r : Mem} (h : m4_readJob F c0 σ = some r) : MetAt E 5 32 [(.ref c0, 4), (.ref 1, 8)] σ none r := by
  unfold m4_readJob at h
  refine MetAt_of (tb := tb_32) (by decide) tbok_32 (Nat.le_of_ble_eq_true rfl) (fun a q => by cases q) (fun G hG => ?_)
  have hRP : (fun (a : Option AV) (τ : Mem) => a.map (conc E) = (none : Option AV).map (conc E) ∧ τ = r) none r := ⟨rfl, rfl⟩
  change G 0 [some (.ref c0, 4), some (.ref 1, 8), none] [] σ
  refine bk hG (cut := [81]) 400 ?_
  have ⟨_, hc, h⟩ := b_some h
  refine Exists.intro _ (Exists.intro _ (Exists.intro _ (And.intro (c8_number F _ _ _ hc) (And.intro (by decide) (And.intro (fun q => absurd q (by decide)) ?_)))))
  have ⟨hg, h⟩ := g_gd h
  refine And.intro (inB_of hg) ?_
  have ⟨_, hc, h⟩ := b_some h
  refine Exists.intro _ (Exists.intro _ (Exists.intro _ (And.intro (c8_next F _ hc) (And.intro (by decide) (And.intro (fun q => absurd q (by decide)) ?_)))))
  have ⟨_, hc, h⟩ := b_some h
  refine Exists.intro _ (Exists.intro _ (Exists.intro _ (And.intro (c8_word F _ _ hc) (And.intro (by decide) (And.intro (fun q => absurd q (by decide)) ?_)))))
  refine And.intro (fun hq => ?_) (fun hq => ?_)
  · have h := i_pos hq h
    have ⟨_, hc, h⟩ := b_some h
    refine Exists.intro _ (Exists.intro _ (Exists.intro _ (And.intro (c8_fail F _ _ _ hc) (And.intro (by decide) (And.intro (fun q => absurd q (by decide)) ?_)))))
    have e := Option.some.inj h
    subst e
    exact hRP
  · have h := i_neg hq h
    have ⟨_, hc, h⟩ := b_some h
    refine Exists.intro _ (Exists.intro _ (Exists.intro _ (And.intro (c8_passWord F _ hc) (And.intro (by decide) (And.intro (fun q => absurd q (by decide)) ?_)))))
    have ⟨hg, h⟩ := g_gd h
    refine And.intro (inB_of hg) ?_
    refine And.intro (fun hq => ?_) (fun hq => ?_)
    · have h := i_pos hq h
      exact w4_readJob_81 hG hRP F _ _ _ _ _ h
    · have h := i_neg hq h
      exact w4_readJob_81 hG hRP F _ _ _ _ _ h
set_option maxHeartbeats 4000000 in
set_option maxRecDepth 20000 in
theorem w4_readClause_90 {E : EnvT} {G : GT} {RP : Option AV → Mem → Prop} {c0 : Nat} {i2 : Int32} (hG : Cl E 31 6 tb_31 G RP) {r : Mem} (hRP : RP none r) (F : Nat) {k93 : Mem → Option (Mem)} (hk93 : ∀ (d3 : Option AV) (d4 : Option AV) (d5 : Option AV) (σ : Mem), k93 σ = some r → G 93 [some (.ref c0, 4), some (.ref 1, 8), some (.int i2, 0), d3, d4, d5] [] σ) : ∀ (x3 : Int32) (s0 : Int32) (s1 : Int32) (d4 : Option AV) (d5 : Option AV) (σ : Mem), m4_readClause_90 F c0 i2 k93 x3 s0 s1 σ = some r → G 90 [some (.ref c0, 4), some (.ref 1, 8), some (.int i2, 0), some (.int x3, 0), d4, d5] [(.int s1, 0), (.int s0, 0)] σ := by
  intro x3 s0 s1 d4 d5 σ h
  refine bk hG (cut := [46, 60, 64, 65, 81, 90, 93]) 400 ?_
  unfold m4_readClause_90 at h
  refine And.intro (fun hq => ?_) (fun hq => ?_)
  · have h := i_pos hq h
    have ⟨_, hc, h⟩ := b_some h
    refine Exists.intro _ (Exists.intro _ (Exists.intro _ (And.intro (c8_passWord F _ hc) (And.intro (by decide) (And.intro (fun q => absurd q (by decide)) ?_)))))
    refine And.intro (fun hq => ?_) (fun hq => ?_)
    · have h := i_pos hq h
      have ⟨_, hc, h⟩ := b_some h
      refine Exists.intro _ (Exists.intro _ (Exists.intro _ (And.intro (c8_number F _ _ _ hc) (And.intro (by decide) (And.intro (fun q => absurd q (by decide)) ?_)))))
      have ⟨_, hc, h⟩ := b_some h
      refine Exists.intro _ (Exists.intro _ (Exists.intro _ (And.intro (c8_number F _ _ _ hc) (And.intro (by decide) (And.intro (fun q => absurd q (by decide)) ?_)))))
      have ⟨_, hc, h⟩ := b_some h
      refine Exists.intro _ (Exists.intro _ (Exists.intro _ (And.intro (c8_number F _ _ _ hc) (And.intro (by decide) (And.intro (fun q => absurd q (by decide)) ?_)))))
      have e := Option.some.inj h
      subst e
      exact hRP
    · have h := i_neg hq h
      refine And.intro (fun hq => ?_) (fun hq => ?_)
      · have h := i_pos hq h
        have ⟨_, hc, h⟩ := b_some h
        refine Exists.intro _ (Exists.intro _ (Exists.intro _ (And.intro (c8_number F _ _ _ hc) (And.intro (by decide) (And.intro (fun q => absurd q (by decide)) ?_)))))
        have ⟨hg, h⟩ := g_gd h
        refine And.intro (inB_of hg) ?_
        have e := Option.some.inj h
        subst e
        exact hRP
      · have h := i_neg hq h
        refine And.intro (fun hq => ?_) (fun hq => ?_)
        · have h := i_pos hq h
          have ⟨_, hc, h⟩ := b_some h
          refine Exists.intro _ (Exists.intro _ (Exists.intro _ (And.intro (c4_readJob F _ _ hc) (And.intro (by decide) (And.intro (fun q => absurd q (by decide)) ?_)))))
          have e := Option.some.inj h
          subst e
          exact hRP
        · have h := i_neg hq h
          have ⟨_, hc, h⟩ := b_some h
          refine Exists.intro _ (Exists.intro _ (Exists.intro _ (And.intro (c8_number F _ _ _ hc) (And.intro (by decide) (And.intro (fun q => absurd q (by decide)) ?_)))))
          have ⟨_, hc, h⟩ := b_some h
          refine Exists.intro _ (Exists.intro _ (Exists.intro _ (And.intro (c8_number F _ _ _ hc) (And.intro (by decide) (And.intro (fun q => absurd q (by decide)) ?_)))))
          have ⟨hg, h⟩ := g_gd h
          refine And.intro (inB_of hg) ?_
          have e := Option.some.inj h
          subst e
          exact hRP
  · have h := i_neg hq h
    exact hk93 _ _ _ _ h
set_option maxHeartbeats 4000000 in
set_option maxRecDepth 20000 in
theorem w4_readClause_93 {E : EnvT} {G : GT} {RP : Option AV → Mem → Prop} {c0 : Nat} {i2 : Int32} (hG : Cl E 31 6 tb_31 G RP) {r : Mem} (hRP : RP none r) (F : Nat) : ∀ (d3 : Option AV) (d4 : Option AV) (d5 : Option AV) (σ : Mem), m4_readClause_93 F c0 i2 σ = some r → G 93 [some (.ref c0, 4), some (.ref 1, 8), some (.int i2, 0), d3, d4, d5] [] σ := by
  intro d3 d4 d5 σ h
  refine bk hG (cut := [46, 60, 64, 65, 81, 90, 93]) 400 ?_
  unfold m4_readClause_93 at h
  have ⟨_, hc, h⟩ := b_some h
  refine Exists.intro _ (Exists.intro _ (Exists.intro _ (And.intro (c8_fail F _ _ _ hc) (And.intro (by decide) (And.intro (fun q => absurd q (by decide)) ?_)))))
  have e := Option.some.inj h
  subst e
  exact hRP
set_option maxHeartbeats 4000000 in
set_option maxRecDepth 20000 in
theorem w4_readClause_81 {E : EnvT} {G : GT} {RP : Option AV → Mem → Prop} {c0 : Nat} {i2 : Int32} (hG : Cl E 31 6 tb_31 G RP) {r : Mem} (hRP : RP none r) (F : Nat) {k93 : Mem → Option (Mem)} (hk93 : ∀ (d3 : Option AV) (d4 : Option AV) (d5 : Option AV) (σ : Mem), k93 σ = some r → G 93 [some (.ref c0, 4), some (.ref 1, 8), some (.int i2, 0), d3, d4, d5] [] σ) : ∀ (x3 : Int32) (s0 : Int32) (d4 : Option AV) (d5 : Option AV) (σ : Mem), m4_readClause_81 F c0 i2 k93 x3 s0 σ = some r → G 81 [some (.ref c0, 4), some (.ref 1, 8), some (.int i2, 0), some (.int x3, 0), d4, d5] [(.int s0, 0)] σ := by
  intro x3 s0 d4 d5 σ h
  refine bk hG (cut := [46, 60, 64, 65, 81, 90, 93]) 400 ?_
  unfold m4_readClause_81 at h
  refine And.intro (fun hq => ?_) (fun hq => ?_)
  · have h := i_pos hq h
    exact w4_readClause_90 hG hRP F (fun _ _ _ _ h => hk93 _ _ _ _ h) _ _ _ _ _ _ h
  · have h := i_neg hq h
    exact w4_readClause_90 hG hRP F (fun _ _ _ _ h => hk93 _ _ _ _ h) _ _ _ _ _ _ h
set_option maxHeartbeats 4000000 in
set_option maxRecDepth 20000 in
theorem w4_readClause_64 {E : EnvT} {G : GT} {RP : Option AV → Mem → Prop} {c0 : Nat} {i2 : Int32} (hG : Cl E 31 6 tb_31 G RP) {r : Mem} (hRP : RP none r) (F : Nat) {k65 : Int32 → Int32 → Mem → Option (Mem)} (hk65 : ∀ (x3 : Int32) (s0 : Int32) (d4 : Option AV) (d5 : Option AV) (σ : Mem), k65 x3 s0 σ = some r → G 65 [some (.ref c0, 4), some (.ref 1, 8), some (.int i2, 0), some (.int x3, 0), d4, d5] [(.int s0, 0)] σ) : ∀ (x3 : Int32) (d4 : Option AV) (d5 : Option AV) (σ : Mem), m4_readClause_64 F c0 i2 k65 x3 σ = some r → G 64 [some (.ref c0, 4), some (.ref 1, 8), some (.int i2, 0), some (.int x3, 0), d4, d5] [] σ := by
  intro x3 d4 d5 σ h
  refine bk hG (cut := [46, 60, 64, 65, 81, 90, 93]) 400 ?_
  unfold m4_readClause_64 at h
  exact hk65 _ _ _ _ _ h
set_option maxHeartbeats 4000000 in
set_option maxRecDepth 20000 in
theorem w4_readClause_65 {E : EnvT} {G : GT} {RP : Option AV → Mem → Prop} {c0 : Nat} {i2 : Int32} (hG : Cl E 31 6 tb_31 G RP) {r : Mem} (hRP : RP none r) (F : Nat) : ∀ (x3 : Int32) (s0 : Int32) (d4 : Option AV) (d5 : Option AV) (σ : Mem), m4_readClause_65 F c0 i2 x3 s0 σ = some r → G 65 [some (.ref c0, 4), some (.ref 1, 8), some (.int i2, 0), some (.int x3, 0), d4, d5] [(.int s0, 0)] σ := by
  intro x3 s0 d4 d5 σ h
  refine bk hG (cut := [46, 60, 64, 65, 81, 90, 93]) 400 ?_
  unfold m4_readClause_65 at h
  refine And.intro (fun hq => ?_) (fun hq => ?_)
  · have h := i_pos hq h
    refine And.intro (fun hq => ?_) (fun hq => ?_)
    · have h := i_pos hq h
      exact w4_readClause_81 hG hRP F (fun _ _ _ _ h => w4_readClause_93 hG hRP F _ _ _ _ h) _ _ _ _ _ h
    · have h := i_neg hq h
      exact w4_readClause_81 hG hRP F (fun _ _ _ _ h => w4_readClause_93 hG hRP F _ _ _ _ h) _ _ _ _ _ h
  · have h := i_neg hq h
    exact w4_readClause_93 hG hRP F _ _ _ _ h
set_option maxHeartbeats 4000000 in
set_option maxRecDepth 20000 in
theorem w4_readClause_60 {E : EnvT} {G : GT} {RP : Option AV → Mem → Prop} {c0 : Nat} {i2 : Int32} (hG : Cl E 31 6 tb_31 G RP) {r : Mem} (hRP : RP none r) (F : Nat) {k65 : Int32 → Int32 → Mem → Option (Mem)} (hk65 : ∀ (x3 : Int32) (s0 : Int32) (d4 : Option AV) (d5 : Option AV) (σ : Mem), k65 x3 s0 σ = some r → G 65 [some (.ref c0, 4), some (.ref 1, 8), some (.int i2, 0), some (.int x3, 0), d4, d5] [(.int s0, 0)] σ) : ∀ (x3 : Int32) (d4 : Option AV) (d5 : Option AV) (σ : Mem), m4_readClause_60 F c0 i2 k65 x3 σ = some r → G 60 [some (.ref c0, 4), some (.ref 1, 8), some (.int i2, 0), some (.int x3, 0), d4, d5] [] σ := by
  intro x3 d4 d5 σ h
  refine bk hG (cut := [46, 60, 64, 65, 81, 90, 93]) 400 ?_
  unfold m4_readClause_60 at h
  exact hk65 _ _ _ _ _ h
set_option maxHeartbeats 4000000 in
set_option maxRecDepth 20000 in
theorem w4_readClause_46 {E : EnvT} {G : GT} {RP : Option AV → Mem → Prop} {c0 : Nat} {i2 : Int32} (hG : Cl E 31 6 tb_31 G RP) {r : Mem} (hRP : RP none r) (F : Nat) {k60 : Int32 → Mem → Option (Mem)} (hk60 : ∀ (x3 : Int32) (d4 : Option AV) (d5 : Option AV) (σ : Mem), k60 x3 σ = some r → G 60 [some (.ref c0, 4), some (.ref 1, 8), some (.int i2, 0), some (.int x3, 0), d4, d5] [] σ) {k65 : Int32 → Int32 → Mem → Option (Mem)} (hk65 : ∀ (x3 : Int32) (s0 : Int32) (d4 : Option AV) (d5 : Option AV) (σ : Mem), k65 x3 s0 σ = some r → G 65 [some (.ref c0, 4), some (.ref 1, 8), some (.int i2, 0), some (.int x3, 0), d4, d5] [(.int s0, 0)] σ) : ∀ (x3 : Int32) (d4 : Option AV) (d5 : Option AV) (σ : Mem), m4_readClause_46 F c0 i2 k60 k65 x3 σ = some r → G 46 [some (.ref c0, 4), some (.ref 1, 8), some (.int i2, 0), some (.int x3, 0), d4, d5] [] σ := by
  intro x3 d4 d5 σ h
  refine bk hG (cut := [46, 60, 64, 65, 81, 90, 93]) 400 ?_
  unfold m4_readClause_46 at h
  refine And.intro (fun hq => ?_) (fun hq => ?_)
  · have h := i_pos hq h
    refine And.intro (fun hq => ?_) (fun hq => ?_)
    · have h := i_pos hq h
      exact w4_readClause_64 hG hRP F (fun _ _ _ _ _ h => hk65 _ _ _ _ _ h) _ _ _ _ h
    · have h := i_neg hq h
      exact hk60 _ _ _ _ h
  · have h := i_neg hq h
    exact w4_readClause_64 hG hRP F (fun _ _ _ _ _ h => hk65 _ _ _ _ _ h) _ _ _ _ h
set_option maxHeartbeats 4000000 in
set_option maxRecDepth 20000 in
theorem c4_readClause {E : EnvT} (F : Nat) (c0 : Nat) (i2 : Int32) (σ : Mem) {r : Mem} (h : m4_readClause F c0 i2 σ = some r) : MetAt E 6 31 [(.ref c0, 4), (.ref 1, 8), (.int i2, 0)] σ none r := by
  unfold m4_readClause at h
  refine MetAt_of (tb := tb_31) (by decide) tbok_31 (Nat.le_of_ble_eq_true rfl) (fun a q => by cases q) (fun G hG => ?_)
  have hRP : (fun (a : Option AV) (τ : Mem) => a.map (conc E) = (none : Option AV).map (conc E) ∧ τ = r) none r := ⟨rfl, rfl⟩
  change G 0 [some (.ref c0, 4), some (.ref 1, 8), some (.int i2, 0), none, none, none] [] σ
  refine bk hG (cut := [46, 60, 64, 65, 81, 90, 93]) 400 ?_
  have ⟨_, hc, h⟩ := b_some h
  refine Exists.intro _ (Exists.intro _ (Exists.intro _ (And.intro (c8_next F _ hc) (And.intro (by decide) (And.intro (fun q => absurd q (by decide)) ?_)))))
  have ⟨_, hc, h⟩ := b_some h
  refine Exists.intro _ (Exists.intro _ (Exists.intro _ (And.intro (c8_word F _ _ hc) (And.intro (by decide) (And.intro (fun q => absurd q (by decide)) ?_)))))
  refine And.intro (fun hq => ?_) (fun hq => ?_)
  · have h := i_pos hq h
    have ⟨_, hc, h⟩ := b_some h
    refine Exists.intro _ (Exists.intro _ (Exists.intro _ (And.intro (c8_fail F _ _ _ hc) (And.intro (by decide) (And.intro (fun q => absurd q (by decide)) ?_)))))
    have e := Option.some.inj h
    subst e
    exact hRP
  · have h := i_neg hq h
    refine And.intro (fun hq => ?_) (fun hq => ?_)
    · have h := i_pos hq h
      exact w4_readClause_60 hG hRP F (fun _ _ _ _ _ h => w4_readClause_65 hG hRP F _ _ _ _ _ h) _ _ _ _ h
    · have h := i_neg hq h
      refine And.intro (fun hq => ?_) (fun hq => ?_)
      · have h := i_pos hq h
        refine And.intro (fun hq => ?_) (fun hq => ?_)
        · have h := i_pos hq h
          exact w4_readClause_60 hG hRP F (fun _ _ _ _ _ h => w4_readClause_65 hG hRP F _ _ _ _ _ h) _ _ _ _ h
        · have h := i_neg hq h
          exact w4_readClause_46 hG hRP F (fun _ _ _ _ h => w4_readClause_60 hG hRP F (fun _ _ _ _ _ h => w4_readClause_65 hG hRP F _ _ _ _ _ h) _ _ _ _ h) (fun _ _ _ _ _ h => w4_readClause_65 hG hRP F _ _ _ _ _ h) _ _ _ _ h
      · have h := i_neg hq h
        exact w4_readClause_46 hG hRP F (fun _ _ _ _ h => w4_readClause_60 hG hRP F (fun _ _ _ _ _ h => w4_readClause_65 hG hRP F _ _ _ _ _ h) _ _ _ _ h) (fun _ _ _ _ _ h => w4_readClause_65 hG hRP F _ _ _ _ _ h) _ _ _ _ h
