set_option maxHeartbeats 4000000 in
set_option maxRecDepth 20000 in
theorem c12_partHere {E : EnvT} (F : Nat)  (σ : Mem) {r : Int32 × Mem} (h : m12_partHere F σ = some r) : MetAt E 3 142 [(.ref 483, 12)] σ (some (.int r.1, 0)) r.2 := by
  unfold m12_partHere at h
  refine MetAt_of (tb := tb_142) (by decide) tbok_142 (Nat.le_of_ble_eq_true rfl) (fun a q => by cases q; trivial) (fun G hG => ?_)
  have hRP : (fun (a : Option AV) (τ : Mem) => a.map (conc E) = ((some (.int r.1, 0)) : Option AV).map (conc E) ∧ τ = r.2) (some (.int r.1, 0)) r.2 := ⟨rfl, rfl⟩
  change G 0 [some (.ref 483, 12)] [] σ
  refine bk hG (cut := []) 400 ?_
  have ⟨_, hc, h⟩ := b_some h
  refine Exists.intro _ (Exists.intro _ (Exists.intro _ (And.intro (c12_takesWord F _ _ hc) (And.intro (by decide) (And.intro (fun q => absurd q (by decide)) ?_)))))
  refine And.intro (fun hq => ?_) (fun hq => ?_)
  · have h := i_pos hq h
    have ⟨_, hc, h⟩ := b_some h
    refine Exists.intro _ (Exists.intro _ (Exists.intro _ (And.intro (c12_takesWord F _ _ hc) (And.intro (by decide) (And.intro (fun q => absurd q (by decide)) ?_)))))
    refine And.intro (fun hq => ?_) (fun hq => ?_)
    · have h := i_pos hq h
      have ⟨_, hc, h⟩ := b_some h
      refine Exists.intro _ (Exists.intro _ (Exists.intro _ (And.intro (c12_takesWord F _ _ hc) (And.intro (by decide) (And.intro (fun q => absurd q (by decide)) ?_)))))
      refine And.intro (fun hq => ?_) (fun hq => ?_)
      · have h := i_pos hq h
        have ⟨_, hc, h⟩ := b_some h
        refine Exists.intro _ (Exists.intro _ (Exists.intro _ (And.intro (c12_takesWord F _ _ hc) (And.intro (by decide) (And.intro (fun q => absurd q (by decide)) ?_)))))
        refine And.intro (fun hq => ?_) (fun hq => ?_)
        · have h := i_pos hq h
          have e := Option.some.inj h
          subst e
          exact hRP
        · have h := i_neg hq h
          have e := Option.some.inj h
          subst e
          exact hRP
      · have h := i_neg hq h
        have e := Option.some.inj h
        subst e
        exact hRP
    · have h := i_neg hq h
      have e := Option.some.inj h
      subst e
      exact hRP
  · have h := i_neg hq h
    have e := Option.some.inj h
    subst e
    exact hRP
set_option maxHeartbeats 4000000 in
set_option maxRecDepth 20000 in
theorem c12_isJobHere {E : EnvT} (F : Nat) (i1 : Int32) (σ : Mem) {r : Int32 × Mem} (h : m12_isJobHere F i1 σ = some r) : MetAt E 4 143 [(.ref 483, 12), (.int i1, 0)] σ (some (.int r.1, 0)) r.2 := by
  unfold m12_isJobHere at h
  refine MetAt_of (tb := tb_143) (by decide) tbok_143 (Nat.le_of_ble_eq_true rfl) (fun a q => by cases q; trivial) (fun G hG => ?_)
  have hRP : (fun (a : Option AV) (τ : Mem) => a.map (conc E) = ((some (.int r.1, 0)) : Option AV).map (conc E) ∧ τ = r.2) (some (.int r.1, 0)) r.2 := ⟨rfl, rfl⟩
  change G 0 [some (.ref 483, 12), some (.int i1, 0), none, none] [] σ
  refine bk hG (cut := []) 400 ?_
  have ⟨hg, h⟩ := g_gd h
  refine And.intro (inB_of hg) ?_
  refine And.intro (fun hq => ?_) (fun hq => ?_)
  · have h := i_pos hq h
    have ⟨_, hc, h⟩ := b_some h
    refine Exists.intro _ (Exists.intro _ (Exists.intro _ (And.intro (c12_fails F _ _ _ hc) (And.intro (by decide) (And.intro (fun q => absurd q (by decide)) ?_)))))
    have ⟨hg, h⟩ := g_gd h
    have e := Option.some.inj h
    subst e
    exact And.intro (hg) hRP
  · have h := i_neg hq h
    have ⟨_, hc, h⟩ := b_some h
    refine Exists.intro _ (Exists.intro _ (Exists.intro _ (And.intro (c12_passWord F _ hc) (And.intro (by decide) (And.intro (fun q => absurd q (by decide)) ?_)))))
    have ⟨hg, h⟩ := g_gd h
    refine And.intro (inB_of hg) ?_
    have ⟨hg, h⟩ := g_gd h
    refine And.intro (inB_of hg) ?_
    have ⟨_, hc, h⟩ := b_some h
    refine Exists.intro _ (Exists.intro _ (Exists.intro _ (And.intro (c12_cellHere F _ _ _ _ hc) (And.intro (by decide) (And.intro (fun q => absurd q (by decide)) ?_)))))
    refine And.intro (fun hq => ?_) (fun hq => ?_)
    · have h := i_pos hq h
      have e := Option.some.inj h
      subst e
      exact And.intro (Or.inl rfl) hRP
    · have h := i_neg hq h
      have ⟨_, hc, h⟩ := b_some h
      refine Exists.intro _ (Exists.intro _ (Exists.intro _ (And.intro (c12_see F _ hc) (And.intro (by decide) (And.intro (fun q => absurd q (by decide)) ?_)))))
      have ⟨_, hc, h⟩ := b_some h
      refine Exists.intro _ (Exists.intro _ (Exists.intro _ (And.intro (c12_partHere F _ hc) (And.intro (by decide) (And.intro (fun q => absurd q (by decide)) ?_)))))
      have ⟨hg, h⟩ := g_gd h
      refine And.intro (inB_of hg) ?_
      have ⟨hg, h⟩ := g_gd h
      refine And.intro (inB_of hg) ?_
      refine And.intro (fun hq => ?_) (fun hq => ?_)
      · have h := i_pos hq h
        have ⟨_, hc, h⟩ := b_some h
        refine Exists.intro _ (Exists.intro _ (Exists.intro _ (And.intro (c12_cellHere F _ _ _ _ hc) (And.intro (by decide) (And.intro (fun q => absurd q (by decide)) ?_)))))
        refine And.intro (fun hq => ?_) (fun hq => ?_)
        · have h := i_pos hq h
          have e := Option.some.inj h
          subst e
          exact And.intro (Or.inl rfl) hRP
        · have h := i_neg hq h
          have ⟨_, hc, h⟩ := b_some h
          refine Exists.intro _ (Exists.intro _ (Exists.intro _ (And.intro (c12_cellHere F _ _ _ _ hc) (And.intro (by decide) (And.intro (fun q => absurd q (by decide)) ?_)))))
          refine And.intro (fun hq => ?_) (fun hq => ?_)
          · have h := i_pos hq h
            have e := Option.some.inj h
            subst e
            exact And.intro (Or.inl rfl) hRP
          · have h := i_neg hq h
            have ⟨_, hc, h⟩ := b_some h
            refine Exists.intro _ (Exists.intro _ (Exists.intro _ (And.intro (c12_cellHere F _ _ _ _ hc) (And.intro (by decide) (And.intro (fun q => absurd q (by decide)) ?_)))))
            refine And.intro (fun hq => ?_) (fun hq => ?_)
            · have h := i_pos hq h
              have e := Option.some.inj h
              subst e
              exact And.intro (Or.inl rfl) hRP
            · have h := i_neg hq h
              have ⟨hg, h⟩ := g_gd h
              refine And.intro (inB_of hg) ?_
              have ⟨hg, h⟩ := g_gd h
              refine And.intro (inB_of hg) ?_
              have ⟨hg, h⟩ := g_gd h
              refine And.intro (inB_of hg) ?_
              have ⟨hg, h⟩ := g_gd h
              refine And.intro (inB_of hg) ?_
              have ⟨hg, h⟩ := g_gd h
              refine And.intro (inB_of hg) ?_
              have ⟨hg, h⟩ := g_gd h
              refine And.intro (inB_of hg) ?_
              have ⟨hg, h⟩ := g_gd h
              refine And.intro (inB_of hg) ?_
              have e := Option.some.inj h
              subst e
              exact And.intro (Or.inr rfl) hRP
      · have h := i_neg hq h
        have ⟨_, hc, h⟩ := b_some h
        refine Exists.intro _ (Exists.intro _ (Exists.intro _ (And.intro (c12_fails F _ _ _ hc) (And.intro (by decide) (And.intro (fun q => absurd q (by decide)) ?_)))))
        have ⟨hg, h⟩ := g_gd h
        have e := Option.some.inj h
        subst e
        exact And.intro (hg) hRP
set_option maxHeartbeats 4000000 in
set_option maxRecDepth 20000 in
theorem c12_isPartHere {E : EnvT} (F : Nat)  (σ : Mem) {r : Int32 × Mem} (h : m12_isPartHere F σ = some r) : MetAt E 3 144 [(.ref 483, 12)] σ (some (.int r.1, 0)) r.2 := by
  unfold m12_isPartHere at h
  refine MetAt_of (tb := tb_144) (by decide) tbok_144 (Nat.le_of_ble_eq_true rfl) (fun a q => by cases q; trivial) (fun G hG => ?_)
  have hRP : (fun (a : Option AV) (τ : Mem) => a.map (conc E) = ((some (.int r.1, 0)) : Option AV).map (conc E) ∧ τ = r.2) (some (.int r.1, 0)) r.2 := ⟨rfl, rfl⟩
  change G 0 [some (.ref 483, 12)] [] σ
  refine bk hG (cut := []) 400 ?_
  have ⟨_, hc, h⟩ := b_some h
  refine Exists.intro _ (Exists.intro _ (Exists.intro _ (And.intro (c12_passWord F _ hc) (And.intro (by decide) (And.intro (fun q => absurd q (by decide)) ?_)))))
  have ⟨_, hc, h⟩ := b_some h
  refine Exists.intro _ (Exists.intro _ (Exists.intro _ (And.intro (c12_numberHere F _ _ _ hc) (And.intro (by decide) (And.intro (fun q => absurd q (by decide)) ?_)))))
  refine And.intro (fun hq => ?_) (fun hq => ?_)
  · have h := i_pos hq h
    have e := Option.some.inj h
    subst e
    exact And.intro (Or.inl rfl) hRP
  · have h := i_neg hq h
    have ⟨_, hc, h⟩ := b_some h
    refine Exists.intro _ (Exists.intro _ (Exists.intro _ (And.intro (c12_cellHere F _ _ _ _ hc) (And.intro (by decide) (And.intro (fun q => absurd q (by decide)) ?_)))))
    have ⟨hg, h⟩ := g_gd h
    have e := Option.some.inj h
    subst e
    exact And.intro (hg) hRP
set_option maxHeartbeats 4000000 in
set_option maxRecDepth 20000 in
theorem c12_smithyLineHere {E : EnvT} (F : Nat) (i1 : Int32) (σ : Mem) {r : Int32 × Mem} (h : m12_smithyLineHere F i1 σ = some r) : MetAt E 5 145 [(.ref 483, 12), (.int i1, 0)] σ (some (.int r.1, 0)) r.2 := by
  unfold m12_smithyLineHere at h
  refine MetAt_of (tb := tb_145) (by decide) tbok_145 (Nat.le_of_ble_eq_true rfl) (fun a q => by cases q; trivial) (fun G hG => ?_)
  have hRP : (fun (a : Option AV) (τ : Mem) => a.map (conc E) = ((some (.int r.1, 0)) : Option AV).map (conc E) ∧ τ = r.2) (some (.int r.1, 0)) r.2 := ⟨rfl, rfl⟩
  change G 0 [some (.ref 483, 12), some (.int i1, 0)] [] σ
  refine bk hG (cut := []) 400 ?_
  have ⟨_, hc, h⟩ := b_some h
  refine Exists.intro _ (Exists.intro _ (Exists.intro _ (And.intro (c12_isWord F _ _ hc) (And.intro (by decide) (And.intro (fun q => absurd q (by decide)) ?_)))))
  refine And.intro (fun hq => ?_) (fun hq => ?_)
  · have h := i_pos hq h
    have ⟨hg, h⟩ := g_gd h
    refine And.intro (inB_of hg) ?_
    refine And.intro (fun hq => ?_) (fun hq => ?_)
    · have h := i_pos hq h
      have ⟨_, hc, h⟩ := b_some h
      refine Exists.intro _ (Exists.intro _ (Exists.intro _ (And.intro (c12_fails F _ _ _ hc) (And.intro (by decide) (And.intro (fun q => absurd q (by decide)) ?_)))))
      have ⟨hg, h⟩ := g_gd h
      have e := Option.some.inj h
      subst e
      exact And.intro (hg) hRP
    · have h := i_neg hq h
      have ⟨_, hc, h⟩ := b_some h
      refine Exists.intro _ (Exists.intro _ (Exists.intro _ (And.intro (c12_isWord F _ _ hc) (And.intro (by decide) (And.intro (fun q => absurd q (by decide)) ?_)))))
      refine And.intro (fun hq => ?_) (fun hq => ?_)
      · have h := i_pos hq h
        have ⟨_, hc, h⟩ := b_some h
        refine Exists.intro _ (Exists.intro _ (Exists.intro _ (And.intro (c12_isWord F _ _ hc) (And.intro (by decide) (And.intro (fun q => absurd q (by decide)) ?_)))))
        refine And.intro (fun hq => ?_) (fun hq => ?_)
        · have h := i_pos hq h
          have ⟨_, hc, h⟩ := b_some h
          refine Exists.intro _ (Exists.intro _ (Exists.intro _ (And.intro (c12_isPartHere F _ hc) (And.intro (by decide) (And.intro (fun q => absurd q (by decide)) ?_)))))
          have ⟨hg, h⟩ := g_gd h
          have e := Option.some.inj h
          subst e
          exact And.intro (hg) hRP
        · have h := i_neg hq h
          have ⟨_, hc, h⟩ := b_some h
          refine Exists.intro _ (Exists.intro _ (Exists.intro _ (And.intro (c12_isJobHere F _ _ hc) (And.intro (by decide) (And.intro (fun q => absurd q (by decide)) ?_)))))
          have ⟨hg, h⟩ := g_gd h
          have e := Option.some.inj h
          subst e
          exact And.intro (hg) hRP
      · have h := i_neg hq h
        have ⟨_, hc, h⟩ := b_some h
        refine Exists.intro _ (Exists.intro _ (Exists.intro _ (And.intro (c12_isSmithHere F _ _ hc) (And.intro (by decide) (And.intro (fun q => absurd q (by decide)) ?_)))))
        have ⟨hg, h⟩ := g_gd h
        have e := Option.some.inj h
        subst e
        exact And.intro (hg) hRP
  · have h := i_neg hq h
    have ⟨_, hc, h⟩ := b_some h
    refine Exists.intro _ (Exists.intro _ (Exists.intro _ (And.intro (c12_isSmithyHere F _ _ hc) (And.intro (by decide) (And.intro (fun q => absurd q (by decide)) ?_)))))
    have ⟨hg, h⟩ := g_gd h
    have e := Option.some.inj h
    subst e
    exact And.intro (hg) hRP
set_option maxHeartbeats 4000000 in
set_option maxRecDepth 20000 in
theorem c12_isSmithyWord {E : EnvT} (F : Nat)  (σ : Mem) {r : Int32 × Mem} (h : m12_isSmithyWord F σ = some r) : MetAt E 2 146 [(.ref 483, 12)] σ (some (.int r.1, 0)) r.2 := by
  unfold m12_isSmithyWord at h
  refine MetAt_of (tb := tb_146) (by decide) tbok_146 (Nat.le_of_ble_eq_true rfl) (fun a q => by cases q; trivial) (fun G hG => ?_)
  have hRP : (fun (a : Option AV) (τ : Mem) => a.map (conc E) = ((some (.int r.1, 0)) : Option AV).map (conc E) ∧ τ = r.2) (some (.int r.1, 0)) r.2 := ⟨rfl, rfl⟩
  change G 0 [some (.ref 483, 12)] [] σ
  refine bk hG (cut := []) 400 ?_
  have ⟨_, hc, h⟩ := b_some h
  refine Exists.intro _ (Exists.intro _ (Exists.intro _ (And.intro (c12_isWord F _ _ hc) (And.intro (by decide) (And.intro (fun q => absurd q (by decide)) ?_)))))
  refine And.intro (fun hq => ?_) (fun hq => ?_)
  · have h := i_pos hq h
    have ⟨_, hc, h⟩ := b_some h
    refine Exists.intro _ (Exists.intro _ (Exists.intro _ (And.intro (c12_isWord F _ _ hc) (And.intro (by decide) (And.intro (fun q => absurd q (by decide)) ?_)))))
    refine And.intro (fun hq => ?_) (fun hq => ?_)
    · have h := i_pos hq h
      have ⟨_, hc, h⟩ := b_some h
      refine Exists.intro _ (Exists.intro _ (Exists.intro _ (And.intro (c12_isWord F _ _ hc) (And.intro (by decide) (And.intro (fun q => absurd q (by decide)) ?_)))))
      refine And.intro (fun hq => ?_) (fun hq => ?_)
      · have h := i_pos hq h
        have ⟨_, hc, h⟩ := b_some h
        refine Exists.intro _ (Exists.intro _ (Exists.intro _ (And.intro (c12_isWord F _ _ hc) (And.intro (by decide) (And.intro (fun q => absurd q (by decide)) ?_)))))
        refine And.intro (fun hq => ?_) (fun hq => ?_)
        · have h := i_pos hq h
          have e := Option.some.inj h
          subst e
          exact And.intro (Or.inl rfl) hRP
        · have h := i_neg hq h
          have e := Option.some.inj h
          subst e
          exact And.intro (Or.inr rfl) hRP
      · have h := i_neg hq h
        have e := Option.some.inj h
        subst e
        exact And.intro (Or.inr rfl) hRP
    · have h := i_neg hq h
      have e := Option.some.inj h
      subst e
      exact And.intro (Or.inr rfl) hRP
  · have h := i_neg hq h
    have e := Option.some.inj h
    subst e
    exact And.intro (Or.inr rfl) hRP
set_option maxHeartbeats 4000000 in
set_option maxRecDepth 20000 in
theorem w12_clauseHere_71 {E : EnvT} {G : GT} {RP : Option AV → Mem → Prop} (hG : Cl E 147 10 tb_147 G RP) {r : Int32 × Mem} (hRP : RP (some (.int r.1, 0)) r.2) (F : Nat) : ∀ (x1 : Int32) (x2 : Int32) (s0 : Int32) (s1 : Int32) (σ : Mem), m12_clauseHere_71 F x1 x2 s0 s1 σ = some r → G 71 [some (.ref 483, 12), some (.int x1, 0), some (.int x2, 0)] [(.int s1, 0), (.int s0, 0)] σ := by
  intro x1 x2 s0 s1 σ h
  refine bk hG (cut := [24, 49, 56, 71]) 400 ?_
  unfold m12_clauseHere_71 at h
  refine And.intro (fun hq => ?_) (fun hq => ?_)
  · have h := i_pos hq h
    have ⟨_, hc, h⟩ := b_some h
    refine Exists.intro _ (Exists.intro _ (Exists.intro _ (And.intro (c12_fails F _ _ _ hc) (And.intro (by decide) (And.intro (fun q => absurd q (by decide)) ?_)))))
    have ⟨hg, h⟩ := g_gd h
    have e := Option.some.inj h
    subst e
    exact And.intro (hg) hRP
  · have h := i_neg hq h
    refine And.intro (fun hq => ?_) (fun hq => ?_)
    · have h := i_pos hq h
      have ⟨_, hc, h⟩ := b_some h
      refine Exists.intro _ (Exists.intro _ (Exists.intro _ (And.intro (c12_isStrikeHere F _ hc) (And.intro (by decide) (And.intro (fun q => absurd q (by decide)) ?_)))))
      have ⟨hg, h⟩ := g_gd h
      have e := Option.some.inj h
      subst e
      exact And.intro (hg) hRP
    · have h := i_neg hq h
      have ⟨_, hc, h⟩ := b_some h
      refine Exists.intro _ (Exists.intro _ (Exists.intro _ (And.intro (c12_smithyLineHere F _ _ hc) (And.intro (by decide) (And.intro (fun q => absurd q (by decide)) ?_)))))
      have ⟨hg, h⟩ := g_gd h
      have e := Option.some.inj h
      subst e
      exact And.intro (hg) hRP
set_option maxHeartbeats 4000000 in
set_option maxRecDepth 20000 in
theorem w12_clauseHere_56 {E : EnvT} {G : GT} {RP : Option AV → Mem → Prop} (hG : Cl E 147 10 tb_147 G RP) {r : Int32 × Mem} (hRP : RP (some (.int r.1, 0)) r.2) (F : Nat) : ∀ (x1 : Int32) (x2 : Int32) (σ : Mem), m12_clauseHere_56 F x1 x2 σ = some r → G 56 [some (.ref 483, 12), some (.int x1, 0), some (.int x2, 0)] [] σ := by
  intro x1 x2 σ h
  refine bk hG (cut := [24, 49, 56, 71]) 400 ?_
  unfold m12_clauseHere_56 at h
  refine And.intro (fun hq => ?_) (fun hq => ?_)
  · have h := i_pos hq h
    exact w12_clauseHere_71 hG hRP F _ _ _ _ _ h
  · have h := i_neg hq h
    exact w12_clauseHere_71 hG hRP F _ _ _ _ _ h
set_option maxHeartbeats 4000000 in
set_option maxRecDepth 20000 in
theorem w12_clauseHere_49 {E : EnvT} {G : GT} {RP : Option AV → Mem → Prop} (hG : Cl E 147 10 tb_147 G RP) {r : Int32 × Mem} (hRP : RP (some (.int r.1, 0)) r.2) (F : Nat) : ∀ (x1 : Int32) (d2 : Option AV) (σ : Mem), m12_clauseHere_49 F x1 σ = some r → G 49 [some (.ref 483, 12), some (.int x1, 0), d2] [] σ := by
  intro x1 d2 σ h
  refine bk hG (cut := [24, 49, 56, 71]) 400 ?_
  unfold m12_clauseHere_49 at h
  have ⟨_, hc, h⟩ := b_some h
  refine Exists.intro _ (Exists.intro _ (Exists.intro _ (And.intro (c12_fails F _ _ _ hc) (And.intro (by decide) (And.intro (fun q => absurd q (by decide)) ?_)))))
  have ⟨hg, h⟩ := g_gd h
  have e := Option.some.inj h
  subst e
  exact And.intro (hg) hRP
set_option maxHeartbeats 4000000 in
set_option maxRecDepth 20000 in
theorem w12_clauseHere_24 {E : EnvT} {G : GT} {RP : Option AV → Mem → Prop} (hG : Cl E 147 10 tb_147 G RP) {r : Int32 × Mem} (hRP : RP (some (.int r.1, 0)) r.2) (F : Nat) : ∀ (x1 : Int32) (s0 : Int32) (d2 : Option AV) (σ : Mem), m12_clauseHere_24 F x1 s0 σ = some r → G 24 [some (.ref 483, 12), some (.int x1, 0), d2] [(.int s0, 0)] σ := by
  intro x1 s0 d2 σ h
  refine bk hG (cut := [24, 49, 56, 71]) 400 ?_
  unfold m12_clauseHere_24 at h
  refine And.intro (fun hq => ?_) (fun hq => ?_)
  · have h := i_pos hq h
    have ⟨_, hc, h⟩ := b_some h
    refine Exists.intro _ (Exists.intro _ (Exists.intro _ (And.intro (c12_isWord F _ _ hc) (And.intro (by decide) (And.intro (fun q => absurd q (by decide)) ?_)))))
    refine And.intro (fun hq => ?_) (fun hq => ?_)
    · have h := i_pos hq h
      exact w12_clauseHere_49 hG hRP F _ _ _ h
    · have h := i_neg hq h
      exact w12_clauseHere_56 hG hRP F _ _ _ h
  · have h := i_neg hq h
    have ⟨_, hc, h⟩ := b_some h
    refine Exists.intro _ (Exists.intro _ (Exists.intro _ (And.intro (c12_isSmithyWord F _ hc) (And.intro (by decide) (And.intro (fun q => absurd q (by decide)) ?_)))))
    refine And.intro (fun hq => ?_) (fun hq => ?_)
    · have h := i_pos hq h
      exact w12_clauseHere_49 hG hRP F _ _ _ h
    · have h := i_neg hq h
      exact w12_clauseHere_56 hG hRP F _ _ _ h
set_option maxHeartbeats 4000000 in
set_option maxRecDepth 20000 in
theorem c12_clauseHere {E : EnvT} (F : Nat)  (σ : Mem) {r : Int32 × Mem} (h : m12_clauseHere F σ = some r) : MetAt E 10 147 [(.ref 483, 12)] σ (some (.int r.1, 0)) r.2 := by
  unfold m12_clauseHere at h
  refine MetAt_of (tb := tb_147) (by decide) tbok_147 (Nat.le_of_ble_eq_true rfl) (fun a q => by cases q; trivial) (fun G hG => ?_)
  have hRP : (fun (a : Option AV) (τ : Mem) => a.map (conc E) = ((some (.int r.1, 0)) : Option AV).map (conc E) ∧ τ = r.2) (some (.int r.1, 0)) r.2 := ⟨rfl, rfl⟩
  change G 0 [some (.ref 483, 12), none, none] [] σ
  refine bk hG (cut := [24, 49, 56, 71]) 400 ?_
  have ⟨_, hc, h⟩ := b_some h
  refine Exists.intro _ (Exists.intro _ (Exists.intro _ (And.intro (c12_see F _ hc) (And.intro (by decide) (And.intro (fun q => absurd q (by decide)) ?_)))))
  refine And.intro (fun hq => ?_) (fun hq => ?_)
  · have h := i_pos hq h
    exact w12_clauseHere_24 hG hRP F _ _ _ _ h
  · have h := i_neg hq h
    exact w12_clauseHere_24 hG hRP F _ _ _ _ h
set_option maxHeartbeats 4000000 in
set_option maxRecDepth 20000 in
theorem w12_readsAll_88 {E : EnvT} {G : GT} {RP : Option AV → Mem → Prop} (hG : Cl E 148 11 tb_148 G RP) {r : Int32 × Mem} (hRP : RP (some (.int r.1, 0)) r.2) (F : Nat) : ∀ (d1 : Option AV) (σ : Mem), m12_readsAll_88 F σ = some r → G 88 [some (.ref 483, 12), d1] [] σ := by
  intro d1 σ h
  refine bk hG (cut := [35, 66, 88]) 400 ?_
  unfold m12_readsAll_88 at h
  refine And.intro (fun hq => ?_) (fun hq => ?_)
  · have h := i_pos hq h
    have e := Option.some.inj h
    subst e
    exact And.intro (Or.inr rfl) hRP
  · have h := i_neg hq h
    have e := Option.some.inj h
    subst e
    exact And.intro (Or.inl rfl) hRP
set_option maxHeartbeats 4000000 in
set_option maxRecDepth 20000 in
theorem w12_readsAll_66 {E : EnvT} {G : GT} {RP : Option AV → Mem → Prop} (hG : Cl E 148 11 tb_148 G RP) {r : Int32 × Mem} (hRP : RP (some (.int r.1, 0)) r.2) (F : Nat) : ∀ (x1 : Int32) (σ : Mem), m12_readsAll_66 F x1 σ = some r → G 66 [some (.ref 483, 12), some (.int x1, 0)] [] σ := by
  intro x1 σ h
  refine bk hG (cut := [35, 66, 88]) 400 ?_
  unfold m12_readsAll_66 at h
  refine And.intro (fun hq => ?_) (fun hq => ?_)
  · have h := i_pos hq h
    exact w12_readsAll_88 hG hRP F _ _ h
  · have h := i_neg hq h
    have ⟨_, hc, h⟩ := b_some h
    refine Exists.intro _ (Exists.intro _ (Exists.intro _ (And.intro (c12_see F _ hc) (And.intro (by decide) (And.intro (fun q => absurd q (by decide)) ?_)))))
    refine And.intro (fun hq => ?_) (fun hq => ?_)
    · have h := i_pos hq h
      exact w12_readsAll_88 hG hRP F _ _ h
    · have h := i_neg hq h
      have ⟨_, hc, h⟩ := b_some h
      refine Exists.intro _ (Exists.intro _ (Exists.intro _ (And.intro (c12_fails F _ _ _ hc) (And.intro (by decide) (And.intro (fun q => absurd q (by decide)) ?_)))))
      exact w12_readsAll_88 hG hRP F _ _ h
set_option maxHeartbeats 4000000 in
set_option maxRecDepth 20000 in
theorem w12_readsAll_35 {E : EnvT} {G : GT} {RP : Option AV → Mem → Prop} (hG : Cl E 148 11 tb_148 G RP) {r : Int32 × Mem} (hRP : RP (some (.int r.1, 0)) r.2) (F : Nat) : ∀ (n : Nat) (x1 : Int32) (σ : Mem), m12_readsAll_35 F n x1 σ = some r → G 35 [some (.ref 483, 12), some (.int x1, 0)] [] σ := by
  intro n
  induction n with
  | zero => intro x1 σ h; unfold m12_readsAll_35 at h; cases h
  | succ n ih =>
    intro x1 σ h
    refine bk hG (cut := [35, 66, 88]) 400 ?_
    unfold m12_readsAll_35 at h
    refine And.intro (fun hq => ?_) (fun hq => ?_)
    · have h := i_pos hq h
      exact w12_readsAll_66 hG hRP F _ _ h
    · have h := i_neg hq h
      have ⟨_, hc, h⟩ := b_some h
      refine Exists.intro _ (Exists.intro _ (Exists.intro _ (And.intro (c12_see F _ hc) (And.intro (by decide) (And.intro (fun q => absurd q (by decide)) ?_)))))
      refine And.intro (fun hq => ?_) (fun hq => ?_)
      · have h := i_pos hq h
        have ⟨_, hc, h⟩ := b_some h
        refine Exists.intro _ (Exists.intro _ (Exists.intro _ (And.intro (c12_clauseHere F _ hc) (And.intro (by decide) (And.intro (fun q => absurd q (by decide)) ?_)))))
        exact ih _ _ h
      · have h := i_neg hq h
        exact w12_readsAll_66 hG hRP F _ _ h
set_option maxHeartbeats 4000000 in
set_option maxRecDepth 20000 in
theorem c12_readsAll {E : EnvT} (F : Nat)  (σ : Mem) {r : Int32 × Mem} (h : m12_readsAll F σ = some r) : MetAt E 11 148 [(.ref 483, 12)] σ (some (.int r.1, 0)) r.2 := by
  unfold m12_readsAll at h
  refine MetAt_of (tb := tb_148) (by decide) tbok_148 (Nat.le_of_ble_eq_true rfl) (fun a q => by cases q; trivial) (fun G hG => ?_)
  have hRP : (fun (a : Option AV) (τ : Mem) => a.map (conc E) = ((some (.int r.1, 0)) : Option AV).map (conc E) ∧ τ = r.2) (some (.int r.1, 0)) r.2 := ⟨rfl, rfl⟩
  change G 0 [some (.ref 483, 12), none] [] σ
  refine bk hG (cut := [35, 66, 88]) 400 ?_
  have ⟨hg, h⟩ := g_gd h
  refine And.intro (inB_of hg) ?_
  have ⟨_, hc, h⟩ := b_some h
  refine Exists.intro _ (Exists.intro _ (Exists.intro _ (And.intro (c12_clauseHere F _ hc) (And.intro (by decide) (And.intro (fun q => absurd q (by decide)) ?_)))))
  exact w12_readsAll_35 hG hRP F F _ _ h
set_option maxHeartbeats 4000000 in
set_option maxRecDepth 20000 in
theorem c12_rule {E : EnvT} (F : Nat)  (σ : Mem) {r : Int32 × Mem} (h : m12_rule F σ = some r) : MetAt E 12 149 [(.ref 483, 12)] σ (some (.int r.1, 0)) r.2 := by
  unfold m12_rule at h
  refine MetAt_of (tb := tb_149) (by decide) tbok_149 (Nat.le_of_ble_eq_true rfl) (fun a q => by cases q; trivial) (fun G hG => ?_)
  have hRP : (fun (a : Option AV) (τ : Mem) => a.map (conc E) = ((some (.int r.1, 0)) : Option AV).map (conc E) ∧ τ = r.2) (some (.int r.1, 0)) r.2 := ⟨rfl, rfl⟩
  change G 0 [some (.ref 483, 12)] [] σ
  refine bk hG (cut := []) 400 ?_
  refine And.intro (fun hq => ?_) (fun hq => ?_)
  · have h := i_pos hq h
    have e := Option.some.inj h
    subst e
    exact hRP
  · have h := i_neg hq h
    have ⟨hg, h⟩ := g_gd h
    refine And.intro (inB_of hg) ?_
    have ⟨_, hc, h⟩ := b_some h
    refine Exists.intro _ (Exists.intro _ (Exists.intro _ (And.intro (c12_readsAll F _ hc) (And.intro (by decide) (And.intro (fun q => absurd q (by decide)) ?_)))))
    refine And.intro (fun hq => ?_) (fun hq => ?_)
    · have h := i_pos hq h
      have e := Option.some.inj h
      subst e
      exact hRP
    · have h := i_neg hq h
      have e := Option.some.inj h
      subst e
      exact hRP
set_option maxHeartbeats 4000000 in
set_option maxRecDepth 20000 in
theorem w12_smithy_104 {E : EnvT} {G : GT} {RP : Option AV → Mem → Prop} (hG : Cl E 150 12 tb_150 G RP) {r : Int32 × Mem} (hRP : RP (some (.int r.1, 0)) r.2) (F : Nat) : ∀ (n : Nat) (x1 : Int32) (σ : Mem), m12_smithy_104 F n x1 σ = some r → G 104 [some (.ref 483, 12), some (.int x1, 0)] [] σ := by
  intro n
  induction n with
  | zero => intro x1 σ h; unfold m12_smithy_104 at h; cases h
  | succ n ih =>
    intro x1 σ h
    refine bk hG (cut := [8, 29, 67, 104]) 400 ?_
    unfold m12_smithy_104 at h
    refine And.intro (fun hq => ?_) (fun hq => ?_)
    · have h := i_pos hq h
      have ⟨hg, h⟩ := g_gd h
      refine And.intro (inB_of hg) ?_
      have e := Option.some.inj h
      subst e
      exact hRP
    · have h := i_neg hq h
      have ⟨hg, h⟩ := g_gd h
      refine And.intro (inB_of hg) ?_
      have ⟨hg, h⟩ := g_gd h
      refine And.intro (inB_of hg) ?_
      exact ih _ _ h
set_option maxHeartbeats 4000000 in
set_option maxRecDepth 20000 in
theorem w12_smithy_67 {E : EnvT} {G : GT} {RP : Option AV → Mem → Prop} (hG : Cl E 150 12 tb_150 G RP) {r : Int32 × Mem} (hRP : RP (some (.int r.1, 0)) r.2) (F : Nat) : ∀ (n : Nat) (x1 : Int32) (σ : Mem), m12_smithy_67 F n x1 σ = some r → G 67 [some (.ref 483, 12), some (.int x1, 0)] [] σ := by
  intro n
  induction n with
  | zero => intro x1 σ h; unfold m12_smithy_67 at h; cases h
  | succ n ih =>
    intro x1 σ h
    refine bk hG (cut := [8, 29, 67, 104]) 400 ?_
    unfold m12_smithy_67 at h
    refine And.intro (fun hq => ?_) (fun hq => ?_)
    · have h := i_pos hq h
      exact w12_smithy_104 hG hRP F F _ _ h
    · have h := i_neg hq h
      refine And.intro (fun hq => ?_) (fun hq => ?_)
      · have h := i_pos hq h
        have ⟨hg, h⟩ := g_gd h
        refine And.intro (inB_of hg) ?_
        exact ih _ _ h
      · have h := i_neg hq h
        have ⟨hg, h⟩ := g_gd h
        refine And.intro (inB_of hg) ?_
        have ⟨hg, h⟩ := g_gd h
        refine And.intro (inB_of hg) ?_
        exact ih _ _ h
set_option maxHeartbeats 4000000 in
set_option maxRecDepth 20000 in
theorem w12_smithy_29 {E : EnvT} {G : GT} {RP : Option AV → Mem → Prop} (hG : Cl E 150 12 tb_150 G RP) {r : Int32 × Mem} (hRP : RP (some (.int r.1, 0)) r.2) (F : Nat) : ∀ (n : Nat) (x1 : Int32) (σ : Mem), m12_smithy_29 F n x1 σ = some r → G 29 [some (.ref 483, 12), some (.int x1, 0)] [] σ := by
  intro n
  induction n with
  | zero => intro x1 σ h; unfold m12_smithy_29 at h; cases h
  | succ n ih =>
    intro x1 σ h
    refine bk hG (cut := [8, 29, 67, 104]) 400 ?_
    unfold m12_smithy_29 at h
    refine And.intro (fun hq => ?_) (fun hq => ?_)
    · have h := i_pos hq h
      have ⟨_, hc, h⟩ := b_some h
      refine Exists.intro _ (Exists.intro _ (Exists.intro _ (And.intro (c12_readsAll F _ hc) (And.intro (by decide) (And.intro (fun q => absurd q (by decide)) ?_)))))
      refine And.intro (fun hq => ?_) (fun hq => ?_)
      · have h := i_pos hq h
        have e := Option.some.inj h
        subst e
        exact hRP
      · have h := i_neg hq h
        exact w12_smithy_67 hG hRP F F _ _ h
    · have h := i_neg hq h
      have ⟨hg, h⟩ := g_gd h
      refine And.intro (inB_of hg) ?_
      exact ih _ _ h
set_option maxHeartbeats 4000000 in
set_option maxRecDepth 20000 in
theorem w12_smithy_8 {E : EnvT} {G : GT} {RP : Option AV → Mem → Prop} (hG : Cl E 150 12 tb_150 G RP) {r : Int32 × Mem} (hRP : RP (some (.int r.1, 0)) r.2) (F : Nat) : ∀ (n : Nat) (x1 : Int32) (σ : Mem), m12_smithy_8 F n x1 σ = some r → G 8 [some (.ref 483, 12), some (.int x1, 0)] [] σ := by
  intro n
  induction n with
  | zero => intro x1 σ h; unfold m12_smithy_8 at h; cases h
  | succ n ih =>
    intro x1 σ h
    refine bk hG (cut := [8, 29, 67, 104]) 400 ?_
    unfold m12_smithy_8 at h
    refine And.intro (fun hq => ?_) (fun hq => ?_)
    · have h := i_pos hq h
      exact w12_smithy_29 hG hRP F F _ _ h
    · have h := i_neg hq h
      have ⟨hg, h⟩ := g_gd h
      refine And.intro (inB_of hg) ?_
      exact ih _ _ h
set_option maxHeartbeats 4000000 in
set_option maxRecDepth 20000 in
theorem c12_smithy {E : EnvT} (F : Nat)  (σ : Mem) {r : Int32 × Mem} (h : m12_smithy F σ = some r) : MetAt E 12 150 [(.ref 483, 12)] σ (some (.int r.1, 0)) r.2 := by
  unfold m12_smithy at h
  refine MetAt_of (tb := tb_150) (by decide) tbok_150 (Nat.le_of_ble_eq_true rfl) (fun a q => by cases q; trivial) (fun G hG => ?_)
  have hRP : (fun (a : Option AV) (τ : Mem) => a.map (conc E) = ((some (.int r.1, 0)) : Option AV).map (conc E) ∧ τ = r.2) (some (.int r.1, 0)) r.2 := ⟨rfl, rfl⟩
  change G 0 [some (.ref 483, 12), none] [] σ
  refine bk hG (cut := [8, 29, 67, 104]) 400 ?_
  exact w12_smithy_8 hG hRP F F _ _ h
set_option maxHeartbeats 4000000 in
set_option maxRecDepth 20000 in
theorem c12_isRule {E : EnvT} (F : Nat) (i1 : Int32) (σ : Mem) {r : Int32} (h : m12_isRule F i1 σ = some r) : MetAt E 0 151 [(.ref 483, 12), (.int i1, 0)] σ (some (.int r, 0)) σ := by
  unfold m12_isRule at h
  refine MetAt_of (tb := tb_151) (by decide) tbok_151 (Nat.le_of_ble_eq_true rfl) (fun a q => by cases q; trivial) (fun G hG => ?_)
  have hRP : (fun (a : Option AV) (τ : Mem) => a.map (conc E) = ((some (.int r, 0)) : Option AV).map (conc E) ∧ τ = σ) (some (.int r, 0)) σ := ⟨rfl, rfl⟩
  change G 0 [some (.ref 483, 12), some (.int i1, 0)] [] σ
  refine bk hG (cut := []) 400 ?_
  refine And.intro (fun hq => ?_) (fun hq => ?_)
  · have h := i_pos hq h
    have e := Option.some.inj h
    subst e
    exact And.intro (Or.inl rfl) hRP
  · have h := i_neg hq h
    refine And.intro (fun hq => ?_) (fun hq => ?_)
    · have h := i_pos hq h
      have e := Option.some.inj h
      subst e
      exact And.intro (Or.inl rfl) hRP
    · have h := i_neg hq h
      have e := Option.some.inj h
      subst e
      exact And.intro (Or.inr rfl) hRP
set_option maxHeartbeats 4000000 in
set_option maxRecDepth 20000 in
theorem c12_push {E : EnvT} (F : Nat) (j1 : Int64) (σ : Mem) {r : Mem} (h : m12_push F j1 σ = some r) : MetAt E 0 152 [(.ref 483, 12), (.long j1, 0)] σ none r := by
  unfold m12_push at h
  refine MetAt_of (tb := tb_152) (by decide) tbok_152 (Nat.le_of_ble_eq_true rfl) (fun a q => by cases q) (fun G hG => ?_)
  have hRP : (fun (a : Option AV) (τ : Mem) => a.map (conc E) = (none : Option AV).map (conc E) ∧ τ = r) none r := ⟨rfl, rfl⟩
  change G 0 [some (.ref 483, 12), some (.long j1, 0), none] [] σ
  refine bk hG (cut := []) 400 ?_
  have ⟨hg, h⟩ := g_gd h
  refine And.intro (inB_of hg) ?_
  have e := Option.some.inj h
  subst e
  exact hRP
set_option maxHeartbeats 4000000 in
set_option maxRecDepth 20000 in
theorem c12_pop {E : EnvT} (F : Nat)  (σ : Mem) {r : Int64 × Mem} (h : m12_pop F σ = some r) : MetAt E 0 153 [(.ref 483, 12)] σ (some (.long r.1, 0)) r.2 := by
  unfold m12_pop at h
  refine MetAt_of (tb := tb_153) (by decide) tbok_153 (Nat.le_of_ble_eq_true rfl) (fun a q => by cases q; trivial) (fun G hG => ?_)
  have hRP : (fun (a : Option AV) (τ : Mem) => a.map (conc E) = ((some (.long r.1, 0)) : Option AV).map (conc E) ∧ τ = r.2) (some (.long r.1, 0)) r.2 := ⟨rfl, rfl⟩
  change G 0 [some (.ref 483, 12)] [] σ
  refine bk hG (cut := []) 400 ?_
  have ⟨hg, h⟩ := g_gd h
  refine And.intro (inB_of hg) ?_
  have e := Option.some.inj h
  subst e
  exact hRP
set_option maxHeartbeats 4000000 in
set_option maxRecDepth 20000 in
theorem c12_one {E : EnvT} (F : Nat) (i0 : Int32) (j1 : Int64) (j2 : Int64) (σ : Mem) {r : Int64} (h : m12_one F i0 j1 j2 σ = some r) : MetAt E 0 154 [(.int i0, 0), (.long j1, 0), (.long j2, 0)] σ (some (.long r, 0)) σ := by
  unfold m12_one at h
  refine MetAt_of (tb := tb_154) (by decide) tbok_154 (Nat.le_of_ble_eq_true rfl) (fun a q => by cases q; trivial) (fun G hG => ?_)
  have hRP : (fun (a : Option AV) (τ : Mem) => a.map (conc E) = ((some (.long r, 0)) : Option AV).map (conc E) ∧ τ = σ) (some (.long r, 0)) σ := ⟨rfl, rfl⟩
  change G 0 [some (.int i0, 0), some (.long j1, 0), none, some (.long j2, 0), none] [] σ
  refine bk hG (cut := []) 400 ?_
  refine And.intro (fun hq => ?_) (fun hq => ?_)
  · have h := i_pos hq h
    have e := Option.some.inj h
    subst e
    exact hRP
  have h := i_neg hq h
  refine And.intro (fun hq => ?_) (fun hq => ?_)
  · have h := i_pos hq h
    have e := Option.some.inj h
    subst e
    exact hRP
  have h := i_neg hq h
  refine And.intro (fun hq => ?_) (fun hq => ?_)
  · have h := i_pos hq h
    have e := Option.some.inj h
    subst e
    exact hRP
  have h := i_neg hq h
  refine And.intro (fun hq => ?_) (fun hq => ?_)
  · have h := i_pos hq h
    refine And.intro (fun hq => ?_) (fun hq => ?_)
    · have h := i_pos hq h
      have e := Option.some.inj h
      subst e
      exact hRP
    · have h := i_neg hq h
      have ⟨hg, h⟩ := g_gd h
      refine And.intro hg ?_
      have e := Option.some.inj h
      subst e
      exact hRP
  have h := i_neg hq h
  refine And.intro (fun hq => ?_) (fun hq => ?_)
  · have h := i_pos hq h
    refine And.intro (fun hq => ?_) (fun hq => ?_)
    · have h := i_pos hq h
      have e := Option.some.inj h
      subst e
      exact hRP
    · have h := i_neg hq h
      have e := Option.some.inj h
      subst e
      exact hRP
  have h := i_neg hq h
  refine And.intro (fun hq => ?_) (fun hq => ?_)
  · have h := i_pos hq h
    refine And.intro (fun hq => ?_) (fun hq => ?_)
    · have h := i_pos hq h
      have e := Option.some.inj h
      subst e
      exact hRP
    · have h := i_neg hq h
      have e := Option.some.inj h
      subst e
      exact hRP
  have h := i_neg hq h
  refine And.intro (fun hq => ?_) (fun hq => ?_)
  · have h := i_pos hq h
    refine And.intro (fun hq => ?_) (fun hq => ?_)
    · have h := i_pos hq h
      have e := Option.some.inj h
      subst e
      exact hRP
    · have h := i_neg hq h
      have e := Option.some.inj h
      subst e
      exact hRP
  have h := i_neg hq h
  refine And.intro (fun hq => ?_) (fun hq => ?_)
  · have h := i_pos hq h
    refine And.intro (fun hq => ?_) (fun hq => ?_)
    · have h := i_pos hq h
      have e := Option.some.inj h
      subst e
      exact hRP
    · have h := i_neg hq h
      have e := Option.some.inj h
      subst e
      exact hRP
  have h := i_neg hq h
  refine And.intro (fun hq => ?_) (fun hq => ?_)
  · have h := i_pos hq h
    refine And.intro (fun hq => ?_) (fun hq => ?_)
    · have h := i_pos hq h
      have e := Option.some.inj h
      subst e
      exact hRP
    · have h := i_neg hq h
      have e := Option.some.inj h
      subst e
      exact hRP
  have h := i_neg hq h
  refine And.intro (fun hq => ?_) (fun hq => ?_)
  · have h := i_pos hq h
    have e := Option.some.inj h
    subst e
    exact hRP
  have h := i_neg hq h
  refine And.intro (fun hq => ?_) (fun hq => ?_)
  · have h := i_pos hq h
    have e := Option.some.inj h
    subst e
    exact hRP
  have h := i_neg hq h
  refine And.intro (fun hq => ?_) (fun hq => ?_)
  · have h := i_pos hq h
    have e := Option.some.inj h
    subst e
    exact hRP
  have h := i_neg hq h
  refine And.intro (fun hq => ?_) (fun hq => ?_)
  · have h := i_pos hq h
    refine And.intro (fun hq => ?_) (fun hq => ?_)
    · have h := i_pos hq h
      have e := Option.some.inj h
      subst e
      exact hRP
    · have h := i_neg hq h
      have ⟨hg, h⟩ := g_gd h
      refine And.intro hg ?_
      have e := Option.some.inj h
      subst e
      exact hRP
  have h := i_neg hq h
  have e := Option.some.inj h
  subst e
  exact hRP
set_option maxHeartbeats 4000000 in
set_option maxRecDepth 20000 in
theorem w12_reckons_8 {E : EnvT} {G : GT} {RP : Option AV → Mem → Prop} {i1 : Int32} {i2 : Int32} {i3 : Int32} (hG : Cl E 155 1 tb_155 G RP) {r : Int64 × Mem} (hRP : RP (some (.long r.1, 0)) r.2) (F : Nat) : ∀ (n : Nat) (x4 : Int32) (d5 : Option AV) (d6 : Option AV) (d7 : Option AV) (d8 : Option AV) (d9 : Option AV) (d10 : Option AV) (σ : Mem), m12_reckons_8 F i1 i2 i3 n x4 σ = some r → G 8 [some (.ref 483, 12), some (.int i1, 0), some (.int i2, 0), some (.int i3, 0), some (.int x4, 0), d5, d6, d7, d8, d9, d10] [] σ := by
  intro n
  induction n with
  | zero => intro x4 d5 d6 d7 d8 d9 d10 σ h; unfold m12_reckons_8 at h; cases h
  | succ n ih =>
    intro x4 d5 d6 d7 d8 d9 d10 σ h
    refine bk hG (cut := [8]) 400 ?_
    unfold m12_reckons_8 at h
    refine And.intro (fun hq => ?_) (fun hq => ?_)
    · have h := i_pos hq h
      have ⟨_, hc, h⟩ := b_some h
      refine Exists.intro _ (Exists.intro _ (Exists.intro _ (And.intro (c12_pop F _ hc) (And.intro (by decide) (And.intro (fun q => absurd q (by decide)) ?_)))))
      have e := Option.some.inj h
      subst e
      exact hRP
    · have h := i_neg hq h
      have ⟨hg, h⟩ := g_gd h
      refine And.intro (inB_of hg) ?_
      have ⟨hg, h⟩ := g_gd h
      refine And.intro (inB_of hg) ?_
      refine And.intro (fun hq => ?_) (fun hq => ?_)
      · have h := i_pos hq h
        have ⟨_, hc, h⟩ := b_some h
        refine Exists.intro _ (Exists.intro _ (Exists.intro _ (And.intro (c12_push F _ _ hc) (And.intro (by decide) (And.intro (fun q => absurd q (by decide)) ?_)))))
        exact ih _ _ _ _ _ _ _ _ h
      · have h := i_neg hq h
        refine And.intro (fun hq => ?_) (fun hq => ?_)
        · have h := i_pos hq h
          have ⟨hg, h⟩ := g_gd h
          refine And.intro (inB_of hg) ?_
          have ⟨_, hc, h⟩ := b_some h
          refine Exists.intro _ (Exists.intro _ (Exists.intro _ (And.intro (c12_push F _ _ hc) (And.intro (by decide) (And.intro (fun q => absurd q (by decide)) ?_)))))
          exact ih _ _ _ _ _ _ _ _ h
        · have h := i_neg hq h
          refine And.intro (fun hq => ?_) (fun hq => ?_)
          · have h := i_pos hq h
            have ⟨_, hc, h⟩ := b_some h
            refine Exists.intro _ (Exists.intro _ (Exists.intro _ (And.intro (c12_pop F _ hc) (And.intro (by decide) (And.intro (fun q => absurd q (by decide)) ?_)))))
            have ⟨_, hc, h⟩ := b_some h
            refine Exists.intro _ (Exists.intro _ (Exists.intro _ (And.intro (c12_push F _ _ hc) (And.intro (by decide) (And.intro (fun q => absurd q (by decide)) ?_)))))
            exact ih _ _ _ _ _ _ _ _ h
          · have h := i_neg hq h
            have ⟨_, hc, h⟩ := b_some h
            refine Exists.intro _ (Exists.intro _ (Exists.intro _ (And.intro (c12_pop F _ hc) (And.intro (by decide) (And.intro (fun q => absurd q (by decide)) ?_)))))
            have ⟨_, hc, h⟩ := b_some h
            refine Exists.intro _ (Exists.intro _ (Exists.intro _ (And.intro (c12_pop F _ hc) (And.intro (by decide) (And.intro (fun q => absurd q (by decide)) ?_)))))
            have ⟨_, hc, h⟩ := b_some h
            refine Exists.intro _ (Exists.intro _ (Exists.intro _ (And.intro (c12_one F _ _ _ _ hc) (And.intro (by decide) ?_))))
            have ⟨_, hc, h⟩ := b_some h
            refine Exists.intro _ (Exists.intro _ (Exists.intro _ (And.intro (c12_push F _ _ hc) (And.intro (by decide) (And.intro (fun q => absurd q (by decide)) ?_)))))
            exact ih _ _ _ _ _ _ _ _ h
set_option maxHeartbeats 4000000 in
set_option maxRecDepth 20000 in
theorem c12_reckons {E : EnvT} (F : Nat) (i1 : Int32) (i2 : Int32) (i3 : Int32) (σ : Mem) {r : Int64 × Mem} (h : m12_reckons F i1 i2 i3 σ = some r) : MetAt E 1 155 [(.ref 483, 12), (.int i1, 0), (.int i2, 0), (.int i3, 0)] σ (some (.long r.1, 0)) r.2 := by
  unfold m12_reckons at h
  refine MetAt_of (tb := tb_155) (by decide) tbok_155 (Nat.le_of_ble_eq_true rfl) (fun a q => by cases q; trivial) (fun G hG => ?_)
  have hRP : (fun (a : Option AV) (τ : Mem) => a.map (conc E) = ((some (.long r.1, 0)) : Option AV).map (conc E) ∧ τ = r.2) (some (.long r.1, 0)) r.2 := ⟨rfl, rfl⟩
  change G 0 [some (.ref 483, 12), some (.int i1, 0), some (.int i2, 0), some (.int i3, 0), none, none, none, none, none, none, none] [] σ
  refine bk hG (cut := [8]) 400 ?_
  exact w12_reckons_8 hG hRP F F _ _ _ _ _ _ _ _ h
set_option maxHeartbeats 4000000 in
set_option maxRecDepth 20000 in
theorem c12_isSmithy {E : EnvT} (F : Nat)  (σ : Mem) {r : Int32} (h : m12_isSmithy F σ = some r) : MetAt E 0 156 [(.ref 483, 12)] σ (some (.int r, 0)) σ := by
  unfold m12_isSmithy at h
  refine MetAt_of (tb := tb_156) (by decide) tbok_156 (Nat.le_of_ble_eq_true rfl) (fun a q => by cases q; trivial) (fun G hG => ?_)
  have hRP : (fun (a : Option AV) (τ : Mem) => a.map (conc E) = ((some (.int r, 0)) : Option AV).map (conc E) ∧ τ = σ) (some (.int r, 0)) σ := ⟨rfl, rfl⟩
  change G 0 [some (.ref 483, 12)] [] σ
  refine bk hG (cut := []) 400 ?_
  have ⟨hg, h⟩ := g_gd h
  refine And.intro (inB_of hg) ?_
  refine And.intro (fun hq => ?_) (fun hq => ?_)
  · have h := i_pos hq h
    have e := Option.some.inj h
    subst e
    exact And.intro (Or.inl rfl) hRP
  · have h := i_neg hq h
    have e := Option.some.inj h
    subst e
    exact And.intro (Or.inr rfl) hRP
set_option maxHeartbeats 4000000 in
set_option maxRecDepth 20000 in
theorem c12_isSmith {E : EnvT} (F : Nat) (i1 : Int32) (σ : Mem) {r : Int32} (h : m12_isSmith F i1 σ = some r) : MetAt E 0 157 [(.ref 483, 12), (.int i1, 0)] σ (some (.int r, 0)) σ := by
  unfold m12_isSmith at h
  refine MetAt_of (tb := tb_157) (by decide) tbok_157 (Nat.le_of_ble_eq_true rfl) (fun a q => by cases q; trivial) (fun G hG => ?_)
  have hRP : (fun (a : Option AV) (τ : Mem) => a.map (conc E) = ((some (.int r, 0)) : Option AV).map (conc E) ∧ τ = σ) (some (.int r, 0)) σ := ⟨rfl, rfl⟩
  change G 0 [some (.ref 483, 12), some (.int i1, 0)] [] σ
  refine bk hG (cut := []) 400 ?_
  refine And.intro (fun hq => ?_) (fun hq => ?_)
  · have h := i_pos hq h
    have e := Option.some.inj h
    subst e
    exact And.intro (Or.inl rfl) hRP
  · have h := i_neg hq h
    have ⟨hg, h⟩ := g_gd h
    refine And.intro (inB_of hg) ?_
    refine And.intro (fun hq => ?_) (fun hq => ?_)
    · have h := i_pos hq h
      have e := Option.some.inj h
      subst e
      exact And.intro (Or.inl rfl) hRP
    · have h := i_neg hq h
      have e := Option.some.inj h
      subst e
      exact And.intro (Or.inr rfl) hRP
set_option maxHeartbeats 4000000 in
set_option maxRecDepth 20000 in
theorem c12_isJob {E : EnvT} (F : Nat) (i1 : Int32) (σ : Mem) {r : Int32} (h : m12_isJob F i1 σ = some r) : MetAt E 0 158 [(.ref 483, 12), (.int i1, 0)] σ (some (.int r, 0)) σ := by
  unfold m12_isJob at h
  refine MetAt_of (tb := tb_158) (by decide) tbok_158 (Nat.le_of_ble_eq_true rfl) (fun a q => by cases q; trivial) (fun G hG => ?_)
  have hRP : (fun (a : Option AV) (τ : Mem) => a.map (conc E) = ((some (.int r, 0)) : Option AV).map (conc E) ∧ τ = σ) (some (.int r, 0)) σ := ⟨rfl, rfl⟩
  change G 0 [some (.ref 483, 12), some (.int i1, 0)] [] σ
  refine bk hG (cut := []) 400 ?_
  refine And.intro (fun hq => ?_) (fun hq => ?_)
  · have h := i_pos hq h
    have e := Option.some.inj h
    subst e
    exact And.intro (Or.inl rfl) hRP
  · have h := i_neg hq h
    have ⟨hg, h⟩ := g_gd h
    refine And.intro (inB_of hg) ?_
    refine And.intro (fun hq => ?_) (fun hq => ?_)
    · have h := i_pos hq h
      have e := Option.some.inj h
      subst e
      exact And.intro (Or.inl rfl) hRP
    · have h := i_neg hq h
      have e := Option.some.inj h
      subst e
      exact And.intro (Or.inr rfl) hRP
set_option maxHeartbeats 4000000 in
set_option maxRecDepth 20000 in
theorem c12_smithOf {E : EnvT} (F : Nat) (i1 : Int32) (i2 : Int32) (σ : Mem) {r : Int32} (h : m12_smithOf F i1 i2 σ = some r) : MetAt E 0 159 [(.ref 483, 12), (.int i1, 0), (.int i2, 0)] σ (some (.int r, 0)) σ := by
  unfold m12_smithOf at h
  refine MetAt_of (tb := tb_159) (by decide) tbok_159 (Nat.le_of_ble_eq_true rfl) (fun a q => by cases q; trivial) (fun G hG => ?_)
  have hRP : (fun (a : Option AV) (τ : Mem) => a.map (conc E) = ((some (.int r, 0)) : Option AV).map (conc E) ∧ τ = σ) (some (.int r, 0)) σ := ⟨rfl, rfl⟩
  change G 0 [some (.ref 483, 12), some (.int i1, 0), some (.int i2, 0)] [] σ
  refine bk hG (cut := []) 400 ?_
  have ⟨hg, h⟩ := g_gd h
  refine And.intro (inB_of hg) ?_
  have e := Option.some.inj h
  subst e
  exact hRP
set_option maxHeartbeats 4000000 in
set_option maxRecDepth 20000 in
theorem c12_jobOf {E : EnvT} (F : Nat) (i1 : Int32) (i2 : Int32) (σ : Mem) {r : Int32} (h : m12_jobOf F i1 i2 σ = some r) : MetAt E 0 160 [(.ref 483, 12), (.int i1, 0), (.int i2, 0)] σ (some (.int r, 0)) σ := by
  unfold m12_jobOf at h
  refine MetAt_of (tb := tb_160) (by decide) tbok_160 (Nat.le_of_ble_eq_true rfl) (fun a q => by cases q; trivial) (fun G hG => ?_)
  have hRP : (fun (a : Option AV) (τ : Mem) => a.map (conc E) = ((some (.int r, 0)) : Option AV).map (conc E) ∧ τ = σ) (some (.int r, 0)) σ := ⟨rfl, rfl⟩
  change G 0 [some (.ref 483, 12), some (.int i1, 0), some (.int i2, 0)] [] σ
  refine bk hG (cut := []) 400 ?_
  have ⟨hg, h⟩ := g_gd h
  refine And.intro (inB_of hg) ?_
  have e := Option.some.inj h
  subst e
  exact hRP
set_option maxHeartbeats 4000000 in
set_option maxRecDepth 20000 in
theorem c12_isOpen {E : EnvT} (F : Nat) (i1 : Int32) (i2 : Int32) (σ : Mem) {r : Int32} (h : m12_isOpen F i1 i2 σ = some r) : MetAt E 1 161 [(.ref 483, 12), (.int i1, 0), (.int i2, 0)] σ (some (.int r, 0)) σ := by
  unfold m12_isOpen at h
  refine MetAt_of (tb := tb_161) (by decide) tbok_161 (Nat.le_of_ble_eq_true rfl) (fun a q => by cases q; trivial) (fun G hG => ?_)
  have hRP : (fun (a : Option AV) (τ : Mem) => a.map (conc E) = ((some (.int r, 0)) : Option AV).map (conc E) ∧ τ = σ) (some (.int r, 0)) σ := ⟨rfl, rfl⟩
  change G 0 [some (.ref 483, 12), some (.int i1, 0), some (.int i2, 0)] [] σ
  refine bk hG (cut := []) 400 ?_
  have ⟨_, hc, h⟩ := b_some h
  refine Exists.intro _ (Exists.intro _ (Exists.intro _ (And.intro (c12_jobOf F _ _ _ hc) (And.intro (by decide) (And.intro (fun q => absurd q (by decide)) ?_)))))
  refine And.intro (fun hq => ?_) (fun hq => ?_)
  · have h := i_pos hq h
    have ⟨_, hc, h⟩ := b_some h
    refine Exists.intro _ (Exists.intro _ (Exists.intro _ (And.intro (c12_jobOf F _ _ _ hc) (And.intro (by decide) (And.intro (fun q => absurd q (by decide)) ?_)))))
    refine And.intro (fun hq => ?_) (fun hq => ?_)
    · have h := i_pos hq h
      have e := Option.some.inj h
      subst e
      exact And.intro (Or.inl rfl) hRP
    · have h := i_neg hq h
      have e := Option.some.inj h
      subst e
      exact And.intro (Or.inr rfl) hRP
  · have h := i_neg hq h
    have e := Option.some.inj h
    subst e
    exact And.intro (Or.inl rfl) hRP
set_option maxHeartbeats 4000000 in
set_option maxRecDepth 20000 in
theorem w12_jobNow_4 {E : EnvT} {G : GT} {RP : Option AV → Mem → Prop} {i1 : Int32} {σ : Mem} (hG : Cl E 162 2 tb_162 G RP) {r : Int32} (hRP : RP (some (.int r, 0)) σ) (F : Nat) : ∀ (n : Nat) (x2 : Int32) (x3 : Int32), m12_jobNow_4 F i1 σ n x2 x3 = some r → G 4 [some (.ref 483, 12), some (.int i1, 0), some (.int x2, 0), some (.int x3, 0)] [] σ := by
  intro n
  induction n with
  | zero => intro x2 x3 h; unfold m12_jobNow_4 at h; cases h
  | succ n ih =>
    intro x2 x3 h
    refine bk hG (cut := [4]) 400 ?_
    unfold m12_jobNow_4 at h
    have ⟨hg, h⟩ := g_gd h
    refine And.intro (inB_of hg) ?_
    refine And.intro (fun hq => ?_) (fun hq => ?_)
    · have h := i_pos hq h
      have e := Option.some.inj h
      subst e
      exact hRP
    · have h := i_neg hq h
      refine And.intro (fun hq => ?_) (fun hq => ?_)
      · have h := i_pos hq h
        have e := Option.some.inj h
        subst e
        exact hRP
      · have h := i_neg hq h
        have ⟨_, hc, h⟩ := b_some h
        refine Exists.intro _ (Exists.intro _ (Exists.intro _ (And.intro (c12_isOpen F _ _ _ hc) (And.intro (by decide) (And.intro (fun q => absurd q (by decide)) ?_)))))
        refine And.intro (fun hq => ?_) (fun hq => ?_)
        · have h := i_pos hq h
          exact ih _ _ h
        · have h := i_neg hq h
          refine And.intro (fun hq => ?_) (fun hq => ?_)
          · have h := i_pos hq h
            exact ih _ _ h
          · have h := i_neg hq h
            have ⟨_, hc, h⟩ := b_some h
            refine Exists.intro _ (Exists.intro _ (Exists.intro _ (And.intro (c12_jobOf F _ _ _ hc) (And.intro (by decide) (And.intro (fun q => absurd q (by decide)) ?_)))))
            have ⟨_, hc, h⟩ := b_some h
            refine Exists.intro _ (Exists.intro _ (Exists.intro _ (And.intro (c12_jobOf F _ _ _ hc) (And.intro (by decide) (And.intro (fun q => absurd q (by decide)) ?_)))))
            refine And.intro (fun hq => ?_) (fun hq => ?_)
            · have h := i_pos hq h
              exact ih _ _ h
            · have h := i_neg hq h
              exact ih _ _ h
set_option maxHeartbeats 4000000 in
set_option maxRecDepth 20000 in
theorem c12_jobNow {E : EnvT} (F : Nat) (i1 : Int32) (σ : Mem) {r : Int32} (h : m12_jobNow F i1 σ = some r) : MetAt E 2 162 [(.ref 483, 12), (.int i1, 0)] σ (some (.int r, 0)) σ := by
  unfold m12_jobNow at h
  refine MetAt_of (tb := tb_162) (by decide) tbok_162 (Nat.le_of_ble_eq_true rfl) (fun a q => by cases q; trivial) (fun G hG => ?_)
  have hRP : (fun (a : Option AV) (τ : Mem) => a.map (conc E) = ((some (.int r, 0)) : Option AV).map (conc E) ∧ τ = σ) (some (.int r, 0)) σ := ⟨rfl, rfl⟩
  change G 0 [some (.ref 483, 12), some (.int i1, 0), none, none] [] σ
  refine bk hG (cut := [4]) 400 ?_
  exact w12_jobNow_4 hG hRP F F _ _ h
set_option maxHeartbeats 4000000 in
set_option maxRecDepth 20000 in
theorem c12_isHot {E : EnvT} (F : Nat) (i1 : Int32) (σ : Mem) {r : Int32} (h : m12_isHot F i1 σ = some r) : MetAt E 3 163 [(.ref 483, 12), (.int i1, 0)] σ (some (.int r, 0)) σ := by
  unfold m12_isHot at h
  refine MetAt_of (tb := tb_163) (by decide) tbok_163 (Nat.le_of_ble_eq_true rfl) (fun a q => by cases q; trivial) (fun G hG => ?_)
  have hRP : (fun (a : Option AV) (τ : Mem) => a.map (conc E) = ((some (.int r, 0)) : Option AV).map (conc E) ∧ τ = σ) (some (.int r, 0)) σ := ⟨rfl, rfl⟩
  change G 0 [some (.ref 483, 12), some (.int i1, 0), none] [] σ
  refine bk hG (cut := []) 400 ?_
  have ⟨_, hc, h⟩ := b_some h
  refine Exists.intro _ (Exists.intro _ (Exists.intro _ (And.intro (c12_jobNow F _ _ hc) (And.intro (by decide) (And.intro (fun q => absurd q (by decide)) ?_)))))
  refine And.intro (fun hq => ?_) (fun hq => ?_)
  · have h := i_pos hq h
    have e := Option.some.inj h
    subst e
    exact And.intro (Or.inl rfl) hRP
  · have h := i_neg hq h
    have ⟨_, hc, h⟩ := b_some h
    refine Exists.intro _ (Exists.intro _ (Exists.intro _ (And.intro (c12_smithOf F _ _ _ hc) (And.intro (by decide) (And.intro (fun q => absurd q (by decide)) ?_)))))
    have ⟨_, hc, h⟩ := b_some h
    refine Exists.intro _ (Exists.intro _ (Exists.intro _ (And.intro (c12_jobOf F _ _ _ hc) (And.intro (by decide) (And.intro (fun q => absurd q (by decide)) ?_)))))
    refine And.intro (fun hq => ?_) (fun hq => ?_)
    · have h := i_pos hq h
      have e := Option.some.inj h
      subst e
      exact And.intro (Or.inl rfl) hRP
    · have h := i_neg hq h
      have e := Option.some.inj h
      subst e
      exact And.intro (Or.inr rfl) hRP
set_option maxHeartbeats 4000000 in
set_option maxRecDepth 20000 in
theorem c12_needs {E : EnvT} (F : Nat) (i1 : Int32) (σ : Mem) {r : Int32} (h : m12_needs F i1 σ = some r) : MetAt E 1 164 [(.ref 483, 12), (.int i1, 0)] σ (some (.int r, 0)) σ := by
  unfold m12_needs at h
  refine MetAt_of (tb := tb_164) (by decide) tbok_164 (Nat.le_of_ble_eq_true rfl) (fun a q => by cases q; trivial) (fun G hG => ?_)
  have hRP : (fun (a : Option AV) (τ : Mem) => a.map (conc E) = ((some (.int r, 0)) : Option AV).map (conc E) ∧ τ = σ) (some (.int r, 0)) σ := ⟨rfl, rfl⟩
  change G 0 [some (.ref 483, 12), some (.int i1, 0)] [] σ
  refine bk hG (cut := []) 400 ?_
  have ⟨_, hc, h⟩ := b_some h
  refine Exists.intro _ (Exists.intro _ (Exists.intro _ (And.intro (c12_jobOf F _ _ _ hc) (And.intro (by decide) (And.intro (fun q => absurd q (by decide)) ?_)))))
  refine And.intro (fun hq => ?_) (fun hq => ?_)
  · have h := i_pos hq h
    have e := Option.some.inj h
    subst e
    exact hRP
  · have h := i_neg hq h
    have ⟨_, hc, h⟩ := b_some h
    refine Exists.intro _ (Exists.intro _ (Exists.intro _ (And.intro (c12_jobOf F _ _ _ hc) (And.intro (by decide) (And.intro (fun q => absurd q (by decide)) ?_)))))
    have e := Option.some.inj h
    subst e
    exact hRP
set_option maxHeartbeats 4000000 in
set_option maxRecDepth 20000 in
theorem w12_splitParts_4 {E : EnvT} {G : GT} {RP : Option AV → Mem → Prop} {σ : Mem} (hG : Cl E 165 0 tb_165 G RP) {r : Int32} (hRP : RP (some (.int r, 0)) σ) (F : Nat) : ∀ (n : Nat) (x1 : Int32) (x2 : Int32), m12_splitParts_4 F σ n x1 x2 = some r → G 4 [some (.ref 483, 12), some (.int x1, 0), some (.int x2, 0)] [] σ := by
  intro n
  induction n with
  | zero => intro x1 x2 h; unfold m12_splitParts_4 at h; cases h
  | succ n ih =>
    intro x1 x2 h
    refine bk hG (cut := [4]) 400 ?_
    unfold m12_splitParts_4 at h
    refine And.intro (fun hq => ?_) (fun hq => ?_)
    · have h := i_pos hq h
      have e := Option.some.inj h
      subst e
      exact hRP
    · have h := i_neg hq h
      have ⟨hg, h⟩ := g_gd h
      refine And.intro (inB_of hg) ?_
      have ⟨hg, h⟩ := g_gd h
      refine And.intro (inB_of hg) ?_
      refine And.intro (fun hq => ?_) (fun hq => ?_)
      · have h := i_pos hq h
        exact ih _ _ h
      · have h := i_neg hq h
        exact ih _ _ h
set_option maxHeartbeats 4000000 in
set_option maxRecDepth 20000 in
theorem c12_splitParts {E : EnvT} (F : Nat)  (σ : Mem) {r : Int32} (h : m12_splitParts F σ = some r) : MetAt E 0 165 [(.ref 483, 12)] σ (some (.int r, 0)) σ := by
  unfold m12_splitParts at h
  refine MetAt_of (tb := tb_165) (by decide) tbok_165 (Nat.le_of_ble_eq_true rfl) (fun a q => by cases q; trivial) (fun G hG => ?_)
  have hRP : (fun (a : Option AV) (τ : Mem) => a.map (conc E) = ((some (.int r, 0)) : Option AV).map (conc E) ∧ τ = σ) (some (.int r, 0)) σ := ⟨rfl, rfl⟩
  change G 0 [some (.ref 483, 12), none, none] [] σ
  refine bk hG (cut := [4]) 400 ?_
  exact w12_splitParts_4 hG hRP F F _ _ h
set_option maxHeartbeats 4000000 in
set_option maxRecDepth 20000 in
theorem w12_force_16 {E : EnvT} {G : GT} {RP : Option AV → Mem → Prop} {i1 : Int32} (hG : Cl E 166 1 tb_166 G RP) {r : Int32 × Mem} (hRP : RP (some (.int r.1, 0)) r.2) (F : Nat) : ∀ (d2 : Option AV) (σ : Mem), m12_force_16 F i1 σ = some r → G 16 [some (.ref 483, 12), some (.int i1, 0), d2] [] σ := by
  intro d2 σ h
  refine bk hG (cut := [16]) 400 ?_
  unfold m12_force_16 at h
  have e := Option.some.inj h
  subst e
  exact hRP
set_option maxHeartbeats 4000000 in
set_option maxRecDepth 20000 in
theorem c12_force {E : EnvT} (F : Nat) (i1 : Int32) (σ : Mem) {r : Int32 × Mem} (h : m12_force F i1 σ = some r) : MetAt E 1 166 [(.ref 483, 12), (.int i1, 0)] σ (some (.int r.1, 0)) r.2 := by
  unfold m12_force at h
  refine MetAt_of (tb := tb_166) (by decide) tbok_166 (Nat.le_of_ble_eq_true rfl) (fun a q => by cases q; trivial) (fun G hG => ?_)
  have hRP : (fun (a : Option AV) (τ : Mem) => a.map (conc E) = ((some (.int r.1, 0)) : Option AV).map (conc E) ∧ τ = r.2) (some (.int r.1, 0)) r.2 := ⟨rfl, rfl⟩
  change G 0 [some (.ref 483, 12), some (.int i1, 0), none] [] σ
  refine bk hG (cut := [16]) 400 ?_
  refine And.intro (fun hq => ?_) (fun hq => ?_)
  · have h := i_pos hq h
    exact w12_force_16 hG hRP F _ _ h
  · have h := i_neg hq h
    have ⟨_, hc, h⟩ := b_some h
    refine Exists.intro _ (Exists.intro _ (Exists.intro _ (And.intro (c12_isRule F _ _ hc) (And.intro (by decide) (And.intro (fun q => absurd q (by decide)) ?_)))))
    refine And.intro (fun hq => ?_) (fun hq => ?_)
    · have h := i_pos hq h
      have e := Option.some.inj h
      subst e
      exact hRP
    · have h := i_neg hq h
      exact w12_force_16 hG hRP F _ _ h
set_option maxHeartbeats 4000000 in
set_option maxRecDepth 20000 in
theorem c12_smith {E : EnvT} (F : Nat) (i1 : Int32) (i2 : Int32) (σ : Mem) {r : Int32} (h : m12_smith F i1 i2 σ = some r) : MetAt E 4 167 [(.ref 483, 12), (.int i1, 0), (.int i2, 0)] σ (some (.int r, 0)) σ := by
  unfold m12_smith at h
  refine MetAt_of (tb := tb_167) (by decide) tbok_167 (Nat.le_of_ble_eq_true rfl) (fun a q => by cases q; trivial) (fun G hG => ?_)
  have hRP : (fun (a : Option AV) (τ : Mem) => a.map (conc E) = ((some (.int r, 0)) : Option AV).map (conc E) ∧ τ = σ) (some (.int r, 0)) σ := ⟨rfl, rfl⟩
  change G 0 [some (.ref 483, 12), some (.int i1, 0), some (.int i2, 0)] [] σ
  refine bk hG (cut := []) 400 ?_
  have ⟨_, hc, h⟩ := b_some h
  refine Exists.intro _ (Exists.intro _ (Exists.intro _ (And.intro (c12_isSmith F _ _ hc) (And.intro (by decide) (And.intro (fun q => absurd q (by decide)) ?_)))))
  refine And.intro (fun hq => ?_) (fun hq => ?_)
  · have h := i_pos hq h
    have e := Option.some.inj h
    subst e
    exact hRP
  · have h := i_neg hq h
    refine And.intro (fun hq => ?_) (fun hq => ?_)
    · have h := i_pos hq h
      have ⟨_, hc, h⟩ := b_some h
      refine Exists.intro _ (Exists.intro _ (Exists.intro _ (And.intro (c12_smithOf F _ _ _ hc) (And.intro (by decide) (And.intro (fun q => absurd q (by decide)) ?_)))))
      have e := Option.some.inj h
      subst e
      exact hRP
    have h := i_neg hq h
    refine And.intro (fun hq => ?_) (fun hq => ?_)
    · have h := i_pos hq h
      have ⟨_, hc, h⟩ := b_some h
      refine Exists.intro _ (Exists.intro _ (Exists.intro _ (And.intro (c12_jobNow F _ _ hc) (And.intro (by decide) (And.intro (fun q => absurd q (by decide)) ?_)))))
      have e := Option.some.inj h
      subst e
      exact hRP
    have h := i_neg hq h
    refine And.intro (fun hq => ?_) (fun hq => ?_)
    · have h := i_pos hq h
      have ⟨_, hc, h⟩ := b_some h
      refine Exists.intro _ (Exists.intro _ (Exists.intro _ (And.intro (c12_isHot F _ _ hc) (And.intro (by decide) (And.intro (fun q => absurd q (by decide)) ?_)))))
      refine And.intro (fun hq => ?_) (fun hq => ?_)
      · have h := i_pos hq h
        have e := Option.some.inj h
        subst e
        exact hRP
      · have h := i_neg hq h
        have e := Option.some.inj h
        subst e
        exact hRP
    have h := i_neg hq h
    refine And.intro (fun hq => ?_) (fun hq => ?_)
    · have h := i_pos hq h
      have ⟨_, hc, h⟩ := b_some h
      refine Exists.intro _ (Exists.intro _ (Exists.intro _ (And.intro (c12_smithOf F _ _ _ hc) (And.intro (by decide) (And.intro (fun q => absurd q (by decide)) ?_)))))
      have e := Option.some.inj h
      subst e
      exact hRP
    have h := i_neg hq h
    refine And.intro (fun hq => ?_) (fun hq => ?_)
    · have h := i_pos hq h
      have ⟨_, hc, h⟩ := b_some h
      refine Exists.intro _ (Exists.intro _ (Exists.intro _ (And.intro (c12_smithOf F _ _ _ hc) (And.intro (by decide) (And.intro (fun q => absurd q (by decide)) ?_)))))
      have e := Option.some.inj h
      subst e
      exact hRP
    have h := i_neg hq h
    refine And.intro (fun hq => ?_) (fun hq => ?_)
    · have h := i_pos hq h
      have ⟨_, hc, h⟩ := b_some h
      refine Exists.intro _ (Exists.intro _ (Exists.intro _ (And.intro (c12_smithOf F _ _ _ hc) (And.intro (by decide) (And.intro (fun q => absurd q (by decide)) ?_)))))
      have e := Option.some.inj h
      subst e
      exact hRP
    have h := i_neg hq h
    refine And.intro (fun hq => ?_) (fun hq => ?_)
    · have h := i_pos hq h
      have ⟨_, hc, h⟩ := b_some h
      refine Exists.intro _ (Exists.intro _ (Exists.intro _ (And.intro (c12_smithOf F _ _ _ hc) (And.intro (by decide) (And.intro (fun q => absurd q (by decide)) ?_)))))
      have e := Option.some.inj h
      subst e
      exact hRP
    have h := i_neg hq h
    refine And.intro (fun hq => ?_) (fun hq => ?_)
    · have h := i_pos hq h
      have ⟨_, hc, h⟩ := b_some h
      refine Exists.intro _ (Exists.intro _ (Exists.intro _ (And.intro (c12_smithOf F _ _ _ hc) (And.intro (by decide) (And.intro (fun q => absurd q (by decide)) ?_)))))
      have e := Option.some.inj h
      subst e
      exact hRP
    have h := i_neg hq h
    refine And.intro (fun hq => ?_) (fun hq => ?_)
    · have h := i_pos hq h
      have ⟨_, hc, h⟩ := b_some h
      refine Exists.intro _ (Exists.intro _ (Exists.intro _ (And.intro (c12_smithOf F _ _ _ hc) (And.intro (by decide) (And.intro (fun q => absurd q (by decide)) ?_)))))
      have e := Option.some.inj h
      subst e
      exact hRP
    have h := i_neg hq h
    have e := Option.some.inj h
    subst e
    exact hRP
set_option maxHeartbeats 4000000 in
set_option maxRecDepth 20000 in
theorem c12_job {E : EnvT} (F : Nat) (i1 : Int32) (i2 : Int32) (σ : Mem) {r : Int32} (h : m12_job F i1 i2 σ = some r) : MetAt E 1 168 [(.ref 483, 12), (.int i1, 0), (.int i2, 0)] σ (some (.int r, 0)) σ := by
  unfold m12_job at h
  refine MetAt_of (tb := tb_168) (by decide) tbok_168 (Nat.le_of_ble_eq_true rfl) (fun a q => by cases q; trivial) (fun G hG => ?_)
  have hRP : (fun (a : Option AV) (τ : Mem) => a.map (conc E) = ((some (.int r, 0)) : Option AV).map (conc E) ∧ τ = σ) (some (.int r, 0)) σ := ⟨rfl, rfl⟩
  change G 0 [some (.ref 483, 12), some (.int i1, 0), some (.int i2, 0)] [] σ
  refine bk hG (cut := []) 400 ?_
  have ⟨_, hc, h⟩ := b_some h
  refine Exists.intro _ (Exists.intro _ (Exists.intro _ (And.intro (c12_isJob F _ _ hc) (And.intro (by decide) (And.intro (fun q => absurd q (by decide)) ?_)))))
  refine And.intro (fun hq => ?_) (fun hq => ?_)
  · have h := i_pos hq h
    have e := Option.some.inj h
    subst e
    exact hRP
  · have h := i_neg hq h
    have ⟨_, hc, h⟩ := b_some h
    refine Exists.intro _ (Exists.intro _ (Exists.intro _ (And.intro (c12_in F _ _ _ _ hc) (And.intro (by decide) ?_))))
    refine And.intro (fun hq => ?_) (fun hq => ?_)
    · have h := i_pos hq h
      have e := Option.some.inj h
      subst e
      exact hRP
    · have h := i_neg hq h
      have ⟨_, hc, h⟩ := b_some h
      refine Exists.intro _ (Exists.intro _ (Exists.intro _ (And.intro (c12_jobOf F _ _ _ hc) (And.intro (by decide) (And.intro (fun q => absurd q (by decide)) ?_)))))
      have e := Option.some.inj h
      subst e
      exact hRP
set_option maxHeartbeats 4000000 in
set_option maxRecDepth 20000 in
theorem c12_worn {E : EnvT} (F : Nat) (i1 : Int32) (σ : Mem) {r : Int32} (h : m12_worn F i1 σ = some r) : MetAt E 1 169 [(.ref 483, 12), (.int i1, 0)] σ (some (.int r, 0)) σ := by
  unfold m12_worn at h
  refine MetAt_of (tb := tb_169) (by decide) tbok_169 (Nat.le_of_ble_eq_true rfl) (fun a q => by cases q; trivial) (fun G hG => ?_)
  have hRP : (fun (a : Option AV) (τ : Mem) => a.map (conc E) = ((some (.int r, 0)) : Option AV).map (conc E) ∧ τ = σ) (some (.int r, 0)) σ := ⟨rfl, rfl⟩
  change G 0 [some (.ref 483, 12), some (.int i1, 0)] [] σ
  refine bk hG (cut := []) 400 ?_
  have ⟨_, hc, h⟩ := b_some h
  refine Exists.intro _ (Exists.intro _ (Exists.intro _ (And.intro (c12_isSmithy F _ hc) (And.intro (by decide) (And.intro (fun q => absurd q (by decide)) ?_)))))
  refine And.intro (fun hq => ?_) (fun hq => ?_)
  · have h := i_pos hq h
    have e := Option.some.inj h
    subst e
    exact hRP
  · have h := i_neg hq h
    have ⟨_, hc, h⟩ := b_some h
    refine Exists.intro _ (Exists.intro _ (Exists.intro _ (And.intro (c12_in F _ _ _ _ hc) (And.intro (by decide) ?_))))
    refine And.intro (fun hq => ?_) (fun hq => ?_)
    · have h := i_pos hq h
      have e := Option.some.inj h
      subst e
      exact hRP
    · have h := i_neg hq h
      have ⟨hg, h⟩ := g_gd h
      refine And.intro (inB_of hg) ?_
      have e := Option.some.inj h
      subst e
      exact hRP
set_option maxHeartbeats 4000000 in
set_option maxRecDepth 20000 in
theorem w12_rivalsOf_4 {E : EnvT} {G : GT} {RP : Option AV → Mem → Prop} {i1 : Int32} {σ : Mem} (hG : Cl E 170 3 tb_170 G RP) {r : Int32} (hRP : RP (some (.int r, 0)) σ) (F : Nat) : ∀ (n : Nat) (x2 : Int32) (x3 : Int32), m12_rivalsOf_4 F i1 σ n x2 x3 = some r → G 4 [some (.ref 483, 12), some (.int i1, 0), some (.int x2, 0), some (.int x3, 0)] [] σ := by
  intro n
  induction n with
  | zero => intro x2 x3 h; unfold m12_rivalsOf_4 at h; cases h
  | succ n ih =>
    intro x2 x3 h
    refine bk hG (cut := [4]) 400 ?_
    unfold m12_rivalsOf_4 at h
    have ⟨hg, h⟩ := g_gd h
    refine And.intro (inB_of hg) ?_
    refine And.intro (fun hq => ?_) (fun hq => ?_)
    · have h := i_pos hq h
      have e := Option.some.inj h
      subst e
      exact hRP
    · have h := i_neg hq h
      refine And.intro (fun hq => ?_) (fun hq => ?_)
      · have h := i_pos hq h
        exact ih _ _ h
      · have h := i_neg hq h
        have ⟨_, hc, h⟩ := b_some h
        refine Exists.intro _ (Exists.intro _ (Exists.intro _ (And.intro (c12_jobNow F _ _ hc) (And.intro (by decide) (And.intro (fun q => absurd q (by decide)) ?_)))))
        refine And.intro (fun hq => ?_) (fun hq => ?_)
        · have h := i_pos hq h
          exact ih _ _ h
        · have h := i_neg hq h
          have ⟨_, hc, h⟩ := b_some h
          refine Exists.intro _ (Exists.intro _ (Exists.intro _ (And.intro (c12_jobNow F _ _ hc) (And.intro (by decide) (And.intro (fun q => absurd q (by decide)) ?_)))))
          have ⟨_, hc, h⟩ := b_some h
          refine Exists.intro _ (Exists.intro _ (Exists.intro _ (And.intro (c12_needs F _ _ hc) (And.intro (by decide) (And.intro (fun q => absurd q (by decide)) ?_)))))
          have ⟨_, hc, h⟩ := b_some h
          refine Exists.intro _ (Exists.intro _ (Exists.intro _ (And.intro (c12_jobNow F _ _ hc) (And.intro (by decide) (And.intro (fun q => absurd q (by decide)) ?_)))))
          have ⟨_, hc, h⟩ := b_some h
          refine Exists.intro _ (Exists.intro _ (Exists.intro _ (And.intro (c12_needs F _ _ hc) (And.intro (by decide) (And.intro (fun q => absurd q (by decide)) ?_)))))
          refine And.intro (fun hq => ?_) (fun hq => ?_)
          · have h := i_pos hq h
            exact ih _ _ h
          · have h := i_neg hq h
            exact ih _ _ h
set_option maxHeartbeats 4000000 in
set_option maxRecDepth 20000 in
theorem c12_rivalsOf {E : EnvT} (F : Nat) (i1 : Int32) (σ : Mem) {r : Int32} (h : m12_rivalsOf F i1 σ = some r) : MetAt E 3 170 [(.ref 483, 12), (.int i1, 0)] σ (some (.int r, 0)) σ := by
  unfold m12_rivalsOf at h
  refine MetAt_of (tb := tb_170) (by decide) tbok_170 (Nat.le_of_ble_eq_true rfl) (fun a q => by cases q; trivial) (fun G hG => ?_)
  have hRP : (fun (a : Option AV) (τ : Mem) => a.map (conc E) = ((some (.int r, 0)) : Option AV).map (conc E) ∧ τ = σ) (some (.int r, 0)) σ := ⟨rfl, rfl⟩
  change G 0 [some (.ref 483, 12), some (.int i1, 0), none, none] [] σ
  refine bk hG (cut := [4]) 400 ?_
  exact w12_rivalsOf_4 hG hRP F F _ _ h
set_option maxHeartbeats 4000000 in
set_option maxRecDepth 20000 in
theorem w12_wornFor_4 {E : EnvT} {G : GT} {RP : Option AV → Mem → Prop} {i1 : Int32} {σ : Mem} (hG : Cl E 171 2 tb_171 G RP) {r : Int32} (hRP : RP (some (.int r, 0)) σ) (F : Nat) : ∀ (n : Nat) (x2 : Int32) (x3 : Int32), m12_wornFor_4 F i1 σ n x2 x3 = some r → G 4 [some (.ref 483, 12), some (.int i1, 0), some (.int x2, 0), some (.int x3, 0)] [] σ := by
  intro n
  induction n with
  | zero => intro x2 x3 h; unfold m12_wornFor_4 at h; cases h
  | succ n ih =>
    intro x2 x3 h
    refine bk hG (cut := [4]) 400 ?_
    unfold m12_wornFor_4 at h
    refine And.intro (fun hq => ?_) (fun hq => ?_)
    · have h := i_pos hq h
      have e := Option.some.inj h
      subst e
      exact hRP
    · have h := i_neg hq h
      have ⟨_, hc, h⟩ := b_some h
      refine Exists.intro _ (Exists.intro _ (Exists.intro _ (And.intro (c12_needs F _ _ hc) (And.intro (by decide) (And.intro (fun q => absurd q (by decide)) ?_)))))
      have ⟨_, hc, h⟩ := b_some h
      refine Exists.intro _ (Exists.intro _ (Exists.intro _ (And.intro (c12_isOf F _ _ _ hc) (And.intro (by decide) ?_))))
      refine And.intro (fun hq => ?_) (fun hq => ?_)
      · have h := i_pos hq h
        exact ih _ _ h
      · have h := i_neg hq h
        have ⟨hg, h⟩ := g_gd h
        refine And.intro (inB_of hg) ?_
        refine And.intro (fun hq => ?_) (fun hq => ?_)
        · have h := i_pos hq h
          exact ih _ _ h
        · have h := i_neg hq h
          have ⟨hg, h⟩ := g_gd h
          refine And.intro (inB_of hg) ?_
          exact ih _ _ h
set_option maxHeartbeats 4000000 in
set_option maxRecDepth 20000 in
theorem c12_wornFor {E : EnvT} (F : Nat) (i1 : Int32) (σ : Mem) {r : Int32} (h : m12_wornFor F i1 σ = some r) : MetAt E 2 171 [(.ref 483, 12), (.int i1, 0)] σ (some (.int r, 0)) σ := by
  unfold m12_wornFor at h
  refine MetAt_of (tb := tb_171) (by decide) tbok_171 (Nat.le_of_ble_eq_true rfl) (fun a q => by cases q; trivial) (fun G hG => ?_)
  have hRP : (fun (a : Option AV) (τ : Mem) => a.map (conc E) = ((some (.int r, 0)) : Option AV).map (conc E) ∧ τ = σ) (some (.int r, 0)) σ := ⟨rfl, rfl⟩
  change G 0 [some (.ref 483, 12), some (.int i1, 0), none, none] [] σ
  refine bk hG (cut := [4]) 400 ?_
  exact w12_wornFor_4 hG hRP F F _ _ h
set_option maxHeartbeats 4000000 in
set_option maxRecDepth 20000 in
theorem w12_words_45 {E : EnvT} {G : GT} {RP : Option AV → Mem → Prop} {i1 : Int32} (hG : Cl E 172 4 tb_172 G RP) {r : Mem} (hRP : RP none r) (F : Nat) : ∀ (x2 : Int32) (s1 : Int32) (s2 : Int64) (σ : Mem), m12_words_45 F i1 x2 s1 s2 σ = some r → G 45 [some (.ref 483, 12), some (.int i1, 0), some (.int x2, 0)] [(.long s2, 0), (.int s1, 0), (.ref 492, 107)] σ := by
  intro x2 s1 s2 σ h
  refine bk hG (cut := [45]) 400 ?_
  unfold m12_words_45 at h
  have ⟨hg, h⟩ := g_gd h
  refine And.intro (inB_of hg) ?_
  have ⟨_, hc, h⟩ := b_some h
  refine Exists.intro _ (Exists.intro _ (Exists.intro _ (And.intro (c12_jobOf F _ _ _ hc) (And.intro (by decide) (And.intro (fun q => absurd q (by decide)) ?_)))))
  have ⟨hg, h⟩ := g_gd h
  refine And.intro (inB_of hg) ?_
  have ⟨_, hc, h⟩ := b_some h
  refine Exists.intro _ (Exists.intro _ (Exists.intro _ (And.intro (c12_jobOf F _ _ _ hc) (And.intro (by decide) (And.intro (fun q => absurd q (by decide)) ?_)))))
  have ⟨hg, h⟩ := g_gd h
  refine And.intro (inB_of hg) ?_
  have ⟨_, hc, h⟩ := b_some h
  refine Exists.intro _ (Exists.intro _ (Exists.intro _ (And.intro (c12_jobOf F _ _ _ hc) (And.intro (by decide) (And.intro (fun q => absurd q (by decide)) ?_)))))
  have ⟨hg, h⟩ := g_gd h
  refine And.intro (inB_of hg) ?_
  have ⟨_, hc, h⟩ := b_some h
  refine Exists.intro _ (Exists.intro _ (Exists.intro _ (And.intro (c12_smithOf F _ _ _ hc) (And.intro (by decide) (And.intro (fun q => absurd q (by decide)) ?_)))))
  have ⟨hg, h⟩ := g_gd h
  refine And.intro (inB_of hg) ?_
  have ⟨hg, h⟩ := g_gd h
  refine And.intro (inB_of hg) ?_
  have ⟨hg, h⟩ := g_gd h
  refine And.intro (inB_of hg) ?_
  have ⟨_, hc, h⟩ := b_some h
  refine Exists.intro _ (Exists.intro _ (Exists.intro _ (And.intro (c12_wornFor F _ _ hc) (And.intro (by decide) (And.intro (fun q => absurd q (by decide)) ?_)))))
  have ⟨hg, h⟩ := g_gd h
  refine And.intro (inB_of hg) ?_
  have ⟨_, hc, h⟩ := b_some h
  refine Exists.intro _ (Exists.intro _ (Exists.intro _ (And.intro (c12_rivalsOf F _ _ hc) (And.intro (by decide) (And.intro (fun q => absurd q (by decide)) ?_)))))
  have ⟨hg, h⟩ := g_gd h
  refine And.intro (inB_of hg) ?_
  have ⟨_, hc, h⟩ := b_some h
  refine Exists.intro _ (Exists.intro _ (Exists.intro _ (And.intro (c12_smithOf F _ _ _ hc) (And.intro (by decide) (And.intro (fun q => absurd q (by decide)) ?_)))))
  have ⟨hg, h⟩ := g_gd h
  refine And.intro (inB_of hg) ?_
  have ⟨hg, h⟩ := g_gd h
  refine And.intro (inB_of hg) ?_
  have ⟨_, hc, h⟩ := b_some h
  refine Exists.intro _ (Exists.intro _ (Exists.intro _ (And.intro (c12_smithOf F _ _ _ hc) (And.intro (by decide) (And.intro (fun q => absurd q (by decide)) ?_)))))
  have ⟨hg, h⟩ := g_gd h
  refine And.intro (inB_of hg) ?_
  have ⟨_, hc, h⟩ := b_some h
  refine Exists.intro _ (Exists.intro _ (Exists.intro _ (And.intro (c12_smithOf F _ _ _ hc) (And.intro (by decide) (And.intro (fun q => absurd q (by decide)) ?_)))))
  have ⟨hg, h⟩ := g_gd h
  refine And.intro (inB_of hg) ?_
  have e := Option.some.inj h
  subst e
  exact hRP
set_option maxHeartbeats 4000000 in
set_option maxRecDepth 20000 in
theorem c12_words {E : EnvT} (F : Nat) (i1 : Int32) (σ : Mem) {r : Mem} (h : m12_words F i1 σ = some r) : MetAt E 4 172 [(.ref 483, 12), (.int i1, 0)] σ none r := by
  unfold m12_words at h
  refine MetAt_of (tb := tb_172) (by decide) tbok_172 (Nat.le_of_ble_eq_true rfl) (fun a q => by cases q) (fun G hG => ?_)
  have hRP : (fun (a : Option AV) (τ : Mem) => a.map (conc E) = (none : Option AV).map (conc E) ∧ τ = r) none r := ⟨rfl, rfl⟩
  change G 0 [some (.ref 483, 12), some (.int i1, 0), none] [] σ
  refine bk hG (cut := [45]) 400 ?_
  have ⟨_, hc, h⟩ := b_some h
  refine Exists.intro _ (Exists.intro _ (Exists.intro _ (And.intro (c12_jobNow F _ _ hc) (And.intro (by decide) (And.intro (fun q => absurd q (by decide)) ?_)))))
  have ⟨hg, h⟩ := g_gd h
  refine And.intro (inB_of hg) ?_
  have ⟨_, hc, h⟩ := b_some h
  refine Exists.intro _ (Exists.intro _ (Exists.intro _ (And.intro (c12_smithOf F _ _ _ hc) (And.intro (by decide) (And.intro (fun q => absurd q (by decide)) ?_)))))
  have ⟨hg, h⟩ := g_gd h
  refine And.intro (inB_of hg) ?_
  have ⟨_, hc, h⟩ := b_some h
  refine Exists.intro _ (Exists.intro _ (Exists.intro _ (And.intro (c12_isHot F _ _ hc) (And.intro (by decide) (And.intro (fun q => absurd q (by decide)) ?_)))))
  refine And.intro (fun hq => ?_) (fun hq => ?_)
  · have h := i_pos hq h
    exact w12_words_45 hG hRP F _ _ _ _ h
  · have h := i_neg hq h
    exact w12_words_45 hG hRP F _ _ _ _ h
set_option maxHeartbeats 4000000 in
set_option maxRecDepth 20000 in
theorem w12_summedBy_58 {E : EnvT} {G : GT} {RP : Option AV → Mem → Prop} {i1 : Int32} (hG : Cl E 173 2 tb_173 G RP) {r : Int64 × Mem} (hRP : RP (some (.long r.1, 0)) r.2) (F : Nat) : ∀ (x3 : Int32) (d2 : Option AV) (σ : Mem), m12_summedBy_58 F i1 x3 σ = some r → G 58 [some (.ref 483, 12), some (.int i1, 0), d2, some (.int x3, 0)] [] σ := by
  intro x3 d2 σ h
  refine bk hG (cut := [2, 58]) 400 ?_
  unfold m12_summedBy_58 at h
  have ⟨hg, h⟩ := g_gd h
  refine And.intro (inB_of hg) ?_
  have ⟨hg, h⟩ := g_gd h
  refine And.intro (inB_of hg) ?_
  have ⟨_, hc, h⟩ := b_some h
  refine Exists.intro _ (Exists.intro _ (Exists.intro _ (And.intro (c12_reckons F _ _ _ _ hc) (And.intro (by decide) (And.intro (fun q => absurd q (by decide)) ?_)))))
  have e := Option.some.inj h
  subst e
  exact hRP
set_option maxHeartbeats 4000000 in
set_option maxRecDepth 20000 in
theorem w12_summedBy_2 {E : EnvT} {G : GT} {RP : Option AV → Mem → Prop} {i1 : Int32} (hG : Cl E 173 2 tb_173 G RP) {r : Int64 × Mem} (hRP : RP (some (.long r.1, 0)) r.2) (F : Nat) : ∀ (n : Nat) (x2 : Int32) (d3 : Option AV) (σ : Mem), m12_summedBy_2 F i1 n x2 σ = some r → G 2 [some (.ref 483, 12), some (.int i1, 0), some (.int x2, 0), d3] [] σ := by
  intro n
  induction n with
  | zero => intro x2 d3 σ h; unfold m12_summedBy_2 at h; cases h
  | succ n ih =>
    intro x2 d3 σ h
    refine bk hG (cut := [2, 58]) 400 ?_
    unfold m12_summedBy_2 at h
    have ⟨hg, h⟩ := g_gd h
    refine And.intro (inB_of hg) ?_
    refine And.intro (fun hq => ?_) (fun hq => ?_)
    · have h := i_pos hq h
      have e := Option.some.inj h
      subst e
      exact hRP
    · have h := i_neg hq h
      have ⟨hg, h⟩ := g_gd h
      refine And.intro (inB_of hg) ?_
      refine And.intro (fun hq => ?_) (fun hq => ?_)
      · have h := i_pos hq h
        exact w12_summedBy_58 hG hRP F _ _ _ h
      · have h := i_neg hq h
        have ⟨hg, h⟩ := g_gd h
        refine And.intro (inB_of hg) ?_
        have ⟨hg, h⟩ := g_gd h
        refine And.intro (inB_of hg) ?_
        have ⟨_, hc, h⟩ := b_some h
        refine Exists.intro _ (Exists.intro _ (Exists.intro _ (And.intro (c12_reckons F _ _ _ _ hc) (And.intro (by decide) (And.intro (fun q => absurd q (by decide)) ?_)))))
        refine And.intro (fun hq => ?_) (fun hq => ?_)
        · have h := i_pos hq h
          exact w12_summedBy_58 hG hRP F _ _ _ h
        · have h := i_neg hq h
          exact ih _ _ _ h
set_option maxHeartbeats 4000000 in
set_option maxRecDepth 20000 in
theorem c12_summedBy {E : EnvT} (F : Nat) (i1 : Int32) (σ : Mem) {r : Int64 × Mem} (h : m12_summedBy F i1 σ = some r) : MetAt E 2 173 [(.ref 483, 12), (.int i1, 0)] σ (some (.long r.1, 0)) r.2 := by
  unfold m12_summedBy at h
  refine MetAt_of (tb := tb_173) (by decide) tbok_173 (Nat.le_of_ble_eq_true rfl) (fun a q => by cases q; trivial) (fun G hG => ?_)
  have hRP : (fun (a : Option AV) (τ : Mem) => a.map (conc E) = ((some (.long r.1, 0)) : Option AV).map (conc E) ∧ τ = r.2) (some (.long r.1, 0)) r.2 := ⟨rfl, rfl⟩
  change G 0 [some (.ref 483, 12), some (.int i1, 0), none, none] [] σ
  refine bk hG (cut := [2, 58]) 400 ?_
  exact w12_summedBy_2 hG hRP F F _ _ _ h
set_option maxHeartbeats 4000000 in
set_option maxRecDepth 20000 in
theorem c12_willsStrike {E : EnvT} (F : Nat) (i1 : Int32) (σ : Mem) {r : Int32 × Mem} (h : m12_willsStrike F i1 σ = some r) : MetAt E 5 174 [(.ref 483, 12), (.int i1, 0)] σ (some (.int r.1, 0)) r.2 := by
  unfold m12_willsStrike at h
  refine MetAt_of (tb := tb_174) (by decide) tbok_174 (Nat.le_of_ble_eq_true rfl) (fun a q => by cases q; trivial) (fun G hG => ?_)
  have hRP : (fun (a : Option AV) (τ : Mem) => a.map (conc E) = ((some (.int r.1, 0)) : Option AV).map (conc E) ∧ τ = r.2) (some (.int r.1, 0)) r.2 := ⟨rfl, rfl⟩
  change G 0 [some (.ref 483, 12), some (.int i1, 0)] [] σ
  refine bk hG (cut := []) 400 ?_
  have ⟨_, hc, h⟩ := b_some h
  refine Exists.intro _ (Exists.intro _ (Exists.intro _ (And.intro (c12_jobNow F _ _ hc) (And.intro (by decide) (And.intro (fun q => absurd q (by decide)) ?_)))))
  refine And.intro (fun hq => ?_) (fun hq => ?_)
  · have h := i_pos hq h
    refine And.intro (fun hq => ?_) (fun hq => ?_)
    · have h := i_pos hq h
      refine And.intro (fun hq => ?_) (fun hq => ?_)
      · have h := i_pos hq h
        have ⟨_, hc, h⟩ := b_some h
        refine Exists.intro _ (Exists.intro _ (Exists.intro _ (And.intro (c12_words F _ _ hc) (And.intro (by decide) (And.intro (fun q => absurd q (by decide)) ?_)))))
        have ⟨_, hc, h⟩ := b_some h
        refine Exists.intro _ (Exists.intro _ (Exists.intro _ (And.intro (c12_summedBy F _ _ hc) (And.intro (by decide) (And.intro (fun q => absurd q (by decide)) ?_)))))
        refine And.intro (fun hq => ?_) (fun hq => ?_)
        · have h := i_pos hq h
          have e := Option.some.inj h
          subst e
          exact And.intro (Or.inl rfl) hRP
        · have h := i_neg hq h
          have e := Option.some.inj h
          subst e
          exact And.intro (Or.inr rfl) hRP
      · have h := i_neg hq h
        have ⟨_, hc, h⟩ := b_some h
        refine Exists.intro _ (Exists.intro _ (Exists.intro _ (And.intro (c12_isHot F _ _ hc) (And.intro (by decide) (And.intro (fun q => absurd q (by decide)) ?_)))))
        have ⟨hg, h⟩ := g_gd h
        have e := Option.some.inj h
        subst e
        exact And.intro (hg) hRP
    · have h := i_neg hq h
      have ⟨_, hc, h⟩ := b_some h
      refine Exists.intro _ (Exists.intro _ (Exists.intro _ (And.intro (c12_isOf F _ _ _ hc) (And.intro (by decide) ?_))))
      have ⟨hg, h⟩ := g_gd h
      have e := Option.some.inj h
      subst e
      exact And.intro (hg) hRP
  · have h := i_neg hq h
    have e := Option.some.inj h
    subst e
    exact And.intro (Or.inl rfl) hRP
set_option maxHeartbeats 4000000 in
set_option maxRecDepth 20000 in
theorem w12_takesTurns_141 {E : EnvT} {G : GT} {RP : Option AV → Mem → Prop} (hG : Cl E 175 6 tb_175 G RP) {r : Mem} (hRP : RP none r) (F : Nat) {k87 : Int32 → Int32 → Mem → Option (Mem)} (hk87 : ∀ (x1 : Int32) (x2 : Int32) (d3 : Option AV) (d4 : Option AV) (σ : Mem), k87 x1 x2 σ = some r → G 87 [some (.ref 483, 12), some (.int x1, 0), some (.int x2, 0), d3, d4] [] σ) : ∀ (n : Nat) (x1 : Int32) (x2 : Int32) (x3 : Int32) (x4 : Int32) (σ : Mem), m12_takesTurns_141 F k87 n x1 x2 x3 x4 σ = some r → G 141 [some (.ref 483, 12), some (.int x1, 0), some (.int x2, 0), some (.int x3, 0), some (.int x4, 0)] [] σ := by
  intro n
  induction n with
  | zero => intro x1 x2 x3 x4 σ h; unfold m12_takesTurns_141 at h; cases h
  | succ n ih =>
    intro x1 x2 x3 x4 σ h
    refine bk hG (cut := [29, 67, 87, 141]) 400 ?_
    unfold m12_takesTurns_141 at h
    refine And.intro (fun hq => ?_) (fun hq => ?_)
    · have h := i_pos hq h
      exact hk87 _ _ _ _ _ h
    · have h := i_neg hq h
      have ⟨_, hc, h⟩ := b_some h
      refine Exists.intro _ (Exists.intro _ (Exists.intro _ (And.intro (c12_isOf F _ _ _ hc) (And.intro (by decide) ?_))))
      refine And.intro (fun hq => ?_) (fun hq => ?_)
      · have h := i_pos hq h
        exact ih _ _ _ _ _ h
      · have h := i_neg hq h
        have ⟨hg, h⟩ := g_gd h
        refine And.intro (inB_of hg) ?_
        exact ih _ _ _ _ _ h
set_option maxHeartbeats 4000000 in
set_option maxRecDepth 20000 in
theorem w12_takesTurns_87 {E : EnvT} {G : GT} {RP : Option AV → Mem → Prop} (hG : Cl E 175 6 tb_175 G RP) {r : Mem} (hRP : RP none r) (F : Nat) : ∀ (n : Nat) (x1 : Int32) (x2 : Int32) (d3 : Option AV) (d4 : Option AV) (σ : Mem), m12_takesTurns_87 F n x1 x2 σ = some r → G 87 [some (.ref 483, 12), some (.int x1, 0), some (.int x2, 0), d3, d4] [] σ := by
  intro n
  induction n with
  | zero => intro x1 x2 d3 d4 σ h; unfold m12_takesTurns_87 at h; cases h
  | succ n ih =>
    intro x1 x2 d3 d4 σ h
    refine bk hG (cut := [29, 67, 87, 141]) 400 ?_
    unfold m12_takesTurns_87 at h
    have ⟨hg, h⟩ := g_gd h
    refine And.intro (inB_of hg) ?_
    refine And.intro (fun hq => ?_) (fun hq => ?_)
    · have h := i_pos hq h
      have e := Option.some.inj h
      subst e
      exact hRP
    · have h := i_neg hq h
      have ⟨hg, h⟩ := g_gd h
      refine And.intro (inB_of hg) ?_
      refine And.intro (fun hq => ?_) (fun hq => ?_)
      · have h := i_pos hq h
        exact ih _ _ _ _ _ h
      · have h := i_neg hq h
        have ⟨_, hc, h⟩ := b_some h
        refine Exists.intro _ (Exists.intro _ (Exists.intro _ (And.intro (c12_jobNow F _ _ hc) (And.intro (by decide) (And.intro (fun q => absurd q (by decide)) ?_)))))
        have ⟨_, hc, h⟩ := b_some h
        refine Exists.intro _ (Exists.intro _ (Exists.intro _ (And.intro (c12_needs F _ _ hc) (And.intro (by decide) (And.intro (fun q => absurd q (by decide)) ?_)))))
        refine And.intro (fun hq => ?_) (fun hq => ?_)
        · have h := i_pos hq h
          have ⟨hg, h⟩ := g_gd h
          refine And.intro (inB_of hg) ?_
          exact w12_takesTurns_141 hG hRP F (fun _ _ _ _ _ h => ih _ _ _ _ _ h) F _ _ _ _ _ h
        · have h := i_neg hq h
          refine And.intro (fun hq => ?_) (fun hq => ?_)
          · have h := i_pos hq h
            exact ih _ _ _ _ _ h
          · have h := i_neg hq h
            refine And.intro (fun hq => ?_) (fun hq => ?_)
            · have h := i_pos hq h
              refine And.intro (fun hq => ?_) (fun hq => ?_)
              · have h := i_pos hq h
                have ⟨hg, h⟩ := g_gd h
                refine And.intro (inB_of hg) ?_
                refine And.intro (Or.inr rfl) ?_
                exact ih _ _ _ _ _ h
              · have h := i_neg hq h
                exact ih _ _ _ _ _ h
            · have h := i_neg hq h
              exact ih _ _ _ _ _ h
set_option maxHeartbeats 4000000 in
set_option maxRecDepth 20000 in
theorem w12_takesTurns_67 {E : EnvT} {G : GT} {RP : Option AV → Mem → Prop} (hG : Cl E 175 6 tb_175 G RP) {r : Mem} (hRP : RP none r) (F : Nat) : ∀ (n : Nat) (x1 : Int32) (x2 : Int32) (d3 : Option AV) (d4 : Option AV) (σ : Mem), m12_takesTurns_67 F n x1 x2 σ = some r → G 67 [some (.ref 483, 12), some (.int x1, 0), some (.int x2, 0), d3, d4] [] σ := by
  intro n
  induction n with
  | zero => intro x1 x2 d3 d4 σ h; unfold m12_takesTurns_67 at h; cases h
  | succ n ih =>
    intro x1 x2 d3 d4 σ h
    refine bk hG (cut := [29, 67, 87, 141]) 400 ?_
    unfold m12_takesTurns_67 at h
    refine And.intro (fun hq => ?_) (fun hq => ?_)
    · have h := i_pos hq h
      exact w12_takesTurns_87 hG hRP F F _ _ _ _ _ h
    · have h := i_neg hq h
      have ⟨hg, h⟩ := g_gd h
      refine And.intro (inB_of hg) ?_
      exact ih _ _ _ _ _ h
set_option maxHeartbeats 4000000 in
set_option maxRecDepth 20000 in
theorem w12_takesTurns_29 {E : EnvT} {G : GT} {RP : Option AV → Mem → Prop} (hG : Cl E 175 6 tb_175 G RP) {r : Mem} (hRP : RP none r) (F : Nat) : ∀ (n : Nat) (x1 : Int32) (x2 : Int32) (d3 : Option AV) (d4 : Option AV) (σ : Mem), m12_takesTurns_29 F n x1 x2 σ = some r → G 29 [some (.ref 483, 12), some (.int x1, 0), some (.int x2, 0), d3, d4] [] σ := by
  intro n
  induction n with
  | zero => intro x1 x2 d3 d4 σ h; unfold m12_takesTurns_29 at h; cases h
  | succ n ih =>
    intro x1 x2 d3 d4 σ h
    refine bk hG (cut := [29, 67, 87, 141]) 400 ?_
    unfold m12_takesTurns_29 at h
    have ⟨hg, h⟩ := g_gd h
    refine And.intro (inB_of hg) ?_
    refine And.intro (fun hq => ?_) (fun hq => ?_)
    · have h := i_pos hq h
      exact w12_takesTurns_67 hG hRP F F _ _ _ _ _ h
    · have h := i_neg hq h
      have ⟨_, hc, h⟩ := b_some h
      refine Exists.intro _ (Exists.intro _ (Exists.intro _ (And.intro (c12_willsStrike F _ _ hc) (And.intro (by decide) (And.intro (fun q => absurd q (by decide)) ?_)))))
      refine And.intro (fun hq => ?_) (fun hq => ?_)
      · have h := i_pos hq h
        have ⟨hg, h⟩ := g_gd h
        refine And.intro (inB_of hg) ?_
        exact ih _ _ _ _ _ h
      · have h := i_neg hq h
        have ⟨hg, h⟩ := g_gd h
        refine And.intro (inB_of hg) ?_
        exact ih _ _ _ _ _ h
set_option maxHeartbeats 4000000 in
set_option maxRecDepth 20000 in
theorem c12_takesTurns {E : EnvT} (F : Nat)  (σ : Mem) {r : Mem} (h : m12_takesTurns F σ = some r) : MetAt E 6 175 [(.ref 483, 12)] σ none r := by
  unfold m12_takesTurns at h
  refine MetAt_of (tb := tb_175) (by decide) tbok_175 (Nat.le_of_ble_eq_true rfl) (fun a q => by cases q) (fun G hG => ?_)
  have hRP : (fun (a : Option AV) (τ : Mem) => a.map (conc E) = (none : Option AV).map (conc E) ∧ τ = r) none r := ⟨rfl, rfl⟩
  change G 0 [some (.ref 483, 12), none, none, none, none] [] σ
  refine bk hG (cut := [29, 67, 87, 141]) 400 ?_
  have ⟨_, hc, h⟩ := b_some h
  refine Exists.intro _ (Exists.intro _ (Exists.intro _ (And.intro (c12_splitParts F _ hc) (And.intro (by decide) (And.intro (fun q => absurd q (by decide)) ?_)))))
  have ⟨hg, h⟩ := g_gd h
  refine And.intro (inB_of hg) ?_
  refine And.intro (fun hq => ?_) (fun hq => ?_)
  · have h := i_pos hq h
    refine And.intro (Or.inl rfl) ?_
    exact w12_takesTurns_29 hG hRP F F _ _ _ _ _ h
  · have h := i_neg hq h
    refine And.intro (Or.inr rfl) ?_
    exact w12_takesTurns_29 hG hRP F F _ _ _ _ _ h
