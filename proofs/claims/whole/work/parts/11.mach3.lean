set_option maxHeartbeats 4000000 in
set_option maxRecDepth 20000 in
theorem c11_feed {E : EnvT} (F : Nat) (i1 : Int32) (i2 : Int32) (i3 : Int32) (i4 : Int32) (i5 : Int32) (σ : Mem) {r : Int32 × Mem} (h : m11_feed F i1 i2 i3 i4 i5 σ = some r) : MetAt E 1 73 [(.ref 0, 11), (.int i1, 0), (.int i2, 0), (.int i3, 0), (.int i4, 0), (.int i5, 0)] σ (some (.int r.1, 0)) r.2 := by
  unfold m11_feed at h
  refine MetAt_of (tb := tb_73) (by decide) tbok_73 (Nat.le_of_ble_eq_true rfl) (fun a q => by cases q; trivial) (fun G hG => ?_)
  have hRP : (fun (a : Option AV) (τ : Mem) => a.map (conc E) = ((some (.int r.1, 0)) : Option AV).map (conc E) ∧ τ = r.2) (some (.int r.1, 0)) r.2 := ⟨rfl, rfl⟩
  change G 0 [some (.ref 0, 11), some (.int i1, 0), some (.int i2, 0), some (.int i3, 0), some (.int i4, 0), some (.int i5, 0)] [] σ
  refine bk hG (cut := []) 400 ?_
  refine And.intro (fun hq => ?_) (fun hq => ?_)
  · have h := i_pos hq h
    have ⟨_, hc, h⟩ := b_some h
    refine Exists.intro _ (Exists.intro _ (Exists.intro _ (And.intro (c8_add F _ _ hc) (And.intro (by decide) (And.intro (fun q => absurd q (by decide)) ?_)))))
    have ⟨_, hc, h⟩ := b_some h
    refine Exists.intro _ (Exists.intro _ (Exists.intro _ (And.intro (c8_add F _ _ hc) (And.intro (by decide) (And.intro (fun q => absurd q (by decide)) ?_)))))
    have ⟨_, hc, h⟩ := b_some h
    refine Exists.intro _ (Exists.intro _ (Exists.intro _ (And.intro (c8_add F _ _ hc) (And.intro (by decide) (And.intro (fun q => absurd q (by decide)) ?_)))))
    have ⟨_, hc, h⟩ := b_some h
    refine Exists.intro _ (Exists.intro _ (Exists.intro _ (And.intro (c8_add F _ _ hc) (And.intro (by decide) (And.intro (fun q => absurd q (by decide)) ?_)))))
    have ⟨_, hc, h⟩ := b_some h
    refine Exists.intro _ (Exists.intro _ (Exists.intro _ (And.intro (c8_add F _ _ hc) (And.intro (by decide) (And.intro (fun q => absurd q (by decide)) ?_)))))
    have e := Option.some.inj h
    subst e
    exact hRP
  · have h := i_neg hq h
    have e := Option.some.inj h
    subst e
    exact hRP
set_option maxHeartbeats 4000000 in
set_option maxRecDepth 20000 in
theorem c11_end {E : EnvT} (F : Nat) (i1 : Int32) (σ : Mem) {r : Int32 × Mem} (h : m11_end F i1 σ = some r) : MetAt E 0 74 [(.ref 0, 11), (.int i1, 0)] σ (some (.int r.1, 0)) r.2 := by
  unfold m11_end at h
  refine MetAt_of (tb := tb_74) (by decide) tbok_74 (Nat.le_of_ble_eq_true rfl) (fun a q => by cases q; trivial) (fun G hG => ?_)
  have hRP : (fun (a : Option AV) (τ : Mem) => a.map (conc E) = ((some (.int r.1, 0)) : Option AV).map (conc E) ∧ τ = r.2) (some (.int r.1, 0)) r.2 := ⟨rfl, rfl⟩
  change G 0 [some (.ref 0, 11), some (.int i1, 0)] [] σ
  refine bk hG (cut := []) 400 ?_
  refine And.intro (fun hq => ?_) (fun hq => ?_)
  · have h := i_pos hq h
    have e := Option.some.inj h
    subst e
    exact hRP
  · have h := i_neg hq h
    refine And.intro (fun hq => ?_) (fun hq => ?_)
    · have h := i_pos hq h
      have e := Option.some.inj h
      subst e
      exact hRP
    · have h := i_neg hq h
      have e := Option.some.inj h
      subst e
      exact hRP
set_option maxHeartbeats 4000000 in
set_option maxRecDepth 20000 in
theorem c11_smithy {E : EnvT} (F : Nat)  (σ : Mem) {r : Int32 × Mem} (h : m11_smithy F σ = some r) : MetAt E 8 75 [(.ref 0, 11)] σ (some (.int r.1, 0)) r.2 := by
  unfold m11_smithy at h
  refine MetAt_of (tb := tb_75) (by decide) tbok_75 (Nat.le_of_ble_eq_true rfl) (fun a q => by cases q; trivial) (fun G hG => ?_)
  have hRP : (fun (a : Option AV) (τ : Mem) => a.map (conc E) = ((some (.int r.1, 0)) : Option AV).map (conc E) ∧ τ = r.2) (some (.int r.1, 0)) r.2 := ⟨rfl, rfl⟩
  change G 0 [some (.ref 0, 11), none] [] σ
  refine bk hG (cut := []) 400 ?_
  have ⟨_, hc, h⟩ := b_some h
  refine Exists.intro _ (Exists.intro _ (Exists.intro _ (And.intro (c4_read F _ _ hc) (And.intro (by decide) (And.intro (fun q => absurd q (by decide)) ?_)))))
  refine And.intro (fun hq => ?_) (fun hq => ?_)
  · have h := i_pos hq h
    have ⟨_, hc, h⟩ := b_some h
    refine Exists.intro _ (Exists.intro _ (Exists.intro _ (And.intro (c4_copyFrom F _ _ _ hc) (And.intro (by decide) (And.intro (fun q => absurd q (by decide)) ?_)))))
    have ⟨_, hc, h⟩ := b_some h
    refine Exists.intro _ (Exists.intro _ (Exists.intro _ (And.intro (c7_begin F _ _ _ hc) (And.intro (by decide) (And.intro (fun q => absurd q (by decide)) ?_)))))
    have e := Option.some.inj h
    subst e
    exact hRP
  · have h := i_neg hq h
    have e := Option.some.inj h
    subst e
    exact hRP
set_option maxHeartbeats 4000000 in
set_option maxRecDepth 20000 in
theorem c11_rule {E : EnvT} (F : Nat)  (σ : Mem) {r : Int32 × Mem} (h : m11_rule F σ = some r) : MetAt E 36 76 [(.ref 0, 11)] σ (some (.int r.1, 0)) r.2 := by
  unfold m11_rule at h
  refine MetAt_of (tb := tb_76) (by decide) tbok_76 (Nat.le_of_ble_eq_true rfl) (fun a q => by cases q; trivial) (fun G hG => ?_)
  have hRP : (fun (a : Option AV) (τ : Mem) => a.map (conc E) = ((some (.int r.1, 0)) : Option AV).map (conc E) ∧ τ = r.2) (some (.int r.1, 0)) r.2 := ⟨rfl, rfl⟩
  change G 0 [some (.ref 0, 11), none] [] σ
  refine bk hG (cut := []) 400 ?_
  refine And.intro (fun hq => ?_) (fun hq => ?_)
  · have h := i_pos hq h
    have ⟨hg, h⟩ := g_gd h
    refine And.intro (inB_of hg) ?_
    have ⟨hz, h⟩ := g_ifn h
    have ⟨_, hc, h⟩ := b_some h
    refine Exists.intro _ (Exists.intro _ (Exists.intro _ (And.intro (c5_read F _ _ hc) (And.intro (by decide) (And.intro (fun _ => hz) ?_)))))
    refine And.intro (fun hq => ?_) (fun hq => ?_)
    · have h := i_pos hq h
      have e := Option.some.inj h
      subst e
      exact hRP
    · have h := i_neg hq h
      have e := Option.some.inj h
      subst e
      exact hRP
  · have h := i_neg hq h
    have e := Option.some.inj h
    subst e
    exact hRP
set_option maxHeartbeats 4000000 in
set_option maxRecDepth 20000 in
theorem c11_force {E : EnvT} (F : Nat) (i1 : Int32) (σ : Mem) {r : Int32 × Mem} (h : m11_force F i1 σ = some r) : MetAt E 0 77 [(.ref 0, 11), (.int i1, 0)] σ (some (.int r.1, 0)) r.2 := by
  unfold m11_force at h
  refine MetAt_of (tb := tb_77) (by decide) tbok_77 (Nat.le_of_ble_eq_true rfl) (fun a q => by cases q; trivial) (fun G hG => ?_)
  have hRP : (fun (a : Option AV) (τ : Mem) => a.map (conc E) = ((some (.int r.1, 0)) : Option AV).map (conc E) ∧ τ = r.2) (some (.int r.1, 0)) r.2 := ⟨rfl, rfl⟩
  change G 0 [some (.ref 0, 11), some (.int i1, 0), none] [] σ
  refine bk hG (cut := []) 400 ?_
  refine And.intro (fun hq => ?_) (fun hq => ?_)
  · have h := i_pos hq h
    have e := Option.some.inj h
    subst e
    exact hRP
  · have h := i_neg hq h
    refine And.intro (fun hq => ?_) (fun hq => ?_)
    · have h := i_pos hq h
      have e := Option.some.inj h
      subst e
      exact hRP
    · have h := i_neg hq h
      have e := Option.some.inj h
      subst e
      exact hRP
set_option maxHeartbeats 4000000 in
set_option maxRecDepth 20000 in
theorem c11_hasSmith {E : EnvT} (F : Nat) (i1 : Int32) (σ : Mem) {r : Int32} (h : m11_hasSmith F i1 σ = some r) : MetAt E 0 104 [(.ref 0, 11), (.int i1, 0)] σ (some (.int r, 0)) σ := by
  unfold m11_hasSmith at h
  refine MetAt_of (tb := tb_104) (by decide) tbok_104 (Nat.le_of_ble_eq_true rfl) (fun a q => by cases q; trivial) (fun G hG => ?_)
  have hRP : (fun (a : Option AV) (τ : Mem) => a.map (conc E) = ((some (.int r, 0)) : Option AV).map (conc E) ∧ τ = σ) (some (.int r, 0)) σ := ⟨rfl, rfl⟩
  change G 0 [some (.ref 0, 11), some (.int i1, 0)] [] σ
  refine bk hG (cut := []) 400 ?_
  refine And.intro (fun hq => ?_) (fun hq => ?_)
  · have h := i_pos hq h
    have e := Option.some.inj h
    subst e
    exact And.intro (Or.inl rfl) hRP
  · have h := i_neg hq h
    refine And.intro (fun hq => ?_) (fun hq => ?_)
    · have h := i_pos hq h
      have e := Option.some.inj h
      subst e
      exact And.intro (Or.inl rfl) hRP
    · have h := i_neg hq h
      have e := Option.some.inj h
      subst e
      exact And.intro (Or.inr rfl) hRP
set_option maxHeartbeats 4000000 in
set_option maxRecDepth 20000 in
theorem c11_smith {E : EnvT} (F : Nat) (i1 : Int32) (i2 : Int32) (σ : Mem) {r : Int32} (h : m11_smith F i1 i2 σ = some r) : MetAt E 2 78 [(.ref 0, 11), (.int i1, 0), (.int i2, 0)] σ (some (.int r, 0)) σ := by
  unfold m11_smith at h
  refine MetAt_of (tb := tb_78) (by decide) tbok_78 (Nat.le_of_ble_eq_true rfl) (fun a q => by cases q; trivial) (fun G hG => ?_)
  have hRP : (fun (a : Option AV) (τ : Mem) => a.map (conc E) = ((some (.int r, 0)) : Option AV).map (conc E) ∧ τ = σ) (some (.int r, 0)) σ := ⟨rfl, rfl⟩
  change G 0 [some (.ref 0, 11), some (.int i1, 0), some (.int i2, 0), none, none] [] σ
  refine bk hG (cut := []) 400 ?_
  have ⟨_, hc, h⟩ := b_some h
  refine Exists.intro _ (Exists.intro _ (Exists.intro _ (And.intro (c11_hasSmith F _ _ hc) (And.intro (by decide) (And.intro (fun q => absurd q (by decide)) ?_)))))
  refine And.intro (fun hq => ?_) (fun hq => ?_)
  · have h := i_pos hq h
    have e := Option.some.inj h
    subst e
    exact hRP
  · have h := i_neg hq h
    have ⟨_, hc, h⟩ := b_some h
    refine Exists.intro _ (Exists.intro _ (Exists.intro _ (And.intro (c7_jobOf F _ _ _ _ hc) (And.intro (by decide) (And.intro (fun q => absurd q (by decide)) ?_)))))
    refine And.intro (fun hq => ?_) (fun hq => ?_)
    · have h := i_pos hq h
      have ⟨hg, h⟩ := g_gd h
      refine And.intro (inB_of hg) ?_
      have e := Option.some.inj h
      subst e
      exact hRP
    have h := i_neg hq h
    refine And.intro (fun hq => ?_) (fun hq => ?_)
    · have h := i_pos hq h
      have e := Option.some.inj h
      subst e
      exact hRP
    have h := i_neg hq h
    refine And.intro (fun hq => ?_) (fun hq => ?_)
    · have h := i_pos hq h
      refine And.intro (fun hq => ?_) (fun hq => ?_)
      · have h := i_pos hq h
        have e := Option.some.inj h
        subst e
        exact hRP
      · have h := i_neg hq h
        have ⟨hg, h⟩ := g_gd h
        refine And.intro (inB_of hg) ?_
        have ⟨hg, h⟩ := g_gd h
        refine And.intro (inB_of hg) ?_
        refine And.intro (fun hq => ?_) (fun hq => ?_)
        · have h := i_pos hq h
          have e := Option.some.inj h
          subst e
          exact hRP
        · have h := i_neg hq h
          have e := Option.some.inj h
          subst e
          exact hRP
    have h := i_neg hq h
    refine And.intro (fun hq => ?_) (fun hq => ?_)
    · have h := i_pos hq h
      have ⟨hg, h⟩ := g_gd h
      refine And.intro (inB_of hg) ?_
      have e := Option.some.inj h
      subst e
      exact hRP
    have h := i_neg hq h
    refine And.intro (fun hq => ?_) (fun hq => ?_)
    · have h := i_pos hq h
      have ⟨hg, h⟩ := g_gd h
      refine And.intro (inB_of hg) ?_
      have e := Option.some.inj h
      subst e
      exact hRP
    have h := i_neg hq h
    refine And.intro (fun hq => ?_) (fun hq => ?_)
    · have h := i_pos hq h
      have ⟨_, hc, h⟩ := b_some h
      refine Exists.intro _ (Exists.intro _ (Exists.intro _ (And.intro (c7_earnedBy F _ _ _ _ hc) (And.intro (by decide) (And.intro (fun q => absurd q (by decide)) ?_)))))
      have e := Option.some.inj h
      subst e
      exact hRP
    have h := i_neg hq h
    refine And.intro (fun hq => ?_) (fun hq => ?_)
    · have h := i_pos hq h
      have ⟨hg, h⟩ := g_gd h
      refine And.intro (inB_of hg) ?_
      have e := Option.some.inj h
      subst e
      exact hRP
    have h := i_neg hq h
    refine And.intro (fun hq => ?_) (fun hq => ?_)
    · have h := i_pos hq h
      have ⟨hg, h⟩ := g_gd h
      refine And.intro (inB_of hg) ?_
      have e := Option.some.inj h
      subst e
      exact hRP
    have h := i_neg hq h
    refine And.intro (fun hq => ?_) (fun hq => ?_)
    · have h := i_pos hq h
      have ⟨hg, h⟩ := g_gd h
      refine And.intro (inB_of hg) ?_
      have e := Option.some.inj h
      subst e
      exact hRP
    have h := i_neg hq h
    have e := Option.some.inj h
    subst e
    exact hRP
set_option maxHeartbeats 4000000 in
set_option maxRecDepth 20000 in
theorem c11_hasJob {E : EnvT} (F : Nat) (i1 : Int32) (σ : Mem) {r : Int32} (h : m11_hasJob F i1 σ = some r) : MetAt E 0 105 [(.ref 0, 11), (.int i1, 0)] σ (some (.int r, 0)) σ := by
  unfold m11_hasJob at h
  refine MetAt_of (tb := tb_105) (by decide) tbok_105 (Nat.le_of_ble_eq_true rfl) (fun a q => by cases q; trivial) (fun G hG => ?_)
  have hRP : (fun (a : Option AV) (τ : Mem) => a.map (conc E) = ((some (.int r, 0)) : Option AV).map (conc E) ∧ τ = σ) (some (.int r, 0)) σ := ⟨rfl, rfl⟩
  change G 0 [some (.ref 0, 11), some (.int i1, 0)] [] σ
  refine bk hG (cut := []) 400 ?_
  refine And.intro (fun hq => ?_) (fun hq => ?_)
  · have h := i_pos hq h
    have e := Option.some.inj h
    subst e
    exact And.intro (Or.inl rfl) hRP
  · have h := i_neg hq h
    refine And.intro (fun hq => ?_) (fun hq => ?_)
    · have h := i_pos hq h
      have e := Option.some.inj h
      subst e
      exact And.intro (Or.inl rfl) hRP
    · have h := i_neg hq h
      have e := Option.some.inj h
      subst e
      exact And.intro (Or.inr rfl) hRP
set_option maxHeartbeats 4000000 in
set_option maxRecDepth 20000 in
theorem c11_job {E : EnvT} (F : Nat) (i1 : Int32) (i2 : Int32) (σ : Mem) {r : Int32} (h : m11_job F i1 i2 σ = some r) : MetAt E 1 79 [(.ref 0, 11), (.int i1, 0), (.int i2, 0)] σ (some (.int r, 0)) σ := by
  unfold m11_job at h
  refine MetAt_of (tb := tb_79) (by decide) tbok_79 (Nat.le_of_ble_eq_true rfl) (fun a q => by cases q; trivial) (fun G hG => ?_)
  have hRP : (fun (a : Option AV) (τ : Mem) => a.map (conc E) = ((some (.int r, 0)) : Option AV).map (conc E) ∧ τ = σ) (some (.int r, 0)) σ := ⟨rfl, rfl⟩
  change G 0 [some (.ref 0, 11), some (.int i1, 0), some (.int i2, 0)] [] σ
  refine bk hG (cut := []) 400 ?_
  have ⟨_, hc, h⟩ := b_some h
  refine Exists.intro _ (Exists.intro _ (Exists.intro _ (And.intro (c11_hasJob F _ _ hc) (And.intro (by decide) (And.intro (fun q => absurd q (by decide)) ?_)))))
  refine And.intro (fun hq => ?_) (fun hq => ?_)
  · have h := i_pos hq h
    have e := Option.some.inj h
    subst e
    exact hRP
  · have h := i_neg hq h
    refine And.intro (fun hq => ?_) (fun hq => ?_)
    · have h := i_pos hq h
      have ⟨hg, h⟩ := g_gd h
      refine And.intro (inB_of hg) ?_
      have e := Option.some.inj h
      subst e
      exact hRP
    have h := i_neg hq h
    refine And.intro (fun hq => ?_) (fun hq => ?_)
    · have h := i_pos hq h
      have ⟨hg, h⟩ := g_gd h
      refine And.intro (inB_of hg) ?_
      have e := Option.some.inj h
      subst e
      exact hRP
    have h := i_neg hq h
    refine And.intro (fun hq => ?_) (fun hq => ?_)
    · have h := i_pos hq h
      have ⟨hg, h⟩ := g_gd h
      refine And.intro (inB_of hg) ?_
      have e := Option.some.inj h
      subst e
      exact hRP
    have h := i_neg hq h
    refine And.intro (fun hq => ?_) (fun hq => ?_)
    · have h := i_pos hq h
      have ⟨hg, h⟩ := g_gd h
      refine And.intro (inB_of hg) ?_
      have e := Option.some.inj h
      subst e
      exact hRP
    have h := i_neg hq h
    refine And.intro (fun hq => ?_) (fun hq => ?_)
    · have h := i_pos hq h
      have ⟨hg, h⟩ := g_gd h
      refine And.intro (inB_of hg) ?_
      have e := Option.some.inj h
      subst e
      exact hRP
    have h := i_neg hq h
    refine And.intro (fun hq => ?_) (fun hq => ?_)
    · have h := i_pos hq h
      have ⟨hg, h⟩ := g_gd h
      refine And.intro (inB_of hg) ?_
      have e := Option.some.inj h
      subst e
      exact hRP
    have h := i_neg hq h
    have e := Option.some.inj h
    subst e
    exact hRP
set_option maxHeartbeats 4000000 in
set_option maxRecDepth 20000 in
theorem c11_hasPart {E : EnvT} (F : Nat) (i1 : Int32) (σ : Mem) {r : Int32} (h : m11_hasPart F i1 σ = some r) : MetAt E 0 106 [(.ref 0, 11), (.int i1, 0)] σ (some (.int r, 0)) σ := by
  unfold m11_hasPart at h
  refine MetAt_of (tb := tb_106) (by decide) tbok_106 (Nat.le_of_ble_eq_true rfl) (fun a q => by cases q; trivial) (fun G hG => ?_)
  have hRP : (fun (a : Option AV) (τ : Mem) => a.map (conc E) = ((some (.int r, 0)) : Option AV).map (conc E) ∧ τ = σ) (some (.int r, 0)) σ := ⟨rfl, rfl⟩
  change G 0 [some (.ref 0, 11), some (.int i1, 0)] [] σ
  refine bk hG (cut := []) 400 ?_
  refine And.intro (fun hq => ?_) (fun hq => ?_)
  · have h := i_pos hq h
    have e := Option.some.inj h
    subst e
    exact And.intro (Or.inl rfl) hRP
  · have h := i_neg hq h
    refine And.intro (fun hq => ?_) (fun hq => ?_)
    · have h := i_pos hq h
      have e := Option.some.inj h
      subst e
      exact And.intro (Or.inl rfl) hRP
    · have h := i_neg hq h
      refine And.intro (fun hq => ?_) (fun hq => ?_)
      · have h := i_pos hq h
        have e := Option.some.inj h
        subst e
        exact And.intro (Or.inl rfl) hRP
      · have h := i_neg hq h
        have e := Option.some.inj h
        subst e
        exact And.intro (Or.inr rfl) hRP
set_option maxHeartbeats 4000000 in
set_option maxRecDepth 20000 in
theorem c11_worn {E : EnvT} (F : Nat) (i1 : Int32) (σ : Mem) {r : Int32} (h : m11_worn F i1 σ = some r) : MetAt E 1 80 [(.ref 0, 11), (.int i1, 0)] σ (some (.int r, 0)) σ := by
  unfold m11_worn at h
  refine MetAt_of (tb := tb_80) (by decide) tbok_80 (Nat.le_of_ble_eq_true rfl) (fun a q => by cases q; trivial) (fun G hG => ?_)
  have hRP : (fun (a : Option AV) (τ : Mem) => a.map (conc E) = ((some (.int r, 0)) : Option AV).map (conc E) ∧ τ = σ) (some (.int r, 0)) σ := ⟨rfl, rfl⟩
  change G 0 [some (.ref 0, 11), some (.int i1, 0)] [] σ
  refine bk hG (cut := []) 400 ?_
  have ⟨_, hc, h⟩ := b_some h
  refine Exists.intro _ (Exists.intro _ (Exists.intro _ (And.intro (c11_hasPart F _ _ hc) (And.intro (by decide) (And.intro (fun q => absurd q (by decide)) ?_)))))
  refine And.intro (fun hq => ?_) (fun hq => ?_)
  · have h := i_pos hq h
    have e := Option.some.inj h
    subst e
    exact hRP
  · have h := i_neg hq h
    have ⟨hg, h⟩ := g_gd h
    refine And.intro (inB_of hg) ?_
    have e := Option.some.inj h
    subst e
    exact hRP
set_option maxHeartbeats 4000000 in
set_option maxRecDepth 20000 in
theorem w11_earnedByAll_4 {E : EnvT} {G : GT} {RP : Option AV → Mem → Prop} {σ : Mem} (hG : Cl E 109 1 tb_109 G RP) {r : Int32} (hRP : RP (some (.int r, 0)) σ) (F : Nat) : ∀ (n : Nat) (x1 : Int32) (x2 : Int32), m11_earnedByAll_4 F σ n x1 x2 = some r → G 4 [some (.ref 0, 11), some (.int x1, 0), some (.int x2, 0)] [] σ := by
  intro n
  induction n with
  | zero => intro x1 x2 h; unfold m11_earnedByAll_4 at h; cases h
  | succ n ih =>
    intro x1 x2 h
    refine bk hG (cut := [4]) 400 ?_
    unfold m11_earnedByAll_4 at h
    refine And.intro (fun hq => ?_) (fun hq => ?_)
    · have h := i_pos hq h
      have e := Option.some.inj h
      subst e
      exact hRP
    · have h := i_neg hq h
      have ⟨_, hc, h⟩ := b_some h
      refine Exists.intro _ (Exists.intro _ (Exists.intro _ (And.intro (c7_earnedBy F _ _ _ _ hc) (And.intro (by decide) (And.intro (fun q => absurd q (by decide)) ?_)))))
      exact ih _ _ h
set_option maxHeartbeats 4000000 in
set_option maxRecDepth 20000 in
theorem c11_earnedByAll {E : EnvT} (F : Nat)  (σ : Mem) {r : Int32} (h : m11_earnedByAll F σ = some r) : MetAt E 1 109 [(.ref 0, 11)] σ (some (.int r, 0)) σ := by
  unfold m11_earnedByAll at h
  refine MetAt_of (tb := tb_109) (by decide) tbok_109 (Nat.le_of_ble_eq_true rfl) (fun a q => by cases q; trivial) (fun G hG => ?_)
  have hRP : (fun (a : Option AV) (τ : Mem) => a.map (conc E) = ((some (.int r, 0)) : Option AV).map (conc E) ∧ τ = σ) (some (.int r, 0)) σ := ⟨rfl, rfl⟩
  change G 0 [some (.ref 0, 11), none, none] [] σ
  refine bk hG (cut := [4]) 400 ?_
  exact w11_earnedByAll_4 hG hRP F F _ _ h
set_option maxHeartbeats 4000000 in
set_option maxRecDepth 20000 in
theorem w11_splitBits_4 {E : EnvT} {G : GT} {RP : Option AV → Mem → Prop} {σ : Mem} (hG : Cl E 110 0 tb_110 G RP) {r : Int32} (hRP : RP (some (.int r, 0)) σ) (F : Nat) : ∀ (n : Nat) (x1 : Int32) (x2 : Int32), m11_splitBits_4 F σ n x1 x2 = some r → G 4 [some (.ref 0, 11), some (.int x1, 0), some (.int x2, 0)] [] σ := by
  intro n
  induction n with
  | zero => intro x1 x2 h; unfold m11_splitBits_4 at h; cases h
  | succ n ih =>
    intro x1 x2 h
    refine bk hG (cut := [4]) 400 ?_
    unfold m11_splitBits_4 at h
    refine And.intro (fun hq => ?_) (fun hq => ?_)
    · have h := i_pos hq h
      have e := Option.some.inj h
      subst e
      exact hRP
    · have h := i_neg hq h
      refine And.intro (fun hq => ?_) (fun hq => ?_)
      · have h := i_pos hq h
        exact ih _ _ h
      · have h := i_neg hq h
        have ⟨hg, h⟩ := g_gd h
        refine And.intro (inB_of hg) ?_
        refine And.intro (fun hq => ?_) (fun hq => ?_)
        · have h := i_pos hq h
          exact ih _ _ h
        · have h := i_neg hq h
          exact ih _ _ h
set_option maxHeartbeats 4000000 in
set_option maxRecDepth 20000 in
theorem c11_splitBits {E : EnvT} (F : Nat)  (σ : Mem) {r : Int32} (h : m11_splitBits F σ = some r) : MetAt E 0 110 [(.ref 0, 11)] σ (some (.int r, 0)) σ := by
  unfold m11_splitBits at h
  refine MetAt_of (tb := tb_110) (by decide) tbok_110 (Nat.le_of_ble_eq_true rfl) (fun a q => by cases q; trivial) (fun G hG => ?_)
  have hRP : (fun (a : Option AV) (τ : Mem) => a.map (conc E) = ((some (.int r, 0)) : Option AV).map (conc E) ∧ τ = σ) (some (.int r, 0)) σ := ⟨rfl, rfl⟩
  change G 0 [some (.ref 0, 11), none, none] [] σ
  refine bk hG (cut := [4]) 400 ?_
  exact w11_splitBits_4 hG hRP F F _ _ h
set_option maxHeartbeats 4000000 in
set_option maxRecDepth 20000 in
theorem c11_count {E : EnvT} (F : Nat) (i1 : Int32) (σ : Mem) {r : Int32} (h : m11_count F i1 σ = some r) : MetAt E 2 81 [(.ref 0, 11), (.int i1, 0)] σ (some (.int r, 0)) σ := by
  unfold m11_count at h
  refine MetAt_of (tb := tb_81) (by decide) tbok_81 (Nat.le_of_ble_eq_true rfl) (fun a q => by cases q; trivial) (fun G hG => ?_)
  have hRP : (fun (a : Option AV) (τ : Mem) => a.map (conc E) = ((some (.int r, 0)) : Option AV).map (conc E) ∧ τ = σ) (some (.int r, 0)) σ := ⟨rfl, rfl⟩
  change G 0 [some (.ref 0, 11), some (.int i1, 0), none] [] σ
  refine bk hG (cut := []) 400 ?_
  refine And.intro (fun hq => ?_) (fun hq => ?_)
  · have h := i_pos hq h
    have e := Option.some.inj h
    subst e
    exact hRP
  have h := i_neg hq h
  refine And.intro (fun hq => ?_) (fun hq => ?_)
  · have h := i_pos hq h
    have e := Option.some.inj h
    subst e
    exact hRP
  have h := i_neg hq h
  refine And.intro (fun hq => ?_) (fun hq => ?_)
  · have h := i_pos hq h
    have e := Option.some.inj h
    subst e
    exact hRP
  have h := i_neg hq h
  refine And.intro (fun hq => ?_) (fun hq => ?_)
  · have h := i_pos hq h
    have e := Option.some.inj h
    subst e
    exact hRP
  have h := i_neg hq h
  refine And.intro (fun hq => ?_) (fun hq => ?_)
  · have h := i_pos hq h
    have e := Option.some.inj h
    subst e
    exact hRP
  have h := i_neg hq h
  refine And.intro (fun hq => ?_) (fun hq => ?_)
  · have h := i_pos hq h
    have e := Option.some.inj h
    subst e
    exact hRP
  have h := i_neg hq h
  refine And.intro (fun hq => ?_) (fun hq => ?_)
  · have h := i_pos hq h
    have e := Option.some.inj h
    subst e
    exact hRP
  have h := i_neg hq h
  refine And.intro (fun hq => ?_) (fun hq => ?_)
  · have h := i_pos hq h
    have e := Option.some.inj h
    subst e
    exact hRP
  have h := i_neg hq h
  refine And.intro (fun hq => ?_) (fun hq => ?_)
  · have h := i_pos hq h
    have ⟨_, hc, h⟩ := b_some h
    refine Exists.intro _ (Exists.intro _ (Exists.intro _ (And.intro (c7_doneBits F _ _ _ hc) (And.intro (by decide) (And.intro (fun q => absurd q (by decide)) ?_)))))
    have e := Option.some.inj h
    subst e
    exact hRP
  have h := i_neg hq h
  refine And.intro (fun hq => ?_) (fun hq => ?_)
  · have h := i_pos hq h
    have ⟨_, hc, h⟩ := b_some h
    refine Exists.intro _ (Exists.intro _ (Exists.intro _ (And.intro (c11_earnedByAll F _ hc) (And.intro (by decide) (And.intro (fun q => absurd q (by decide)) ?_)))))
    have e := Option.some.inj h
    subst e
    exact hRP
  have h := i_neg hq h
  refine And.intro (fun hq => ?_) (fun hq => ?_)
  · have h := i_pos hq h
    have ⟨_, hc, h⟩ := b_some h
    refine Exists.intro _ (Exists.intro _ (Exists.intro _ (And.intro (c11_splitBits F _ hc) (And.intro (by decide) (And.intro (fun q => absurd q (by decide)) ?_)))))
    have e := Option.some.inj h
    subst e
    exact hRP
  have h := i_neg hq h
  refine And.intro (fun hq => ?_) (fun hq => ?_)
  · have h := i_pos hq h
    have e := Option.some.inj h
    subst e
    exact hRP
  have h := i_neg hq h
  refine And.intro (fun hq => ?_) (fun hq => ?_)
  · have h := i_pos hq h
    have e := Option.some.inj h
    subst e
    exact hRP
  have h := i_neg hq h
  refine And.intro (fun hq => ?_) (fun hq => ?_)
  · have h := i_pos hq h
    have e := Option.some.inj h
    subst e
    exact hRP
  have h := i_neg hq h
  refine And.intro (fun hq => ?_) (fun hq => ?_)
  · have h := i_pos hq h
    have e := Option.some.inj h
    subst e
    exact hRP
  have h := i_neg hq h
  have e := Option.some.inj h
  subst e
  exact hRP
set_option maxHeartbeats 4000000 in
set_option maxRecDepth 20000 in
theorem c11_remember {E : EnvT} (F : Nat)  (σ : Mem) {r : Mem} (h : m11_remember F σ = some r) : MetAt E 1 108 [(.ref 0, 11)] σ none r := by
  unfold m11_remember at h
  refine MetAt_of (tb := tb_108) (by decide) tbok_108 (Nat.le_of_ble_eq_true rfl) (fun a q => by cases q) (fun G hG => ?_)
  have hRP : (fun (a : Option AV) (τ : Mem) => a.map (conc E) = (none : Option AV).map (conc E) ∧ τ = r) none r := ⟨rfl, rfl⟩
  change G 0 [some (.ref 0, 11)] [] σ
  refine bk hG (cut := []) 400 ?_
  have ⟨hg, h⟩ := g_gd h
  refine And.intro (inB_of hg) ?_
  have ⟨_, hc, h⟩ := b_some h
  refine Exists.intro _ (Exists.intro _ (Exists.intro _ (And.intro (c7_copyFrom F _ _ _ hc) (And.intro (by decide) (And.intro (fun q => absurd q (by decide)) ?_)))))
  refine And.intro (by decide) ?_
  have e := Option.some.inj h
  subst e
  exact hRP
theorem kd_rules : ∀ k, k < 6 → kd (151 + 6 * k) = 5 := by decide +kernel
theorem inB_lt {i : Int32} {n : Nat} (h : inB i n = true) : i.toNatClampNeg < n := Nat.not_le.mp fun q => inB_of h (Or.inr q)
theorem v11_ruleInForce {F : Nat} {σ : Mem} {r : Nat} (h : m11_ruleInForce F σ = some r) : r = 0 ∨ kd r = 5 := by
  unfold m11_ruleInForce at h
  split at h
  · exact Or.inl (Option.some.inj h).symm
  · split at h
    · exact Or.inl (Option.some.inj h).symm
    · have ⟨hg, h⟩ := g_gd h
      right
      rw [← Option.some.inj h]
      exact kd_rules _ (inB_lt hg)
set_option maxHeartbeats 4000000 in
set_option maxRecDepth 20000 in
theorem c11_ruleInForce {E : EnvT} (F : Nat)  (σ : Mem) {r : Nat} (h : m11_ruleInForce F σ = some r) : MetAt E 0 107 [(.ref 0, 11)] σ (some (.ref r, 50)) σ := by
  have hv := v11_ruleInForce h
  unfold m11_ruleInForce at h
  refine MetAt_of (tb := tb_107) (by decide) tbok_107 (Nat.le_of_ble_eq_true rfl) (fun a q => by cases q; exact Or.inr (Or.inr (Or.inl ⟨rfl, hv⟩))) (fun G hG => ?_)
  have hRP : (fun (a : Option AV) (τ : Mem) => a.map (conc E) = ((some (.ref r, 50)) : Option AV).map (conc E) ∧ τ = σ) (some (.ref r, 50)) σ := ⟨rfl, rfl⟩
  change G 0 [some (.ref 0, 11), none] [] σ
  refine bk hG (cut := []) 400 ?_
  refine And.intro (fun hq => ?_) (fun hq => ?_)
  · have h := i_pos hq h
    have e := Option.some.inj h
    subst e
    exact hRP
  · have h := i_neg hq h
    refine And.intro (fun hq => ?_) (fun hq => ?_)
    · have h := i_pos hq h
      have e := Option.some.inj h
      subst e
      exact hRP
    · have h := i_neg hq h
      have ⟨hg, h⟩ := g_gd h
      refine And.intro (inB_of hg) ?_
      have e := Option.some.inj h
      subst e
      exact hRP
set_option maxHeartbeats 4000000 in
set_option maxRecDepth 20000 in
theorem c11_moment {E : EnvT} (F : Nat)  (σ : Mem) {r : Int32 × Mem} (h : m11_moment F σ = some r) : MetAt E 4 82 [(.ref 0, 11)] σ (some (.int r.1, 0)) r.2 := by
  unfold m11_moment at h
  refine MetAt_of (tb := tb_82) (by decide) tbok_82 (Nat.le_of_ble_eq_true rfl) (fun a q => by cases q; trivial) (fun G hG => ?_)
  have hRP : (fun (a : Option AV) (τ : Mem) => a.map (conc E) = ((some (.int r.1, 0)) : Option AV).map (conc E) ∧ τ = r.2) (some (.int r.1, 0)) r.2 := ⟨rfl, rfl⟩
  change G 0 [some (.ref 0, 11)] [] σ
  refine bk hG (cut := []) 400 ?_
  refine And.intro (fun hq => ?_) (fun hq => ?_)
  · have h := i_pos hq h
    have e := Option.some.inj h
    subst e
    exact hRP
  · have h := i_neg hq h
    refine And.intro (fun hq => ?_) (fun hq => ?_)
    · have h := i_pos hq h
      have ⟨_, hc, h⟩ := b_some h
      refine Exists.intro _ (Exists.intro _ (Exists.intro _ (And.intro (c11_remember F _ hc) (And.intro (by decide) (And.intro (fun q => absurd q (by decide)) ?_)))))
      have ⟨_, hc, h⟩ := b_some h
      refine Exists.intro _ (Exists.intro _ (Exists.intro _ (And.intro (c11_ruleInForce F _ hc) (And.intro (by decide) (And.intro (fun q => absurd q (by decide)) ?_)))))
      have ⟨_, hc, h⟩ := b_some h
      refine Exists.intro _ (Exists.intro _ (Exists.intro _ (And.intro (c2_plain F _ _ hc) (And.intro (by decide) (And.intro (fun q => absurd q (by decide)) ?_)))))
      have ⟨_, hc, h⟩ := b_some h
      refine Exists.intro _ (Exists.intro _ (Exists.intro _ (And.intro (c2_go F _ _ hc) (And.intro (by decide) (And.intro (fun q => absurd q (by decide)) ?_)))))
      have e := Option.some.inj h
      subst e
      exact hRP
    · have h := i_neg hq h
      have e := Option.some.inj h
      subst e
      exact hRP
set_option maxHeartbeats 4000000 in
set_option maxRecDepth 20000 in
theorem c11_quench {E : EnvT} (F : Nat) (i1 : Int32) (σ : Mem) {r : Int32 × Mem} (h : m11_quench F i1 σ = some r) : MetAt E 2 83 [(.ref 0, 11), (.int i1, 0)] σ (some (.int r.1, 0)) r.2 := by
  unfold m11_quench at h
  refine MetAt_of (tb := tb_83) (by decide) tbok_83 (Nat.le_of_ble_eq_true rfl) (fun a q => by cases q; trivial) (fun G hG => ?_)
  have hRP : (fun (a : Option AV) (τ : Mem) => a.map (conc E) = ((some (.int r.1, 0)) : Option AV).map (conc E) ∧ τ = r.2) (some (.int r.1, 0)) r.2 := ⟨rfl, rfl⟩
  change G 0 [some (.ref 0, 11), some (.int i1, 0), none] [] σ
  refine bk hG (cut := []) 400 ?_
  have ⟨_, hc, h⟩ := b_some h
  refine Exists.intro _ (Exists.intro _ (Exists.intro _ (And.intro (c11_hasSmith F _ _ hc) (And.intro (by decide) (And.intro (fun q => absurd q (by decide)) ?_)))))
  refine And.intro (fun hq => ?_) (fun hq => ?_)
  · have h := i_pos hq h
    have e := Option.some.inj h
    subst e
    exact hRP
  · have h := i_neg hq h
    have ⟨hg, h⟩ := g_gd h
    refine And.intro (inB_of hg) ?_
    refine And.intro (fun hq => ?_) (fun hq => ?_)
    · have h := i_pos hq h
      have e := Option.some.inj h
      subst e
      exact hRP
    · have h := i_neg hq h
      have ⟨_, hc, h⟩ := b_some h
      refine Exists.intro _ (Exists.intro _ (Exists.intro _ (And.intro (c11_remember F _ hc) (And.intro (by decide) (And.intro (fun q => absurd q (by decide)) ?_)))))
      have ⟨hg, h⟩ := g_gd h
      refine And.intro (inB_of hg) ?_
      have ⟨hg, h⟩ := g_gd h
      refine And.intro (inB_of hg) ?_
      have e := Option.some.inj h
      subst e
      exact hRP
set_option maxHeartbeats 4000000 in
set_option maxRecDepth 20000 in
theorem c11_mend {E : EnvT} (F : Nat) (i1 : Int32) (σ : Mem) {r : Int32 × Mem} (h : m11_mend F i1 σ = some r) : MetAt E 2 84 [(.ref 0, 11), (.int i1, 0)] σ (some (.int r.1, 0)) r.2 := by
  unfold m11_mend at h
  refine MetAt_of (tb := tb_84) (by decide) tbok_84 (Nat.le_of_ble_eq_true rfl) (fun a q => by cases q; trivial) (fun G hG => ?_)
  have hRP : (fun (a : Option AV) (τ : Mem) => a.map (conc E) = ((some (.int r.1, 0)) : Option AV).map (conc E) ∧ τ = r.2) (some (.int r.1, 0)) r.2 := ⟨rfl, rfl⟩
  change G 0 [some (.ref 0, 11), some (.int i1, 0)] [] σ
  refine bk hG (cut := []) 400 ?_
  have ⟨_, hc, h⟩ := b_some h
  refine Exists.intro _ (Exists.intro _ (Exists.intro _ (And.intro (c11_hasPart F _ _ hc) (And.intro (by decide) (And.intro (fun q => absurd q (by decide)) ?_)))))
  refine And.intro (fun hq => ?_) (fun hq => ?_)
  · have h := i_pos hq h
    have e := Option.some.inj h
    subst e
    exact hRP
  · have h := i_neg hq h
    have ⟨hg, h⟩ := g_gd h
    refine And.intro (inB_of hg) ?_
    refine And.intro (fun hq => ?_) (fun hq => ?_)
    · have h := i_pos hq h
      have e := Option.some.inj h
      subst e
      exact hRP
    · have h := i_neg hq h
      have ⟨_, hc, h⟩ := b_some h
      refine Exists.intro _ (Exists.intro _ (Exists.intro _ (And.intro (c11_remember F _ hc) (And.intro (by decide) (And.intro (fun q => absurd q (by decide)) ?_)))))
      have ⟨hg, h⟩ := g_gd h
      refine And.intro (inB_of hg) ?_
      refine And.intro (by decide) ?_
      have ⟨hg, h⟩ := g_gd h
      refine And.intro (inB_of hg) ?_
      have ⟨hg, h⟩ := g_gd h
      refine And.intro (inB_of hg) ?_
      have e := Option.some.inj h
      subst e
      exact hRP
set_option maxHeartbeats 4000000 in
set_option maxRecDepth 20000 in
theorem c11_aside {E : EnvT} (F : Nat) (i1 : Int32) (σ : Mem) {r : Int32 × Mem} (h : m11_aside F i1 σ = some r) : MetAt E 3 85 [(.ref 0, 11), (.int i1, 0)] σ (some (.int r.1, 0)) r.2 := by
  unfold m11_aside at h
  refine MetAt_of (tb := tb_85) (by decide) tbok_85 (Nat.le_of_ble_eq_true rfl) (fun a q => by cases q; trivial) (fun G hG => ?_)
  have hRP : (fun (a : Option AV) (τ : Mem) => a.map (conc E) = ((some (.int r.1, 0)) : Option AV).map (conc E) ∧ τ = r.2) (some (.int r.1, 0)) r.2 := ⟨rfl, rfl⟩
  change G 0 [some (.ref 0, 11), some (.int i1, 0)] [] σ
  refine bk hG (cut := []) 400 ?_
  have ⟨_, hc, h⟩ := b_some h
  refine Exists.intro _ (Exists.intro _ (Exists.intro _ (And.intro (c11_hasSmith F _ _ hc) (And.intro (by decide) (And.intro (fun q => absurd q (by decide)) ?_)))))
  refine And.intro (fun hq => ?_) (fun hq => ?_)
  · have h := i_pos hq h
    have e := Option.some.inj h
    subst e
    exact hRP
  · have h := i_neg hq h
    have ⟨_, hc, h⟩ := b_some h
    refine Exists.intro _ (Exists.intro _ (Exists.intro _ (And.intro (c7_toDo F _ _ _ _ hc) (And.intro (by decide) (And.intro (fun q => absurd q (by decide)) ?_)))))
    refine And.intro (fun hq => ?_) (fun hq => ?_)
    · have h := i_pos hq h
      have ⟨_, hc, h⟩ := b_some h
      refine Exists.intro _ (Exists.intro _ (Exists.intro _ (And.intro (c11_remember F _ hc) (And.intro (by decide) (And.intro (fun q => absurd q (by decide)) ?_)))))
      have ⟨_, hc, h⟩ := b_some h
      refine Exists.intro _ (Exists.intro _ (Exists.intro _ (And.intro (c7_putLast F _ _ _ _ hc) (And.intro (by decide) (And.intro (fun q => absurd q (by decide)) ?_)))))
      have ⟨hg, h⟩ := g_gd h
      refine And.intro (inB_of hg) ?_
      have ⟨_, hc, h⟩ := b_some h
      refine Exists.intro _ (Exists.intro _ (Exists.intro _ (And.intro (c7_jobOf F _ _ _ _ hc) (And.intro (by decide) (And.intro (fun q => absurd q (by decide)) ?_)))))
      have e := Option.some.inj h
      subst e
      exact hRP
    · have h := i_neg hq h
      have e := Option.some.inj h
      subst e
      exact hRP
set_option maxHeartbeats 4000000 in
set_option maxRecDepth 20000 in
theorem c11_undo {E : EnvT} (F : Nat)  (σ : Mem) {r : Int32 × Mem} (h : m11_undo F σ = some r) : MetAt E 1 86 [(.ref 0, 11)] σ (some (.int r.1, 0)) r.2 := by
  unfold m11_undo at h
  refine MetAt_of (tb := tb_86) (by decide) tbok_86 (Nat.le_of_ble_eq_true rfl) (fun a q => by cases q; trivial) (fun G hG => ?_)
  have hRP : (fun (a : Option AV) (τ : Mem) => a.map (conc E) = ((some (.int r.1, 0)) : Option AV).map (conc E) ∧ τ = r.2) (some (.int r.1, 0)) r.2 := ⟨rfl, rfl⟩
  change G 0 [some (.ref 0, 11)] [] σ
  refine bk hG (cut := []) 400 ?_
  refine And.intro (fun hq => ?_) (fun hq => ?_)
  · have h := i_pos hq h
    have e := Option.some.inj h
    subst e
    exact hRP
  · have h := i_neg hq h
    refine And.intro (by decide) ?_
    have ⟨hg, h⟩ := g_gd h
    refine And.intro (inB_of hg) ?_
    have ⟨_, hc, h⟩ := b_some h
    refine Exists.intro _ (Exists.intro _ (Exists.intro _ (And.intro (c7_copyFrom F _ _ _ hc) (And.intro (by decide) (And.intro (fun q => absurd q (by decide)) ?_)))))
    have e := Option.some.inj h
    subst e
    exact hRP
set_option maxHeartbeats 4000000 in
set_option maxRecDepth 20000 in
theorem c11_ahead {E : EnvT} (F : Nat) (i1 : Int32) (i2 : Int32) (i3 : Int32) (σ : Mem) {r : Int32 × Mem} (h : m11_ahead F i1 i2 i3 σ = some r) : MetAt E 5 87 [(.ref 0, 11), (.int i1, 0), (.int i2, 0), (.int i3, 0)] σ (some (.int r.1, 0)) r.2 := by
  unfold m11_ahead at h
  refine MetAt_of (tb := tb_87) (by decide) tbok_87 (Nat.le_of_ble_eq_true rfl) (fun a q => by cases q; trivial) (fun G hG => ?_)
  have hRP : (fun (a : Option AV) (τ : Mem) => a.map (conc E) = ((some (.int r.1, 0)) : Option AV).map (conc E) ∧ τ = r.2) (some (.int r.1, 0)) r.2 := ⟨rfl, rfl⟩
  change G 0 [some (.ref 0, 11), some (.int i1, 0), some (.int i2, 0), some (.int i3, 0), none, none] [] σ
  refine bk hG (cut := []) 400 ?_
  have ⟨_, hc, h⟩ := b_some h
  refine Exists.intro _ (Exists.intro _ (Exists.intro _ (And.intro (c11_hasSmith F _ _ hc) (And.intro (by decide) (And.intro (fun q => absurd q (by decide)) ?_)))))
  refine And.intro (fun hq => ?_) (fun hq => ?_)
  · have h := i_pos hq h
    have e := Option.some.inj h
    subst e
    exact hRP
  · have h := i_neg hq h
    refine And.intro (fun hq => ?_) (fun hq => ?_)
    · have h := i_pos hq h
      have e := Option.some.inj h
      subst e
      exact hRP
    · have h := i_neg hq h
      refine And.intro (fun hq => ?_) (fun hq => ?_)
      · have h := i_pos hq h
        have e := Option.some.inj h
        subst e
        exact hRP
      · have h := i_neg hq h
        refine And.intro (fun hq => ?_) (fun hq => ?_)
        · have h := i_pos hq h
          have e := Option.some.inj h
          subst e
          exact hRP
        · have h := i_neg hq h
          refine And.intro (fun hq => ?_) (fun hq => ?_)
          · have h := i_pos hq h
            have ⟨_, hc, h⟩ := b_some h
            refine Exists.intro _ (Exists.intro _ (Exists.intro _ (And.intro (c11_ruleInForce F _ hc) (And.intro (by decide) (And.intro (fun q => absurd q (by decide)) ?_)))))
            have ⟨_, hc, h⟩ := b_some h
            refine Exists.intro _ (Exists.intro _ (Exists.intro _ (And.intro (c2_plain F _ _ hc) (And.intro (by decide) (And.intro (fun q => absurd q (by decide)) ?_)))))
            have ⟨_, hc, h⟩ := b_some h
            refine Exists.intro _ (Exists.intro _ (Exists.intro _ (And.intro (c6_goOn F _ _ _ hc) (And.intro (by decide) (And.intro (fun q => absurd q (by decide)) ?_)))))
            refine And.intro (fun hq => ?_) (fun hq => ?_)
            · have h := i_pos hq h
              have ⟨hg, h⟩ := g_gd h
              refine And.intro (inB_of hg) ?_
              have e := Option.some.inj h
              subst e
              exact hRP
            · have h := i_neg hq h
              refine And.intro (fun hq => ?_) (fun hq => ?_)
              · have h := i_pos hq h
                have ⟨hg, h⟩ := g_gd h
                refine And.intro (inB_of hg) ?_
                have e := Option.some.inj h
                subst e
                exact hRP
              · have h := i_neg hq h
                have ⟨_, hc, h⟩ := b_some h
                refine Exists.intro _ (Exists.intro _ (Exists.intro _ (And.intro (c7_jobOf F _ _ _ _ hc) (And.intro (by decide) (And.intro (fun q => absurd q (by decide)) ?_)))))
                refine And.intro (fun hq => ?_) (fun hq => ?_)
                · have h := i_pos hq h
                  have e := Option.some.inj h
                  subst e
                  exact hRP
                · have h := i_neg hq h
                  have ⟨hg, h⟩ := g_gd h
                  refine And.intro (inB_of hg) ?_
                  have e := Option.some.inj h
                  subst e
                  exact hRP
          · have h := i_neg hq h
            have e := Option.some.inj h
            subst e
            exact hRP
set_option maxHeartbeats 4000000 in
set_option maxRecDepth 20000 in
theorem c11_ready {E : EnvT} (F : Nat) (i1 : Int32) (σ : Mem) {r : Int32 × Mem} (h : m11_ready F i1 σ = some r) : MetAt E 5 88 [(.ref 0, 11), (.int i1, 0)] σ (some (.int r.1, 0)) r.2 := by
  unfold m11_ready at h
  refine MetAt_of (tb := tb_88) (by decide) tbok_88 (Nat.le_of_ble_eq_true rfl) (fun a q => by cases q; trivial) (fun G hG => ?_)
  have hRP : (fun (a : Option AV) (τ : Mem) => a.map (conc E) = ((some (.int r.1, 0)) : Option AV).map (conc E) ∧ τ = r.2) (some (.int r.1, 0)) r.2 := ⟨rfl, rfl⟩
  change G 0 [some (.ref 0, 11), some (.int i1, 0)] [] σ
  refine bk hG (cut := []) 400 ?_
  have ⟨_, hc, h⟩ := b_some h
  refine Exists.intro _ (Exists.intro _ (Exists.intro _ (And.intro (c11_hasJob F _ _ hc) (And.intro (by decide) (And.intro (fun q => absurd q (by decide)) ?_)))))
  refine And.intro (fun hq => ?_) (fun hq => ?_)
  · have h := i_pos hq h
    have e := Option.some.inj h
    subst e
    exact hRP
  · have h := i_neg hq h
    have ⟨_, hc, h⟩ := b_some h
    refine Exists.intro _ (Exists.intro _ (Exists.intro _ (And.intro (c11_ruleInForce F _ hc) (And.intro (by decide) (And.intro (fun q => absurd q (by decide)) ?_)))))
    have ⟨_, hc, h⟩ := b_some h
    refine Exists.intro _ (Exists.intro _ (Exists.intro _ (And.intro (c2_plain F _ _ hc) (And.intro (by decide) (And.intro (fun q => absurd q (by decide)) ?_)))))
    have ⟨_, hc, h⟩ := b_some h
    refine Exists.intro _ (Exists.intro _ (Exists.intro _ (And.intro (c6_readyAt F _ _ _ hc) (And.intro (by decide) (And.intro (fun q => absurd q (by decide)) ?_)))))
    have e := Option.some.inj h
    subst e
    exact hRP
set_option maxHeartbeats 4000000 in
set_option maxRecDepth 20000 in
theorem c11_all {E : EnvT} (F : Nat)  (σ : Mem) {r : Int32 × Mem} (h : m11_all F σ = some r) : MetAt E 5 89 [(.ref 0, 11)] σ (some (.int r.1, 0)) r.2 := by
  unfold m11_all at h
  refine MetAt_of (tb := tb_89) (by decide) tbok_89 (Nat.le_of_ble_eq_true rfl) (fun a q => by cases q; trivial) (fun G hG => ?_)
  have hRP : (fun (a : Option AV) (τ : Mem) => a.map (conc E) = ((some (.int r.1, 0)) : Option AV).map (conc E) ∧ τ = r.2) (some (.int r.1, 0)) r.2 := ⟨rfl, rfl⟩
  change G 0 [some (.ref 0, 11), none] [] σ
  refine bk hG (cut := []) 400 ?_
  refine And.intro (fun hq => ?_) (fun hq => ?_)
  · have h := i_pos hq h
    have e := Option.some.inj h
    subst e
    exact hRP
  · have h := i_neg hq h
    have ⟨_, hc, h⟩ := b_some h
    refine Exists.intro _ (Exists.intro _ (Exists.intro _ (And.intro (c11_ruleInForce F _ hc) (And.intro (by decide) (And.intro (fun q => absurd q (by decide)) ?_)))))
    have ⟨_, hc, h⟩ := b_some h
    refine Exists.intro _ (Exists.intro _ (Exists.intro _ (And.intro (c2_plain F _ _ hc) (And.intro (by decide) (And.intro (fun q => absurd q (by decide)) ?_)))))
    have ⟨_, hc, h⟩ := b_some h
    refine Exists.intro _ (Exists.intro _ (Exists.intro _ (And.intro (c6_untilAll F _ _ hc) (And.intro (by decide) (And.intro (fun q => absurd q (by decide)) ?_)))))
    refine And.intro (fun hq => ?_) (fun hq => ?_)
    · have h := i_pos hq h
      have e := Option.some.inj h
      subst e
      exact hRP
    · have h := i_neg hq h
      have e := Option.some.inj h
      subst e
      exact hRP
set_option maxHeartbeats 4000000 in
set_option maxRecDepth 20000 in
theorem c11_rota {E : EnvT} (F : Nat) (i1 : Int32) (i2 : Int32) (σ : Mem) {r : Int32 × Mem} (h : m11_rota F i1 i2 σ = some r) : MetAt E 12 90 [(.ref 0, 11), (.int i1, 0), (.int i2, 0)] σ (some (.int r.1, 0)) r.2 := by
  unfold m11_rota at h
  refine MetAt_of (tb := tb_90) (by decide) tbok_90 (Nat.le_of_ble_eq_true rfl) (fun a q => by cases q; trivial) (fun G hG => ?_)
  have hRP : (fun (a : Option AV) (τ : Mem) => a.map (conc E) = ((some (.int r.1, 0)) : Option AV).map (conc E) ∧ τ = r.2) (some (.int r.1, 0)) r.2 := ⟨rfl, rfl⟩
  change G 0 [some (.ref 0, 11), some (.int i1, 0), some (.int i2, 0)] [] σ
  refine bk hG (cut := []) 400 ?_
  refine And.intro (fun hq => ?_) (fun hq => ?_)
  · have h := i_pos hq h
    have e := Option.some.inj h
    subst e
    exact hRP
  · have h := i_neg hq h
    refine And.intro (fun hq => ?_) (fun hq => ?_)
    · have h := i_pos hq h
      have e := Option.some.inj h
      subst e
      exact hRP
    · have h := i_neg hq h
      refine And.intro (fun hq => ?_) (fun hq => ?_)
      · have h := i_pos hq h
        have e := Option.some.inj h
        subst e
        exact hRP
      · have h := i_neg hq h
        refine And.intro (fun hq => ?_) (fun hq => ?_)
        · have h := i_pos hq h
          have e := Option.some.inj h
          subst e
          exact hRP
        · have h := i_neg hq h
          refine And.intro (fun hq => ?_) (fun hq => ?_)
          · have h := i_pos hq h
            refine And.intro (fun hq => ?_) (fun hq => ?_)
            · have h := i_pos hq h
              have ⟨_, hc, h⟩ := b_some h
              refine Exists.intro _ (Exists.intro _ (Exists.intro _ (And.intro (c2_plain F _ _ hc) (And.intro (by decide) (And.intro (fun q => absurd q (by decide)) ?_)))))
              have ⟨_, hc, h⟩ := b_some h
              refine Exists.intro _ (Exists.intro _ (Exists.intro _ (And.intro (c0_bestRota F _ _ _ _ hc) (And.intro (by decide) (And.intro (fun q => absurd q (by decide)) ?_)))))
              have e := Option.some.inj h
              subst e
              exact hRP
            · have h := i_neg hq h
              have e := Option.some.inj h
              subst e
              exact hRP
          · have h := i_neg hq h
            have e := Option.some.inj h
            subst e
            exact hRP
set_option maxHeartbeats 4000000 in
set_option maxRecDepth 20000 in
theorem c11_round {E : EnvT} (F : Nat) (i1 : Int32) (σ : Mem) {r : Int32 × Mem} (h : m11_round F i1 σ = some r) : MetAt E 5 91 [(.ref 0, 11), (.int i1, 0)] σ (some (.int r.1, 0)) r.2 := by
  unfold m11_round at h
  refine MetAt_of (tb := tb_91) (by decide) tbok_91 (Nat.le_of_ble_eq_true rfl) (fun a q => by cases q; trivial) (fun G hG => ?_)
  have hRP : (fun (a : Option AV) (τ : Mem) => a.map (conc E) = ((some (.int r.1, 0)) : Option AV).map (conc E) ∧ τ = r.2) (some (.int r.1, 0)) r.2 := ⟨rfl, rfl⟩
  change G 0 [some (.ref 0, 11), some (.int i1, 0)] [] σ
  refine bk hG (cut := []) 400 ?_
  refine And.intro (fun hq => ?_) (fun hq => ?_)
  · have h := i_pos hq h
    have e := Option.some.inj h
    subst e
    exact hRP
  · have h := i_neg hq h
    refine And.intro (fun hq => ?_) (fun hq => ?_)
    · have h := i_pos hq h
      have e := Option.some.inj h
      subst e
      exact hRP
    · have h := i_neg hq h
      refine And.intro (fun hq => ?_) (fun hq => ?_)
      · have h := i_pos hq h
        refine And.intro (fun hq => ?_) (fun hq => ?_)
        · have h := i_pos hq h
          have ⟨_, hc, h⟩ := b_some h
          refine Exists.intro _ (Exists.intro _ (Exists.intro _ (And.intro (c11_ruleInForce F _ hc) (And.intro (by decide) (And.intro (fun q => absurd q (by decide)) ?_)))))
          have ⟨_, hc, h⟩ := b_some h
          refine Exists.intro _ (Exists.intro _ (Exists.intro _ (And.intro (c2_plain F _ _ hc) (And.intro (by decide) (And.intro (fun q => absurd q (by decide)) ?_)))))
          have ⟨_, hc, h⟩ := b_some h
          refine Exists.intro _ (Exists.intro _ (Exists.intro _ (And.intro (c9_turn F _ _ _ hc) (And.intro (by decide) (And.intro (fun q => absurd q (by decide)) ?_)))))
          have e := Option.some.inj h
          subst e
          exact hRP
        · have h := i_neg hq h
          have e := Option.some.inj h
          subst e
          exact hRP
      · have h := i_neg hq h
        have e := Option.some.inj h
        subst e
        exact hRP
set_option maxHeartbeats 4000000 in
set_option maxRecDepth 20000 in
theorem c11_beside {E : EnvT} (F : Nat) (i1 : Int32) (σ : Mem) {r : Int32 × Mem} (h : m11_beside F i1 σ = some r) : MetAt E 8 92 [(.ref 0, 11), (.int i1, 0)] σ (some (.int r.1, 0)) r.2 := by
  unfold m11_beside at h
  refine MetAt_of (tb := tb_92) (by decide) tbok_92 (Nat.le_of_ble_eq_true rfl) (fun a q => by cases q; trivial) (fun G hG => ?_)
  have hRP : (fun (a : Option AV) (τ : Mem) => a.map (conc E) = ((some (.int r.1, 0)) : Option AV).map (conc E) ∧ τ = r.2) (some (.int r.1, 0)) r.2 := ⟨rfl, rfl⟩
  change G 0 [some (.ref 0, 11), some (.int i1, 0)] [] σ
  refine bk hG (cut := []) 400 ?_
  refine And.intro (fun hq => ?_) (fun hq => ?_)
  · have h := i_pos hq h
    have e := Option.some.inj h
    subst e
    exact hRP
  · have h := i_neg hq h
    refine And.intro (fun hq => ?_) (fun hq => ?_)
    · have h := i_pos hq h
      have e := Option.some.inj h
      subst e
      exact hRP
    · have h := i_neg hq h
      refine And.intro (fun hq => ?_) (fun hq => ?_)
      · have h := i_pos hq h
        refine And.intro (fun hq => ?_) (fun hq => ?_)
        · have h := i_pos hq h
          have ⟨_, hc, h⟩ := b_some h
          refine Exists.intro _ (Exists.intro _ (Exists.intro _ (And.intro (c0_bestBeside F _ _ _ hc) (And.intro (by decide) (And.intro (fun q => absurd q (by decide)) ?_)))))
          have e := Option.some.inj h
          subst e
          exact hRP
        · have h := i_neg hq h
          have e := Option.some.inj h
          subst e
          exact hRP
      · have h := i_neg hq h
        have e := Option.some.inj h
        subst e
        exact hRP
set_option maxHeartbeats 4000000 in
set_option maxRecDepth 20000 in
theorem c11_worth {E : EnvT} (F : Nat) (i1 : Int32) (i2 : Int32) (σ : Mem) {r : Int32 × Mem} (h : m11_worth F i1 i2 σ = some r) : MetAt E 5 93 [(.ref 0, 11), (.int i1, 0), (.int i2, 0)] σ (some (.int r.1, 0)) r.2 := by
  unfold m11_worth at h
  refine MetAt_of (tb := tb_93) (by decide) tbok_93 (Nat.le_of_ble_eq_true rfl) (fun a q => by cases q; trivial) (fun G hG => ?_)
  have hRP : (fun (a : Option AV) (τ : Mem) => a.map (conc E) = ((some (.int r.1, 0)) : Option AV).map (conc E) ∧ τ = r.2) (some (.int r.1, 0)) r.2 := ⟨rfl, rfl⟩
  change G 0 [some (.ref 0, 11), some (.int i1, 0), some (.int i2, 0), none] [] σ
  refine bk hG (cut := []) 400 ?_
  have ⟨_, hc, h⟩ := b_some h
  refine Exists.intro _ (Exists.intro _ (Exists.intro _ (And.intro (c11_hasSmith F _ _ hc) (And.intro (by decide) (And.intro (fun q => absurd q (by decide)) ?_)))))
  refine And.intro (fun hq => ?_) (fun hq => ?_)
  · have h := i_pos hq h
    have e := Option.some.inj h
    subst e
    exact hRP
  · have h := i_neg hq h
    refine And.intro (fun hq => ?_) (fun hq => ?_)
    · have h := i_pos hq h
      have e := Option.some.inj h
      subst e
      exact hRP
    · have h := i_neg hq h
      refine And.intro (fun hq => ?_) (fun hq => ?_)
      · have h := i_pos hq h
        have ⟨_, hc, h⟩ := b_some h
        refine Exists.intro _ (Exists.intro _ (Exists.intro _ (And.intro (c11_ruleInForce F _ hc) (And.intro (by decide) (And.intro (fun q => absurd q (by decide)) ?_)))))
        have ⟨_, hc, h⟩ := b_some h
        refine Exists.intro _ (Exists.intro _ (Exists.intro _ (And.intro (c2_plain F _ _ hc) (And.intro (by decide) (And.intro (fun q => absurd q (by decide)) ?_)))))
        have ⟨_, hc, h⟩ := b_some h
        refine Exists.intro _ (Exists.intro _ (Exists.intro _ (And.intro (c6_blowsOfOthers F _ _ _ _ hc) (And.intro (by decide) (And.intro (fun q => absurd q (by decide)) ?_)))))
        have ⟨_, hc, h⟩ := b_some h
        refine Exists.intro _ (Exists.intro _ (Exists.intro _ (And.intro (c6_blowsOfOthers F _ _ _ _ hc) (And.intro (by decide) (And.intro (fun q => absurd q (by decide)) ?_)))))
        have e := Option.some.inj h
        subst e
        exact hRP
      · have h := i_neg hq h
        have e := Option.some.inj h
        subst e
        exact hRP
set_option maxHeartbeats 4000000 in
set_option maxRecDepth 20000 in
theorem c11_splits {E : EnvT} (F : Nat) (i1 : Int32) (i2 : Int32) (σ : Mem) {r : Int32 × Mem} (h : m11_splits F i1 i2 σ = some r) : MetAt E 5 94 [(.ref 0, 11), (.int i1, 0), (.int i2, 0)] σ (some (.int r.1, 0)) r.2 := by
  unfold m11_splits at h
  refine MetAt_of (tb := tb_94) (by decide) tbok_94 (Nat.le_of_ble_eq_true rfl) (fun a q => by cases q; trivial) (fun G hG => ?_)
  have hRP : (fun (a : Option AV) (τ : Mem) => a.map (conc E) = ((some (.int r.1, 0)) : Option AV).map (conc E) ∧ τ = r.2) (some (.int r.1, 0)) r.2 := ⟨rfl, rfl⟩
  change G 0 [some (.ref 0, 11), some (.int i1, 0), some (.int i2, 0)] [] σ
  refine bk hG (cut := []) 400 ?_
  have ⟨_, hc, h⟩ := b_some h
  refine Exists.intro _ (Exists.intro _ (Exists.intro _ (And.intro (c11_hasPart F _ _ hc) (And.intro (by decide) (And.intro (fun q => absurd q (by decide)) ?_)))))
  refine And.intro (fun hq => ?_) (fun hq => ?_)
  · have h := i_pos hq h
    have e := Option.some.inj h
    subst e
    exact hRP
  · have h := i_neg hq h
    refine And.intro (fun hq => ?_) (fun hq => ?_)
    · have h := i_pos hq h
      have e := Option.some.inj h
      subst e
      exact hRP
    · have h := i_neg hq h
      refine And.intro (fun hq => ?_) (fun hq => ?_)
      · have h := i_pos hq h
        have ⟨hg, h⟩ := g_gd h
        refine And.intro (inB_of hg) ?_
        refine And.intro (fun hq => ?_) (fun hq => ?_)
        · have h := i_pos hq h
          have ⟨_, hc, h⟩ := b_some h
          refine Exists.intro _ (Exists.intro _ (Exists.intro _ (And.intro (c11_ruleInForce F _ hc) (And.intro (by decide) (And.intro (fun q => absurd q (by decide)) ?_)))))
          have ⟨_, hc, h⟩ := b_some h
          refine Exists.intro _ (Exists.intro _ (Exists.intro _ (And.intro (c2_plain F _ _ hc) (And.intro (by decide) (And.intro (fun q => absurd q (by decide)) ?_)))))
          have ⟨_, hc, h⟩ := b_some h
          refine Exists.intro _ (Exists.intro _ (Exists.intro _ (And.intro (c6_splitting F _ _ _ _ hc) (And.intro (by decide) (And.intro (fun q => absurd q (by decide)) ?_)))))
          have e := Option.some.inj h
          subst e
          exact hRP
        · have h := i_neg hq h
          have e := Option.some.inj h
          subst e
          exact hRP
      · have h := i_neg hq h
        have e := Option.some.inj h
        subst e
        exact hRP
set_option maxHeartbeats 4000000 in
set_option maxRecDepth 20000 in
theorem c11_order {E : EnvT} (F : Nat) (i1 : Int32) (i2 : Int32) (σ : Mem) {r : Int32 × Mem} (h : m11_order F i1 i2 σ = some r) : MetAt E 13 95 [(.ref 0, 11), (.int i1, 0), (.int i2, 0)] σ (some (.int r.1, 0)) r.2 := by
  unfold m11_order at h
  refine MetAt_of (tb := tb_95) (by decide) tbok_95 (Nat.le_of_ble_eq_true rfl) (fun a q => by cases q; trivial) (fun G hG => ?_)
  have hRP : (fun (a : Option AV) (τ : Mem) => a.map (conc E) = ((some (.int r.1, 0)) : Option AV).map (conc E) ∧ τ = r.2) (some (.int r.1, 0)) r.2 := ⟨rfl, rfl⟩
  change G 0 [some (.ref 0, 11), some (.int i1, 0), some (.int i2, 0)] [] σ
  refine bk hG (cut := []) 400 ?_
  have ⟨_, hc, h⟩ := b_some h
  refine Exists.intro _ (Exists.intro _ (Exists.intro _ (And.intro (c11_hasSmith F _ _ hc) (And.intro (by decide) (And.intro (fun q => absurd q (by decide)) ?_)))))
  refine And.intro (fun hq => ?_) (fun hq => ?_)
  · have h := i_pos hq h
    have e := Option.some.inj h
    subst e
    exact hRP
  · have h := i_neg hq h
    refine And.intro (fun hq => ?_) (fun hq => ?_)
    · have h := i_pos hq h
      have e := Option.some.inj h
      subst e
      exact hRP
    · have h := i_neg hq h
      refine And.intro (fun hq => ?_) (fun hq => ?_)
      · have h := i_pos hq h
        have ⟨_, hc, h⟩ := b_some h
        refine Exists.intro _ (Exists.intro _ (Exists.intro _ (And.intro (c7_toDo F _ _ _ _ hc) (And.intro (by decide) (And.intro (fun q => absurd q (by decide)) ?_)))))
        refine And.intro (fun hq => ?_) (fun hq => ?_)
        · have h := i_pos hq h
          have ⟨_, hc, h⟩ := b_some h
          refine Exists.intro _ (Exists.intro _ (Exists.intro _ (And.intro (c11_ruleInForce F _ hc) (And.intro (by decide) (And.intro (fun q => absurd q (by decide)) ?_)))))
          have ⟨_, hc, h⟩ := b_some h
          refine Exists.intro _ (Exists.intro _ (Exists.intro _ (And.intro (c2_plain F _ _ hc) (And.intro (by decide) (And.intro (fun q => absurd q (by decide)) ?_)))))
          have ⟨_, hc, h⟩ := b_some h
          refine Exists.intro _ (Exists.intro _ (Exists.intro _ (And.intro (c0_bestOrder F _ _ _ _ hc) (And.intro (by decide) (And.intro (fun q => absurd q (by decide)) ?_)))))
          have e := Option.some.inj h
          subst e
          exact hRP
        · have h := i_neg hq h
          have e := Option.some.inj h
          subst e
          exact hRP
      · have h := i_neg hq h
        have e := Option.some.inj h
        subst e
        exact hRP
set_option maxHeartbeats 4000000 in
set_option maxRecDepth 20000 in
theorem c11_second {E : EnvT} (F : Nat)  (σ : Mem) {r : Int32 × Mem} (h : m11_second F σ = some r) : MetAt E 5 96 [(.ref 0, 11)] σ (some (.int r.1, 0)) r.2 := by
  unfold m11_second at h
  refine MetAt_of (tb := tb_96) (by decide) tbok_96 (Nat.le_of_ble_eq_true rfl) (fun a q => by cases q; trivial) (fun G hG => ?_)
  have hRP : (fun (a : Option AV) (τ : Mem) => a.map (conc E) = ((some (.int r.1, 0)) : Option AV).map (conc E) ∧ τ = r.2) (some (.int r.1, 0)) r.2 := ⟨rfl, rfl⟩
  change G 0 [some (.ref 0, 11), none] [] σ
  refine bk hG (cut := []) 400 ?_
  refine And.intro (fun hq => ?_) (fun hq => ?_)
  · have h := i_pos hq h
    have e := Option.some.inj h
    subst e
    exact hRP
  · have h := i_neg hq h
    have ⟨_, hc, h⟩ := b_some h
    refine Exists.intro _ (Exists.intro _ (Exists.intro _ (And.intro (c11_ruleInForce F _ hc) (And.intro (by decide) (And.intro (fun q => absurd q (by decide)) ?_)))))
    have ⟨_, hc, h⟩ := b_some h
    refine Exists.intro _ (Exists.intro _ (Exists.intro _ (And.intro (c2_plain F _ _ hc) (And.intro (by decide) (And.intro (fun q => absurd q (by decide)) ?_)))))
    have ⟨_, hc, h⟩ := b_some h
    refine Exists.intro _ (Exists.intro _ (Exists.intro _ (And.intro (c6_untilAll F _ _ hc) (And.intro (by decide) (And.intro (fun q => absurd q (by decide)) ?_)))))
    refine And.intro (Or.inr rfl) ?_
    have ⟨_, hc, h⟩ := b_some h
    refine Exists.intro _ (Exists.intro _ (Exists.intro _ (And.intro (c6_untilAll F _ _ hc) (And.intro (by decide) (And.intro (fun q => absurd q (by decide)) ?_)))))
    have e := Option.some.inj h
    subst e
    exact hRP
set_option maxHeartbeats 4000000 in
set_option maxRecDepth 20000 in
theorem c11_seed {E : EnvT} (F : Nat) (i1 : Int32) (σ : Mem) {r : Int32 × Mem} (h : m11_seed F i1 σ = some r) : MetAt E 0 97 [(.ref 0, 11), (.int i1, 0)] σ (some (.int r.1, 0)) r.2 := by
  unfold m11_seed at h
  refine MetAt_of (tb := tb_97) (by decide) tbok_97 (Nat.le_of_ble_eq_true rfl) (fun a q => by cases q; trivial) (fun G hG => ?_)
  have hRP : (fun (a : Option AV) (τ : Mem) => a.map (conc E) = ((some (.int r.1, 0)) : Option AV).map (conc E) ∧ τ = r.2) (some (.int r.1, 0)) r.2 := ⟨rfl, rfl⟩
  change G 0 [some (.ref 0, 11), some (.int i1, 0), none] [] σ
  refine bk hG (cut := []) 400 ?_
  refine And.intro (fun hq => ?_) (fun hq => ?_)
  · have h := i_pos hq h
    have e := Option.some.inj h
    subst e
    exact hRP
  · have h := i_neg hq h
    have e := Option.some.inj h
    subst e
    exact hRP
set_option maxHeartbeats 4000000 in
set_option maxRecDepth 20000 in
theorem c11_days {E : EnvT} (F : Nat) (i1 : Int32) (i2 : Int32) (i3 : Int32) (i4 : Int32) (σ : Mem) {r : Int32 × Mem} (h : m11_days F i1 i2 i3 i4 σ = some r) : MetAt E 5 98 [(.ref 0, 11), (.int i1, 0), (.int i2, 0), (.int i3, 0), (.int i4, 0)] σ (some (.int r.1, 0)) r.2 := by
  unfold m11_days at h
  refine MetAt_of (tb := tb_98) (by decide) tbok_98 (Nat.le_of_ble_eq_true rfl) (fun a q => by cases q; trivial) (fun G hG => ?_)
  have hRP : (fun (a : Option AV) (τ : Mem) => a.map (conc E) = ((some (.int r.1, 0)) : Option AV).map (conc E) ∧ τ = r.2) (some (.int r.1, 0)) r.2 := ⟨rfl, rfl⟩
  change G 0 [some (.ref 0, 11), some (.int i1, 0), some (.int i2, 0), some (.int i3, 0), some (.int i4, 0)] [] σ
  refine bk hG (cut := []) 400 ?_
  refine And.intro (fun hq => ?_) (fun hq => ?_)
  · have h := i_pos hq h
    have e := Option.some.inj h
    subst e
    exact hRP
  · have h := i_neg hq h
    refine And.intro (fun hq => ?_) (fun hq => ?_)
    · have h := i_pos hq h
      have e := Option.some.inj h
      subst e
      exact hRP
    · have h := i_neg hq h
      refine And.intro (fun hq => ?_) (fun hq => ?_)
      · have h := i_pos hq h
        have e := Option.some.inj h
        subst e
        exact hRP
      · have h := i_neg hq h
        refine And.intro (fun hq => ?_) (fun hq => ?_)
        · have h := i_pos hq h
          have e := Option.some.inj h
          subst e
          exact hRP
        · have h := i_neg hq h
          refine And.intro (fun hq => ?_) (fun hq => ?_)
          · have h := i_pos hq h
            refine And.intro (fun hq => ?_) (fun hq => ?_)
            · have h := i_pos hq h
              have e := Option.some.inj h
              subst e
              exact hRP
            · have h := i_neg hq h
              refine And.intro (fun hq => ?_) (fun hq => ?_)
              · have h := i_pos hq h
                have e := Option.some.inj h
                subst e
                exact hRP
              · have h := i_neg hq h
                refine And.intro (fun hq => ?_) (fun hq => ?_)
                · have h := i_pos hq h
                  have e := Option.some.inj h
                  subst e
                  exact hRP
                · have h := i_neg hq h
                  refine And.intro (fun hq => ?_) (fun hq => ?_)
                  · have h := i_pos hq h
                    have ⟨_, hc, h⟩ := b_some h
                    refine Exists.intro _ (Exists.intro _ (Exists.intro _ (And.intro (c11_ruleInForce F _ hc) (And.intro (by decide) (And.intro (fun q => absurd q (by decide)) ?_)))))
                    have ⟨_, hc, h⟩ := b_some h
                    refine Exists.intro _ (Exists.intro _ (Exists.intro _ (And.intro (c2_plain F _ _ hc) (And.intro (by decide) (And.intro (fun q => absurd q (by decide)) ?_)))))
                    have ⟨_, hc, h⟩ := b_some h
                    refine Exists.intro _ (Exists.intro _ (Exists.intro _ (And.intro (c6_live F _ _ _ _ _ hc) (And.intro (by decide) (And.intro (fun q => absurd q (by decide)) ?_)))))
                    refine And.intro (fun hq => ?_) (fun hq => ?_)
                    · have h := i_pos hq h
                      have e := Option.some.inj h
                      subst e
                      exact hRP
                    · have h := i_neg hq h
                      have e := Option.some.inj h
                      subst e
                      exact hRP
                  · have h := i_neg hq h
                    have e := Option.some.inj h
                    subst e
                    exact hRP
          · have h := i_neg hq h
            have e := Option.some.inj h
            subst e
            exact hRP
set_option maxHeartbeats 4000000 in
set_option maxRecDepth 20000 in
theorem c11_note {E : EnvT} (F : Nat) (i1 : Int32) (i2 : Int32) (i3 : Int32) (σ : Mem) {r : Int32 × Mem} (h : m11_note F i1 i2 i3 σ = some r) : MetAt E 1 99 [(.ref 0, 11), (.int i1, 0), (.int i2, 0), (.int i3, 0)] σ (some (.int r.1, 0)) r.2 := by
  unfold m11_note at h
  refine MetAt_of (tb := tb_99) (by decide) tbok_99 (Nat.le_of_ble_eq_true rfl) (fun a q => by cases q; trivial) (fun G hG => ?_)
  have hRP : (fun (a : Option AV) (τ : Mem) => a.map (conc E) = ((some (.int r.1, 0)) : Option AV).map (conc E) ∧ τ = r.2) (some (.int r.1, 0)) r.2 := ⟨rfl, rfl⟩
  change G 0 [some (.ref 0, 11), some (.int i1, 0), some (.int i2, 0), some (.int i3, 0)] [] σ
  refine bk hG (cut := []) 400 ?_
  refine And.intro (fun hq => ?_) (fun hq => ?_)
  · have h := i_pos hq h
    have e := Option.some.inj h
    subst e
    exact hRP
  · have h := i_neg hq h
    have ⟨_, hc, h⟩ := b_some h
    refine Exists.intro _ (Exists.intro _ (Exists.intro _ (And.intro (c11_hasPart F _ _ hc) (And.intro (by decide) (And.intro (fun q => absurd q (by decide)) ?_)))))
    refine And.intro (fun hq => ?_) (fun hq => ?_)
    · have h := i_pos hq h
      have e := Option.some.inj h
      subst e
      exact hRP
    · have h := i_neg hq h
      refine And.intro (fun hq => ?_) (fun hq => ?_)
      · have h := i_pos hq h
        have e := Option.some.inj h
        subst e
        exact hRP
      · have h := i_neg hq h
        refine And.intro (fun hq => ?_) (fun hq => ?_)
        · have h := i_pos hq h
          have e := Option.some.inj h
          subst e
          exact hRP
        · have h := i_neg hq h
          refine And.intro (fun hq => ?_) (fun hq => ?_)
          · have h := i_pos hq h
            have e := Option.some.inj h
            subst e
            exact hRP
          · have h := i_neg hq h
            refine And.intro (fun hq => ?_) (fun hq => ?_)
            · have h := i_pos hq h
              refine And.intro (fun hq => ?_) (fun hq => ?_)
              · have h := i_pos hq h
                have ⟨_, hc, h⟩ := b_some h
                refine Exists.intro _ (Exists.intro _ (Exists.intro _ (And.intro (c3_add F _ _ _ _ _ hc) (And.intro (by decide) (And.intro (fun q => absurd q (by decide)) ?_)))))
                have e := Option.some.inj h
                subst e
                exact hRP
              · have h := i_neg hq h
                have e := Option.some.inj h
                subst e
                exact hRP
            · have h := i_neg hq h
              have e := Option.some.inj h
              subst e
              exact hRP
set_option maxHeartbeats 4000000 in
set_option maxRecDepth 20000 in
theorem c11_ruled {E : EnvT} (F : Nat) (i1 : Int32) (σ : Mem) {r : Int32 × Mem} (h : m11_ruled F i1 σ = some r) : MetAt E 6 100 [(.ref 0, 11), (.int i1, 0)] σ (some (.int r.1, 0)) r.2 := by
  unfold m11_ruled at h
  refine MetAt_of (tb := tb_100) (by decide) tbok_100 (Nat.le_of_ble_eq_true rfl) (fun a q => by cases q; trivial) (fun G hG => ?_)
  have hRP : (fun (a : Option AV) (τ : Mem) => a.map (conc E) = ((some (.int r.1, 0)) : Option AV).map (conc E) ∧ τ = r.2) (some (.int r.1, 0)) r.2 := ⟨rfl, rfl⟩
  change G 0 [some (.ref 0, 11), some (.int i1, 0)] [] σ
  refine bk hG (cut := []) 400 ?_
  refine And.intro (fun hq => ?_) (fun hq => ?_)
  · have h := i_pos hq h
    have e := Option.some.inj h
    subst e
    exact hRP
  · have h := i_neg hq h
    refine And.intro (fun hq => ?_) (fun hq => ?_)
    · have h := i_pos hq h
      have e := Option.some.inj h
      subst e
      exact hRP
    · have h := i_neg hq h
      refine And.intro (fun hq => ?_) (fun hq => ?_)
      · have h := i_pos hq h
        have ⟨_, hc, h⟩ := b_some h
        refine Exists.intro _ (Exists.intro _ (Exists.intro _ (And.intro (c1_weigh F _ _ _ _ hc) (And.intro (by decide) (And.intro (fun q => absurd q (by decide)) ?_)))))
        refine And.intro (fun hq => ?_) (fun hq => ?_)
        · have h := i_pos hq h
          have e := Option.some.inj h
          subst e
          exact hRP
        · have h := i_neg hq h
          refine And.intro (fun hq => ?_) (fun hq => ?_)
          · have h := i_pos hq h
            have e := Option.some.inj h
            subst e
            exact hRP
          · have h := i_neg hq h
            have e := Option.some.inj h
            subst e
            exact hRP
      · have h := i_neg hq h
        have e := Option.some.inj h
        subst e
        exact hRP
set_option maxHeartbeats 4000000 in
set_option maxRecDepth 20000 in
theorem c11_look {E : EnvT} (F : Nat) (i1 : Int32) (i2 : Int32) (σ : Mem) {r : Int32 × Mem} (h : m11_look F i1 i2 σ = some r) : MetAt E 6 101 [(.ref 0, 11), (.int i1, 0), (.int i2, 0)] σ (some (.int r.1, 0)) r.2 := by
  unfold m11_look at h
  refine MetAt_of (tb := tb_101) (by decide) tbok_101 (Nat.le_of_ble_eq_true rfl) (fun a q => by cases q; trivial) (fun G hG => ?_)
  have hRP : (fun (a : Option AV) (τ : Mem) => a.map (conc E) = ((some (.int r.1, 0)) : Option AV).map (conc E) ∧ τ = r.2) (some (.int r.1, 0)) r.2 := ⟨rfl, rfl⟩
  change G 0 [some (.ref 0, 11), some (.int i1, 0), some (.int i2, 0), none] [] σ
  refine bk hG (cut := []) 400 ?_
  refine And.intro (fun hq => ?_) (fun hq => ?_)
  · have h := i_pos hq h
    have e := Option.some.inj h
    subst e
    exact hRP
  · have h := i_neg hq h
    refine And.intro (fun hq => ?_) (fun hq => ?_)
    · have h := i_pos hq h
      have e := Option.some.inj h
      subst e
      exact hRP
    · have h := i_neg hq h
      refine And.intro (fun hq => ?_) (fun hq => ?_)
      · have h := i_pos hq h
        have e := Option.some.inj h
        subst e
        exact hRP
      · have h := i_neg hq h
        refine And.intro (fun hq => ?_) (fun hq => ?_)
        · have h := i_pos hq h
          have e := Option.some.inj h
          subst e
          exact hRP
        · have h := i_neg hq h
          refine And.intro (fun hq => ?_) (fun hq => ?_)
          · have h := i_pos hq h
            have ⟨_, hc, h⟩ := b_some h
            refine Exists.intro _ (Exists.intro _ (Exists.intro _ (And.intro (c1_weigh F _ _ _ _ hc) (And.intro (by decide) (And.intro (fun q => absurd q (by decide)) ?_)))))
            refine And.intro (fun hq => ?_) (fun hq => ?_)
            · have h := i_pos hq h
              have e := Option.some.inj h
              subst e
              exact hRP
            · have h := i_neg hq h
              have ⟨_, hc, h⟩ := b_some h
              refine Exists.intro _ (Exists.intro _ (Exists.intro _ (And.intro (c1_partingPart F _ hc) (And.intro (by decide) (And.intro (fun q => absurd q (by decide)) ?_)))))
              refine And.intro (fun hq => ?_) (fun hq => ?_)
              · have h := i_pos hq h
                have e := Option.some.inj h
                subst e
                exact hRP
              · have h := i_neg hq h
                have ⟨_, hc, h⟩ := b_some h
                refine Exists.intro _ (Exists.intro _ (Exists.intro _ (And.intro (c1_mostAlike F _ _ hc) (And.intro (by decide) (And.intro (fun q => absurd q (by decide)) ?_)))))
                have e := Option.some.inj h
                subst e
                exact hRP
          · have h := i_neg hq h
            have e := Option.some.inj h
            subst e
            exact hRP
