set_option maxHeartbeats 4000000 in
set_option maxRecDepth 20000 in
theorem c11_image {E : EnvT} (F : Nat) (i1 : Int32) (σ : Mem) {r : Int32 × Mem} (h : m11_image F i1 σ = some r) : MetAt E 2 102 [(.ref 0, 11), (.int i1, 0)] σ (some (.int r.1, 0)) r.2 := by
  unfold m11_image at h
  refine MetAt_of (tb := tb_102) (by decide) tbok_102 (Nat.le_of_ble_eq_true rfl) (fun a q => by cases q; trivial) (fun G hG => ?_)
  have hRP : (fun (a : Option AV) (τ : Mem) => a.map (conc E) = ((some (.int r.1, 0)) : Option AV).map (conc E) ∧ τ = r.2) (some (.int r.1, 0)) r.2 := ⟨rfl, rfl⟩
  change G 0 [some (.ref 0, 11), some (.int i1, 0)] [] σ
  refine bk hG (cut := []) 400 ?_
  refine And.intro (fun hq => ?_) (fun hq => ?_)
  · have h := i_pos hq h
    have e := Option.some.inj h
    subst e
    exact hRP
  · have h := i_neg hq h
    refine And.intro (fun hq => ?_) (fun hq => ?_)
    · have h := i_pos hq h
      have ⟨hg, h⟩ := g_gd h
      refine And.intro (inB_of hg) ?_
      have ⟨_, hc, h⟩ := b_some h
      refine Exists.intro _ (Exists.intro _ (Exists.intro _ (And.intro (c10_copyFrom F _ _ _ hc) (And.intro (by decide) (And.intro (fun q => absurd q (by decide)) ?_)))))
      have ⟨hg, h⟩ := g_gd h
      refine And.intro (inB_of hg) ?_
      have e := Option.some.inj h
      subst e
      exact hRP
    · have h := i_neg hq h
      have e := Option.some.inj h
      subst e
      exact hRP
set_option maxHeartbeats 4000000 in
set_option maxRecDepth 20000 in
theorem c11_back {E : EnvT} (F : Nat) (i1 : Int32) (σ : Mem) {r : Int32 × Mem} (h : m11_back F i1 σ = some r) : MetAt E 2 103 [(.ref 0, 11), (.int i1, 0)] σ (some (.int r.1, 0)) r.2 := by
  unfold m11_back at h
  refine MetAt_of (tb := tb_103) (by decide) tbok_103 (Nat.le_of_ble_eq_true rfl) (fun a q => by cases q; trivial) (fun G hG => ?_)
  have hRP : (fun (a : Option AV) (τ : Mem) => a.map (conc E) = ((some (.int r.1, 0)) : Option AV).map (conc E) ∧ τ = r.2) (some (.int r.1, 0)) r.2 := ⟨rfl, rfl⟩
  change G 0 [some (.ref 0, 11), some (.int i1, 0)] [] σ
  refine bk hG (cut := []) 400 ?_
  refine And.intro (fun hq => ?_) (fun hq => ?_)
  · have h := i_pos hq h
    have e := Option.some.inj h
    subst e
    exact hRP
  · have h := i_neg hq h
    refine And.intro (fun hq => ?_) (fun hq => ?_)
    · have h := i_pos hq h
      have e := Option.some.inj h
      subst e
      exact hRP
    · have h := i_neg hq h
      have ⟨hg, h⟩ := g_gd h
      refine And.intro (inB_of hg) ?_
      refine And.intro (fun hq => ?_) (fun hq => ?_)
      · have h := i_pos hq h
        have e := Option.some.inj h
        subst e
        exact hRP
      · have h := i_neg hq h
        have ⟨hg, h⟩ := g_gd h
        refine And.intro (inB_of hg) ?_
        have ⟨_, hc, h⟩ := b_some h
        refine Exists.intro _ (Exists.intro _ (Exists.intro _ (And.intro (c10_copyFrom F _ _ _ hc) (And.intro (by decide) (And.intro (fun q => absurd q (by decide)) ?_)))))
        have e := Option.some.inj h
        subst e
        exact hRP
set_option maxHeartbeats 4000000 in
set_option maxRecDepth 20000 in
theorem c12_in {E : EnvT} (F : Nat) (j0 : Int64) (j1 : Int64) (j2 : Int64) (σ : Mem) {r : Int32} (h : m12_in F j0 j1 j2 σ = some r) : MetAt E 0 111 [(.long j0, 0), (.long j1, 0), (.long j2, 0)] σ (some (.int r, 0)) σ := by
  unfold m12_in at h
  refine MetAt_of (tb := tb_111) (by decide) tbok_111 (Nat.le_of_ble_eq_true rfl) (fun a q => by cases q; trivial) (fun G hG => ?_)
  have hRP : (fun (a : Option AV) (τ : Mem) => a.map (conc E) = ((some (.int r, 0)) : Option AV).map (conc E) ∧ τ = σ) (some (.int r, 0)) σ := ⟨rfl, rfl⟩
  change G 0 [some (.long j0, 0), none, some (.long j1, 0), none, some (.long j2, 0), none] [] σ
  refine bk hG (cut := []) 400 ?_
  refine And.intro (fun hq => ?_) (fun hq => ?_)
  · have h := i_pos hq h
    have e := Option.some.inj h
    subst e
    exact And.intro (Or.inl rfl) hRP
  · have h := i_neg hq h
    refine And.intro (fun hq => ?_) (fun hq => ?_)
    · have h := i_pos hq h
      have e := Option.some.inj h
      subst e
      exact And.intro (Or.inl rfl) hRP
    · have h := i_neg hq h
      have e := Option.some.inj h
      subst e
      exact And.intro (Or.inr rfl) hRP
set_option maxHeartbeats 4000000 in
set_option maxRecDepth 20000 in
theorem c12_isOf {E : EnvT} (F : Nat) (i0 : Int32) (i1 : Int32) (σ : Mem) {r : Int32} (h : m12_isOf F i0 i1 σ = some r) : MetAt E 0 112 [(.int i0, 0), (.int i1, 0)] σ (some (.int r, 0)) σ := by
  unfold m12_isOf at h
  refine MetAt_of (tb := tb_112) (by decide) tbok_112 (Nat.le_of_ble_eq_true rfl) (fun a q => by cases q; trivial) (fun G hG => ?_)
  have hRP : (fun (a : Option AV) (τ : Mem) => a.map (conc E) = ((some (.int r, 0)) : Option AV).map (conc E) ∧ τ = σ) (some (.int r, 0)) σ := ⟨rfl, rfl⟩
  change G 0 [some (.int i0, 0), some (.int i1, 0)] [] σ
  refine bk hG (cut := []) 400 ?_
  refine And.intro (fun hq => ?_) (fun hq => ?_)
  · have h := i_pos hq h
    have e := Option.some.inj h
    subst e
    exact And.intro (Or.inr rfl) hRP
  · have h := i_neg hq h
    have e := Option.some.inj h
    subst e
    exact And.intro (Or.inl rfl) hRP
set_option maxHeartbeats 4000000 in
set_option maxRecDepth 20000 in
theorem w12_four_3 {E : EnvT} {G : GT} {RP : Option AV → Mem → Prop} {i1 : Int32} (hG : Cl E 113 0 tb_113 G RP) {r : Mem} (hRP : RP none r) (F : Nat) : ∀ (n : Nat) (x2 : Int32) (σ : Mem), m12_four_3 F i1 n x2 σ = some r → G 3 [some (.ref 483, 12), some (.int i1, 0), some (.int x2, 0)] [] σ := by
  intro n
  induction n with
  | zero => intro x2 σ h; unfold m12_four_3 at h; cases h
  | succ n ih =>
    intro x2 σ h
    refine bk hG (cut := [3]) 400 ?_
    unfold m12_four_3 at h
    refine And.intro (fun hq => ?_) (fun hq => ?_)
    · have h := i_pos hq h
      have e := Option.some.inj h
      subst e
      exact hRP
    · have h := i_neg hq h
      have ⟨hg, h⟩ := g_gd h
      refine And.intro (inB_of hg) ?_
      exact ih _ _ h
set_option maxHeartbeats 4000000 in
set_option maxRecDepth 20000 in
theorem c12_four {E : EnvT} (F : Nat) (i1 : Int32) (σ : Mem) {r : Mem} (h : m12_four F i1 σ = some r) : MetAt E 0 113 [(.ref 483, 12), (.int i1, 0)] σ none r := by
  unfold m12_four at h
  refine MetAt_of (tb := tb_113) (by decide) tbok_113 (Nat.le_of_ble_eq_true rfl) (fun a q => by cases q) (fun G hG => ?_)
  have hRP : (fun (a : Option AV) (τ : Mem) => a.map (conc E) = (none : Option AV).map (conc E) ∧ τ = r) none r := ⟨rfl, rfl⟩
  change G 0 [some (.ref 483, 12), some (.int i1, 0), none] [] σ
  refine bk hG (cut := [3]) 400 ?_
  exact w12_four_3 hG hRP F F _ _ h
set_option maxHeartbeats 4000000 in
set_option maxRecDepth 20000 in
theorem c12_feed {E : EnvT} (F : Nat) (i1 : Int32) (i2 : Int32) (i3 : Int32) (i4 : Int32) (i5 : Int32) (σ : Mem) {r : Int32 × Mem} (h : m12_feed F i1 i2 i3 i4 i5 σ = some r) : MetAt E 1 114 [(.ref 483, 12), (.int i1, 0), (.int i2, 0), (.int i3, 0), (.int i4, 0), (.int i5, 0)] σ (some (.int r.1, 0)) r.2 := by
  unfold m12_feed at h
  refine MetAt_of (tb := tb_114) (by decide) tbok_114 (Nat.le_of_ble_eq_true rfl) (fun a q => by cases q; trivial) (fun G hG => ?_)
  have hRP : (fun (a : Option AV) (τ : Mem) => a.map (conc E) = ((some (.int r.1, 0)) : Option AV).map (conc E) ∧ τ = r.2) (some (.int r.1, 0)) r.2 := ⟨rfl, rfl⟩
  change G 0 [some (.ref 483, 12), some (.int i1, 0), some (.int i2, 0), some (.int i3, 0), some (.int i4, 0), some (.int i5, 0)] [] σ
  refine bk hG (cut := []) 400 ?_
  refine And.intro (fun hq => ?_) (fun hq => ?_)
  · have h := i_pos hq h
    have ⟨_, hc, h⟩ := b_some h
    refine Exists.intro _ (Exists.intro _ (Exists.intro _ (And.intro (c12_four F _ _ hc) (And.intro (by decide) (And.intro (fun q => absurd q (by decide)) ?_)))))
    have ⟨_, hc, h⟩ := b_some h
    refine Exists.intro _ (Exists.intro _ (Exists.intro _ (And.intro (c12_four F _ _ hc) (And.intro (by decide) (And.intro (fun q => absurd q (by decide)) ?_)))))
    have ⟨_, hc, h⟩ := b_some h
    refine Exists.intro _ (Exists.intro _ (Exists.intro _ (And.intro (c12_four F _ _ hc) (And.intro (by decide) (And.intro (fun q => absurd q (by decide)) ?_)))))
    have ⟨_, hc, h⟩ := b_some h
    refine Exists.intro _ (Exists.intro _ (Exists.intro _ (And.intro (c12_four F _ _ hc) (And.intro (by decide) (And.intro (fun q => absurd q (by decide)) ?_)))))
    have ⟨_, hc, h⟩ := b_some h
    refine Exists.intro _ (Exists.intro _ (Exists.intro _ (And.intro (c12_four F _ _ hc) (And.intro (by decide) (And.intro (fun q => absurd q (by decide)) ?_)))))
    have e := Option.some.inj h
    subst e
    exact hRP
  · have h := i_neg hq h
    have e := Option.some.inj h
    subst e
    exact hRP
set_option maxHeartbeats 4000000 in
set_option maxRecDepth 20000 in
theorem c12_end {E : EnvT} (F : Nat) (i1 : Int32) (σ : Mem) {r : Int32 × Mem} (h : m12_end F i1 σ = some r) : MetAt E 0 115 [(.ref 483, 12), (.int i1, 0)] σ (some (.int r.1, 0)) r.2 := by
  unfold m12_end at h
  refine MetAt_of (tb := tb_115) (by decide) tbok_115 (Nat.le_of_ble_eq_true rfl) (fun a q => by cases q; trivial) (fun G hG => ?_)
  have hRP : (fun (a : Option AV) (τ : Mem) => a.map (conc E) = ((some (.int r.1, 0)) : Option AV).map (conc E) ∧ τ = r.2) (some (.int r.1, 0)) r.2 := ⟨rfl, rfl⟩
  change G 0 [some (.ref 483, 12), some (.int i1, 0)] [] σ
  refine bk hG (cut := []) 400 ?_
  refine And.intro (fun hq => ?_) (fun hq => ?_)
  · have h := i_pos hq h
    have e := Option.some.inj h
    subst e
    exact hRP
  · have h := i_neg hq h
    refine And.intro (fun hq => ?_) (fun hq => ?_)
    · have h := i_pos hq h
      have e := Option.some.inj h
      subst e
      exact hRP
    · have h := i_neg hq h
      have e := Option.some.inj h
      subst e
      exact hRP
set_option maxHeartbeats 4000000 in
set_option maxRecDepth 20000 in
theorem c12_fails {E : EnvT} (F : Nat) (i1 : Int32) (i2 : Int32) (σ : Mem) {r : Int32 × Mem} (h : m12_fails F i1 i2 σ = some r) : MetAt E 0 116 [(.ref 483, 12), (.int i1, 0), (.int i2, 0)] σ (some (.int r.1, 0)) r.2 := by
  unfold m12_fails at h
  refine MetAt_of (tb := tb_116) (by decide) tbok_116 (Nat.le_of_ble_eq_true rfl) (fun a q => by cases q; trivial) (fun G hG => ?_)
  have hRP : (fun (a : Option AV) (τ : Mem) => a.map (conc E) = ((some (.int r.1, 0)) : Option AV).map (conc E) ∧ τ = r.2) (some (.int r.1, 0)) r.2 := ⟨rfl, rfl⟩
  change G 0 [some (.ref 483, 12), some (.int i1, 0), some (.int i2, 0)] [] σ
  refine bk hG (cut := []) 400 ?_
  refine And.intro (fun hq => ?_) (fun hq => ?_)
  · have h := i_pos hq h
    have e := Option.some.inj h
    subst e
    exact And.intro (Or.inl rfl) hRP
  · have h := i_neg hq h
    have e := Option.some.inj h
    subst e
    exact And.intro (Or.inl rfl) hRP
set_option maxHeartbeats 4000000 in
set_option maxRecDepth 20000 in
theorem w12_see_38 {E : EnvT} {G : GT} {RP : Option AV → Mem → Prop} (hG : Cl E 117 0 tb_117 G RP) {r : Int32 × Mem} (hRP : RP (some (.int r.1, 0)) r.2) (F : Nat) : ∀ (σ : Mem), m12_see_38 F σ = some r → G 38 [some (.ref 483, 12)] [] σ := by
  intro σ h
  refine bk hG (cut := [0, 38]) 400 ?_
  unfold m12_see_38 at h
  refine And.intro (fun hq => ?_) (fun hq => ?_)
  · have h := i_pos hq h
    have e := Option.some.inj h
    subst e
    exact hRP
  · have h := i_neg hq h
    have ⟨hg, h⟩ := g_gd h
    refine And.intro (inB_of hg) ?_
    have e := Option.some.inj h
    subst e
    exact hRP
set_option maxHeartbeats 4000000 in
set_option maxRecDepth 20000 in
theorem w12_see_0 {E : EnvT} {G : GT} {RP : Option AV → Mem → Prop} (hG : Cl E 117 0 tb_117 G RP) {r : Int32 × Mem} (hRP : RP (some (.int r.1, 0)) r.2) (F : Nat) : ∀ (n : Nat) (σ : Mem), m12_see_0 F n σ = some r → G 0 [some (.ref 483, 12)] [] σ := by
  intro n
  induction n with
  | zero => intro σ h; unfold m12_see_0 at h; cases h
  | succ n ih =>
    intro σ h
    refine bk hG (cut := [0, 38]) 400 ?_
    unfold m12_see_0 at h
    refine And.intro (fun hq => ?_) (fun hq => ?_)
    · have h := i_pos hq h
      exact w12_see_38 hG hRP F _ h
    · have h := i_neg hq h
      have ⟨hg, h⟩ := g_gd h
      refine And.intro (inB_of hg) ?_
      refine And.intro (fun hq => ?_) (fun hq => ?_)
      · have h := i_pos hq h
        exact ih _ h
      · have h := i_neg hq h
        exact w12_see_38 hG hRP F _ h
set_option maxHeartbeats 4000000 in
set_option maxRecDepth 20000 in
theorem c12_see {E : EnvT} (F : Nat)  (σ : Mem) {r : Int32 × Mem} (h : m12_see F σ = some r) : MetAt E 0 117 [(.ref 483, 12)] σ (some (.int r.1, 0)) r.2 := by
  unfold m12_see at h
  refine MetAt_of (tb := tb_117) (by decide) tbok_117 (Nat.le_of_ble_eq_true rfl) (fun a q => by cases q; trivial) (fun G hG => ?_)
  have hRP : (fun (a : Option AV) (τ : Mem) => a.map (conc E) = ((some (.int r.1, 0)) : Option AV).map (conc E) ∧ τ = r.2) (some (.int r.1, 0)) r.2 := ⟨rfl, rfl⟩
  change G 0 [some (.ref 483, 12)] [] σ
  exact w12_see_0 hG hRP F F _ h
set_option maxHeartbeats 4000000 in
set_option maxRecDepth 20000 in
theorem c12_isDigit {E : EnvT} (F : Nat) (i1 : Int32) (σ : Mem) {r : Int32} (h : m12_isDigit F i1 σ = some r) : MetAt E 0 118 [(.ref 483, 12), (.int i1, 0)] σ (some (.int r, 0)) σ := by
  unfold m12_isDigit at h
  refine MetAt_of (tb := tb_118) (by decide) tbok_118 (Nat.le_of_ble_eq_true rfl) (fun a q => by cases q; trivial) (fun G hG => ?_)
  have hRP : (fun (a : Option AV) (τ : Mem) => a.map (conc E) = ((some (.int r, 0)) : Option AV).map (conc E) ∧ τ = σ) (some (.int r, 0)) σ := ⟨rfl, rfl⟩
  change G 0 [some (.ref 483, 12), some (.int i1, 0)] [] σ
  refine bk hG (cut := []) 400 ?_
  refine And.intro (fun hq => ?_) (fun hq => ?_)
  · have h := i_pos hq h
    have e := Option.some.inj h
    subst e
    exact And.intro (Or.inl rfl) hRP
  · have h := i_neg hq h
    have ⟨hg, h⟩ := g_gd h
    refine And.intro (inB_of hg) ?_
    refine And.intro (fun hq => ?_) (fun hq => ?_)
    · have h := i_pos hq h
      have e := Option.some.inj h
      subst e
      exact And.intro (Or.inl rfl) hRP
    · have h := i_neg hq h
      have ⟨hg, h⟩ := g_gd h
      refine And.intro (inB_of hg) ?_
      refine And.intro (fun hq => ?_) (fun hq => ?_)
      · have h := i_pos hq h
        have e := Option.some.inj h
        subst e
        exact And.intro (Or.inl rfl) hRP
      · have h := i_neg hq h
        have e := Option.some.inj h
        subst e
        exact And.intro (Or.inr rfl) hRP
set_option maxHeartbeats 4000000 in
set_option maxRecDepth 20000 in
theorem c12_isLetter {E : EnvT} (F : Nat) (i1 : Int32) (σ : Mem) {r : Int32} (h : m12_isLetter F i1 σ = some r) : MetAt E 0 119 [(.ref 483, 12), (.int i1, 0)] σ (some (.int r, 0)) σ := by
  unfold m12_isLetter at h
  refine MetAt_of (tb := tb_119) (by decide) tbok_119 (Nat.le_of_ble_eq_true rfl) (fun a q => by cases q; trivial) (fun G hG => ?_)
  have hRP : (fun (a : Option AV) (τ : Mem) => a.map (conc E) = ((some (.int r, 0)) : Option AV).map (conc E) ∧ τ = σ) (some (.int r, 0)) σ := ⟨rfl, rfl⟩
  change G 0 [some (.ref 483, 12), some (.int i1, 0)] [] σ
  refine bk hG (cut := []) 400 ?_
  refine And.intro (fun hq => ?_) (fun hq => ?_)
  · have h := i_pos hq h
    have e := Option.some.inj h
    subst e
    exact And.intro (Or.inl rfl) hRP
  · have h := i_neg hq h
    have ⟨hg, h⟩ := g_gd h
    refine And.intro (inB_of hg) ?_
    refine And.intro (fun hq => ?_) (fun hq => ?_)
    · have h := i_pos hq h
      have e := Option.some.inj h
      subst e
      exact And.intro (Or.inl rfl) hRP
    · have h := i_neg hq h
      have ⟨hg, h⟩ := g_gd h
      refine And.intro (inB_of hg) ?_
      refine And.intro (fun hq => ?_) (fun hq => ?_)
      · have h := i_pos hq h
        have e := Option.some.inj h
        subst e
        exact And.intro (Or.inl rfl) hRP
      · have h := i_neg hq h
        have e := Option.some.inj h
        subst e
        exact And.intro (Or.inr rfl) hRP
set_option maxHeartbeats 4000000 in
set_option maxRecDepth 20000 in
theorem w12_isWord_10 {E : EnvT} {G : GT} {RP : Option AV → Mem → Prop} {j1 : Int64} (hG : Cl E 120 1 tb_120 G RP) {r : Int32 × Mem} (hRP : RP (some (.int r.1, 0)) r.2) (F : Nat) : ∀ (n : Nat) (x3 : Int64) (x5 : Int32) (d2 : Option AV) (d4 : Option AV) (σ : Mem), m12_isWord_10 F j1 n x3 x5 σ = some r → G 10 [some (.ref 483, 12), some (.long j1, 0), d2, some (.long x3, 0), d4, some (.int x5, 0)] [] σ := by
  intro n
  induction n with
  | zero => intro x3 x5 d2 d4 σ h; unfold m12_isWord_10 at h; cases h
  | succ n ih =>
    intro x3 x5 d2 d4 σ h
    refine bk hG (cut := [10]) 400 ?_
    unfold m12_isWord_10 at h
    have ⟨_, hc, h⟩ := b_some h
    refine Exists.intro _ (Exists.intro _ (Exists.intro _ (And.intro (c12_isLetter F _ _ hc) (And.intro (by decide) (And.intro (fun q => absurd q (by decide)) ?_)))))
    refine And.intro (fun hq => ?_) (fun hq => ?_)
    · have h := i_pos hq h
      refine And.intro (fun hq => ?_) (fun hq => ?_)
      · have h := i_pos hq h
        have e := Option.some.inj h
        subst e
        exact And.intro (Or.inl rfl) hRP
      · have h := i_neg hq h
        refine And.intro (fun hq => ?_) (fun hq => ?_)
        · have h := i_pos hq h
          have e := Option.some.inj h
          subst e
          exact And.intro (Or.inl rfl) hRP
        · have h := i_neg hq h
          refine And.intro (fun hq => ?_) (fun hq => ?_)
          · have h := i_pos hq h
            have e := Option.some.inj h
            subst e
            exact And.intro (Or.inr rfl) hRP
          · have h := i_neg hq h
            have e := Option.some.inj h
            subst e
            exact And.intro (Or.inl rfl) hRP
    · have h := i_neg hq h
      refine And.intro (fun hq => ?_) (fun hq => ?_)
      · have h := i_pos hq h
        exact ih _ _ _ _ _ h
      · have h := i_neg hq h
        have ⟨hg, h⟩ := g_gd h
        refine And.intro (inB_of hg) ?_
        exact ih _ _ _ _ _ h
set_option maxHeartbeats 4000000 in
set_option maxRecDepth 20000 in
theorem c12_isWord {E : EnvT} (F : Nat) (j1 : Int64) (σ : Mem) {r : Int32 × Mem} (h : m12_isWord F j1 σ = some r) : MetAt E 1 120 [(.ref 483, 12), (.long j1, 0)] σ (some (.int r.1, 0)) r.2 := by
  unfold m12_isWord at h
  refine MetAt_of (tb := tb_120) (by decide) tbok_120 (Nat.le_of_ble_eq_true rfl) (fun a q => by cases q; trivial) (fun G hG => ?_)
  have hRP : (fun (a : Option AV) (τ : Mem) => a.map (conc E) = ((some (.int r.1, 0)) : Option AV).map (conc E) ∧ τ = r.2) (some (.int r.1, 0)) r.2 := ⟨rfl, rfl⟩
  change G 0 [some (.ref 483, 12), some (.long j1, 0), none, none, none, none] [] σ
  refine bk hG (cut := [10]) 400 ?_
  have ⟨_, hc, h⟩ := b_some h
  refine Exists.intro _ (Exists.intro _ (Exists.intro _ (And.intro (c12_see F _ hc) (And.intro (by decide) (And.intro (fun q => absurd q (by decide)) ?_)))))
  exact w12_isWord_10 hG hRP F F _ _ _ _ _ h
set_option maxHeartbeats 4000000 in
set_option maxRecDepth 20000 in
theorem w12_passWord_0 {E : EnvT} {G : GT} {RP : Option AV → Mem → Prop} (hG : Cl E 121 1 tb_121 G RP) {r : Mem} (hRP : RP none r) (F : Nat) : ∀ (n : Nat) (σ : Mem), m12_passWord_0 F n σ = some r → G 0 [some (.ref 483, 12)] [] σ := by
  intro n
  induction n with
  | zero => intro σ h; unfold m12_passWord_0 at h; cases h
  | succ n ih =>
    intro σ h
    refine bk hG (cut := [0]) 400 ?_
    unfold m12_passWord_0 at h
    have ⟨_, hc, h⟩ := b_some h
    refine Exists.intro _ (Exists.intro _ (Exists.intro _ (And.intro (c12_isLetter F _ _ hc) (And.intro (by decide) (And.intro (fun q => absurd q (by decide)) ?_)))))
    refine And.intro (fun hq => ?_) (fun hq => ?_)
    · have h := i_pos hq h
      have e := Option.some.inj h
      subst e
      exact hRP
    · have h := i_neg hq h
      exact ih _ h
set_option maxHeartbeats 4000000 in
set_option maxRecDepth 20000 in
theorem c12_passWord {E : EnvT} (F : Nat)  (σ : Mem) {r : Mem} (h : m12_passWord F σ = some r) : MetAt E 1 121 [(.ref 483, 12)] σ none r := by
  unfold m12_passWord at h
  refine MetAt_of (tb := tb_121) (by decide) tbok_121 (Nat.le_of_ble_eq_true rfl) (fun a q => by cases q) (fun G hG => ?_)
  have hRP : (fun (a : Option AV) (τ : Mem) => a.map (conc E) = (none : Option AV).map (conc E) ∧ τ = r) none r := ⟨rfl, rfl⟩
  change G 0 [some (.ref 483, 12)] [] σ
  exact w12_passWord_0 hG hRP F F _ h
set_option maxHeartbeats 4000000 in
set_option maxRecDepth 20000 in
theorem c12_takesWord {E : EnvT} (F : Nat) (j1 : Int64) (σ : Mem) {r : Int32 × Mem} (h : m12_takesWord F j1 σ = some r) : MetAt E 2 122 [(.ref 483, 12), (.long j1, 0)] σ (some (.int r.1, 0)) r.2 := by
  unfold m12_takesWord at h
  refine MetAt_of (tb := tb_122) (by decide) tbok_122 (Nat.le_of_ble_eq_true rfl) (fun a q => by cases q; trivial) (fun G hG => ?_)
  have hRP : (fun (a : Option AV) (τ : Mem) => a.map (conc E) = ((some (.int r.1, 0)) : Option AV).map (conc E) ∧ τ = r.2) (some (.int r.1, 0)) r.2 := ⟨rfl, rfl⟩
  change G 0 [some (.ref 483, 12), some (.long j1, 0), none] [] σ
  refine bk hG (cut := []) 400 ?_
  have ⟨_, hc, h⟩ := b_some h
  refine Exists.intro _ (Exists.intro _ (Exists.intro _ (And.intro (c12_isWord F _ _ hc) (And.intro (by decide) (And.intro (fun q => absurd q (by decide)) ?_)))))
  refine And.intro (fun hq => ?_) (fun hq => ?_)
  · have h := i_pos hq h
    have e := Option.some.inj h
    subst e
    exact And.intro (Or.inl rfl) hRP
  · have h := i_neg hq h
    have ⟨_, hc, h⟩ := b_some h
    refine Exists.intro _ (Exists.intro _ (Exists.intro _ (And.intro (c12_passWord F _ hc) (And.intro (by decide) (And.intro (fun q => absurd q (by decide)) ?_)))))
    have e := Option.some.inj h
    subst e
    exact And.intro (Or.inr rfl) hRP
set_option maxHeartbeats 4000000 in
set_option maxRecDepth 20000 in
theorem w12_numberHere_117 {E : EnvT} {G : GT} {RP : Option AV → Mem → Prop} {i1 : Int32} {i2 : Int32} (hG : Cl E 123 1 tb_123 G RP) {r : Int32 × Mem} (hRP : RP (some (.int r.1, 0)) r.2) (F : Nat) : ∀ (x3 : Int32) (d4 : Option AV) (σ : Mem), m12_numberHere_117 F i1 i2 x3 σ = some r → G 117 [some (.ref 483, 12), some (.int i1, 0), some (.int i2, 0), some (.int x3, 0), d4] [] σ := by
  intro x3 d4 σ h
  refine bk hG (cut := [34, 117]) 400 ?_
  unfold m12_numberHere_117 at h
  have ⟨_, hc, h⟩ := b_some h
  refine Exists.intro _ (Exists.intro _ (Exists.intro _ (And.intro (c12_fails F _ _ _ hc) (And.intro (by decide) (And.intro (fun q => absurd q (by decide)) ?_)))))
  refine And.intro (fun hq => ?_) (fun hq => ?_)
  · have h := i_pos hq h
    have e := Option.some.inj h
    subst e
    exact And.intro (Or.inl rfl) hRP
  · have h := i_neg hq h
    have e := Option.some.inj h
    subst e
    exact And.intro (Or.inr rfl) hRP
set_option maxHeartbeats 4000000 in
set_option maxRecDepth 20000 in
theorem w12_numberHere_34 {E : EnvT} {G : GT} {RP : Option AV → Mem → Prop} {i1 : Int32} {i2 : Int32} (hG : Cl E 123 1 tb_123 G RP) {r : Int32 × Mem} (hRP : RP (some (.int r.1, 0)) r.2) (F : Nat) : ∀ (n : Nat) (x3 : Int32) (x4 : Int32) (σ : Mem), m12_numberHere_34 F i1 i2 n x3 x4 σ = some r → G 34 [some (.ref 483, 12), some (.int i1, 0), some (.int i2, 0), some (.int x3, 0), some (.int x4, 0)] [] σ := by
  intro n
  induction n with
  | zero => intro x3 x4 σ h; unfold m12_numberHere_34 at h; cases h
  | succ n ih =>
    intro x3 x4 σ h
    refine bk hG (cut := [34, 117]) 400 ?_
    unfold m12_numberHere_34 at h
    have ⟨_, hc, h⟩ := b_some h
    refine Exists.intro _ (Exists.intro _ (Exists.intro _ (And.intro (c12_isDigit F _ _ hc) (And.intro (by decide) (And.intro (fun q => absurd q (by decide)) ?_)))))
    refine And.intro (fun hq => ?_) (fun hq => ?_)
    · have h := i_pos hq h
      refine And.intro (fun hq => ?_) (fun hq => ?_)
      · have h := i_pos hq h
        exact w12_numberHere_117 hG hRP F _ _ _ h
      · have h := i_neg hq h
        have ⟨_, hc, h⟩ := b_some h
        refine Exists.intro _ (Exists.intro _ (Exists.intro _ (And.intro (c12_in F _ _ _ _ hc) (And.intro (by decide) ?_))))
        refine And.intro (fun hq => ?_) (fun hq => ?_)
        · have h := i_pos hq h
          exact w12_numberHere_117 hG hRP F _ _ _ h
        · have h := i_neg hq h
          have e := Option.some.inj h
          subst e
          exact And.intro (Or.inr rfl) hRP
    · have h := i_neg hq h
      refine And.intro (fun hq => ?_) (fun hq => ?_)
      · have h := i_pos hq h
        exact ih _ _ _ h
      · have h := i_neg hq h
        have ⟨hg, h⟩ := g_gd h
        refine And.intro (inB_of hg) ?_
        exact ih _ _ _ h
set_option maxHeartbeats 4000000 in
set_option maxRecDepth 20000 in
theorem c12_numberHere {E : EnvT} (F : Nat) (i1 : Int32) (i2 : Int32) (σ : Mem) {r : Int32 × Mem} (h : m12_numberHere F i1 i2 σ = some r) : MetAt E 1 123 [(.ref 483, 12), (.int i1, 0), (.int i2, 0)] σ (some (.int r.1, 0)) r.2 := by
  unfold m12_numberHere at h
  refine MetAt_of (tb := tb_123) (by decide) tbok_123 (Nat.le_of_ble_eq_true rfl) (fun a q => by cases q; trivial) (fun G hG => ?_)
  have hRP : (fun (a : Option AV) (τ : Mem) => a.map (conc E) = ((some (.int r.1, 0)) : Option AV).map (conc E) ∧ τ = r.2) (some (.int r.1, 0)) r.2 := ⟨rfl, rfl⟩
  change G 0 [some (.ref 483, 12), some (.int i1, 0), some (.int i2, 0), none, none] [] σ
  refine bk hG (cut := [34, 117]) 400 ?_
  have ⟨_, hc, h⟩ := b_some h
  refine Exists.intro _ (Exists.intro _ (Exists.intro _ (And.intro (c12_see F _ hc) (And.intro (by decide) (And.intro (fun q => absurd q (by decide)) ?_)))))
  have ⟨_, hc, h⟩ := b_some h
  refine Exists.intro _ (Exists.intro _ (Exists.intro _ (And.intro (c12_isDigit F _ _ hc) (And.intro (by decide) (And.intro (fun q => absurd q (by decide)) ?_)))))
  refine And.intro (fun hq => ?_) (fun hq => ?_)
  · have h := i_pos hq h
    have ⟨_, hc, h⟩ := b_some h
    refine Exists.intro _ (Exists.intro _ (Exists.intro _ (And.intro (c12_fails F _ _ _ hc) (And.intro (by decide) (And.intro (fun q => absurd q (by decide)) ?_)))))
    have ⟨hg, h⟩ := g_gd h
    have e := Option.some.inj h
    subst e
    exact And.intro (hg) hRP
  · have h := i_neg hq h
    exact w12_numberHere_34 hG hRP F F _ _ _ h
set_option maxHeartbeats 4000000 in
set_option maxRecDepth 20000 in
theorem c12_wordHere {E : EnvT} (F : Nat)  (σ : Mem) {r : Int32 × Mem} (h : m12_wordHere F σ = some r) : MetAt E 2 124 [(.ref 483, 12)] σ (some (.int r.1, 0)) r.2 := by
  unfold m12_wordHere at h
  refine MetAt_of (tb := tb_124) (by decide) tbok_124 (Nat.le_of_ble_eq_true rfl) (fun a q => by cases q; trivial) (fun G hG => ?_)
  have hRP : (fun (a : Option AV) (τ : Mem) => a.map (conc E) = ((some (.int r.1, 0)) : Option AV).map (conc E) ∧ τ = r.2) (some (.int r.1, 0)) r.2 := ⟨rfl, rfl⟩
  change G 0 [some (.ref 483, 12)] [] σ
  refine bk hG (cut := []) 400 ?_
  have ⟨_, hc, h⟩ := b_some h
  refine Exists.intro _ (Exists.intro _ (Exists.intro _ (And.intro (c12_isWord F _ _ hc) (And.intro (by decide) (And.intro (fun q => absurd q (by decide)) ?_)))))
  refine And.intro (fun hq => ?_) (fun hq => ?_)
  · have h := i_pos hq h
    have ⟨_, hc, h⟩ := b_some h
    refine Exists.intro _ (Exists.intro _ (Exists.intro _ (And.intro (c12_isWord F _ _ hc) (And.intro (by decide) (And.intro (fun q => absurd q (by decide)) ?_)))))
    refine And.intro (fun hq => ?_) (fun hq => ?_)
    · have h := i_pos hq h
      have ⟨_, hc, h⟩ := b_some h
      refine Exists.intro _ (Exists.intro _ (Exists.intro _ (And.intro (c12_isWord F _ _ hc) (And.intro (by decide) (And.intro (fun q => absurd q (by decide)) ?_)))))
      refine And.intro (fun hq => ?_) (fun hq => ?_)
      · have h := i_pos hq h
        have ⟨_, hc, h⟩ := b_some h
        refine Exists.intro _ (Exists.intro _ (Exists.intro _ (And.intro (c12_isWord F _ _ hc) (And.intro (by decide) (And.intro (fun q => absurd q (by decide)) ?_)))))
        refine And.intro (fun hq => ?_) (fun hq => ?_)
        · have h := i_pos hq h
          have ⟨_, hc, h⟩ := b_some h
          refine Exists.intro _ (Exists.intro _ (Exists.intro _ (And.intro (c12_isWord F _ _ hc) (And.intro (by decide) (And.intro (fun q => absurd q (by decide)) ?_)))))
          refine And.intro (fun hq => ?_) (fun hq => ?_)
          · have h := i_pos hq h
            have ⟨_, hc, h⟩ := b_some h
            refine Exists.intro _ (Exists.intro _ (Exists.intro _ (And.intro (c12_isWord F _ _ hc) (And.intro (by decide) (And.intro (fun q => absurd q (by decide)) ?_)))))
            refine And.intro (fun hq => ?_) (fun hq => ?_)
            · have h := i_pos hq h
              have ⟨_, hc, h⟩ := b_some h
              refine Exists.intro _ (Exists.intro _ (Exists.intro _ (And.intro (c12_isWord F _ _ hc) (And.intro (by decide) (And.intro (fun q => absurd q (by decide)) ?_)))))
              refine And.intro (fun hq => ?_) (fun hq => ?_)
              · have h := i_pos hq h
                have ⟨_, hc, h⟩ := b_some h
                refine Exists.intro _ (Exists.intro _ (Exists.intro _ (And.intro (c12_isWord F _ _ hc) (And.intro (by decide) (And.intro (fun q => absurd q (by decide)) ?_)))))
                refine And.intro (fun hq => ?_) (fun hq => ?_)
                · have h := i_pos hq h
                  have ⟨_, hc, h⟩ := b_some h
                  refine Exists.intro _ (Exists.intro _ (Exists.intro _ (And.intro (c12_isWord F _ _ hc) (And.intro (by decide) (And.intro (fun q => absurd q (by decide)) ?_)))))
                  refine And.intro (fun hq => ?_) (fun hq => ?_)
                  · have h := i_pos hq h
                    have ⟨_, hc, h⟩ := b_some h
                    refine Exists.intro _ (Exists.intro _ (Exists.intro _ (And.intro (c12_isWord F _ _ hc) (And.intro (by decide) (And.intro (fun q => absurd q (by decide)) ?_)))))
                    refine And.intro (fun hq => ?_) (fun hq => ?_)
                    · have h := i_pos hq h
                      have ⟨_, hc, h⟩ := b_some h
                      refine Exists.intro _ (Exists.intro _ (Exists.intro _ (And.intro (c12_isWord F _ _ hc) (And.intro (by decide) (And.intro (fun q => absurd q (by decide)) ?_)))))
                      refine And.intro (fun hq => ?_) (fun hq => ?_)
                      · have h := i_pos hq h
                        have ⟨_, hc, h⟩ := b_some h
                        refine Exists.intro _ (Exists.intro _ (Exists.intro _ (And.intro (c12_isWord F _ _ hc) (And.intro (by decide) (And.intro (fun q => absurd q (by decide)) ?_)))))
                        refine And.intro (fun hq => ?_) (fun hq => ?_)
                        · have h := i_pos hq h
                          have ⟨_, hc, h⟩ := b_some h
                          refine Exists.intro _ (Exists.intro _ (Exists.intro _ (And.intro (c12_isWord F _ _ hc) (And.intro (by decide) (And.intro (fun q => absurd q (by decide)) ?_)))))
                          refine And.intro (fun hq => ?_) (fun hq => ?_)
                          · have h := i_pos hq h
                            have e := Option.some.inj h
                            subst e
                            exact hRP
                          · have h := i_neg hq h
                            have e := Option.some.inj h
                            subst e
                            exact hRP
                        · have h := i_neg hq h
                          have e := Option.some.inj h
                          subst e
                          exact hRP
                      · have h := i_neg hq h
                        have e := Option.some.inj h
                        subst e
                        exact hRP
                    · have h := i_neg hq h
                      have e := Option.some.inj h
                      subst e
                      exact hRP
                  · have h := i_neg hq h
                    have e := Option.some.inj h
                    subst e
                    exact hRP
                · have h := i_neg hq h
                  have e := Option.some.inj h
                  subst e
                  exact hRP
              · have h := i_neg hq h
                have e := Option.some.inj h
                subst e
                exact hRP
            · have h := i_neg hq h
              have e := Option.some.inj h
              subst e
              exact hRP
          · have h := i_neg hq h
            have e := Option.some.inj h
            subst e
            exact hRP
        · have h := i_neg hq h
          have e := Option.some.inj h
          subst e
          exact hRP
      · have h := i_neg hq h
        have e := Option.some.inj h
        subst e
        exact hRP
    · have h := i_neg hq h
      have e := Option.some.inj h
      subst e
      exact hRP
  · have h := i_neg hq h
    have e := Option.some.inj h
    subst e
    exact hRP
set_option maxHeartbeats 4000000 in
set_option maxRecDepth 20000 in
theorem c12_puts {E : EnvT} (F : Nat) (i1 : Int32) (i2 : Int32) (σ : Mem) {r : Mem} (h : m12_puts F i1 i2 σ = some r) : MetAt E 0 125 [(.ref 483, 12), (.int i1, 0), (.int i2, 0)] σ none r := by
  unfold m12_puts at h
  refine MetAt_of (tb := tb_125) (by decide) tbok_125 (Nat.le_of_ble_eq_true rfl) (fun a q => by cases q) (fun G hG => ?_)
  have hRP : (fun (a : Option AV) (τ : Mem) => a.map (conc E) = (none : Option AV).map (conc E) ∧ τ = r) none r := ⟨rfl, rfl⟩
  change G 0 [some (.ref 483, 12), some (.int i1, 0), some (.int i2, 0)] [] σ
  refine bk hG (cut := []) 400 ?_
  have ⟨hg, h⟩ := g_gd h
  refine And.intro (inB_of hg) ?_
  have ⟨hg, h⟩ := g_gd h
  refine And.intro (inB_of hg) ?_
  have ⟨hg, h⟩ := g_gd h
  refine And.intro (inB_of hg) ?_
  have ⟨hg, h⟩ := g_gd h
  refine And.intro (inB_of hg) ?_
  have e := Option.some.inj h
  subst e
  exact hRP
set_option maxHeartbeats 4000000 in
set_option maxRecDepth 20000 in
theorem c12_makes {E : EnvT} (F : Nat) (i1 : Int32) (σ : Mem) {r : Int32 × Mem} (h : m12_makes F i1 σ = some r) : MetAt E 1 126 [(.ref 483, 12), (.int i1, 0)] σ (some (.int r.1, 0)) r.2 := by
  unfold m12_makes at h
  refine MetAt_of (tb := tb_126) (by decide) tbok_126 (Nat.le_of_ble_eq_true rfl) (fun a q => by cases q; trivial) (fun G hG => ?_)
  have hRP : (fun (a : Option AV) (τ : Mem) => a.map (conc E) = ((some (.int r.1, 0)) : Option AV).map (conc E) ∧ τ = r.2) (some (.int r.1, 0)) r.2 := ⟨rfl, rfl⟩
  change G 0 [some (.ref 483, 12), some (.int i1, 0)] [] σ
  refine bk hG (cut := []) 400 ?_
  refine And.intro (fun hq => ?_) (fun hq => ?_)
  · have h := i_pos hq h
    have ⟨_, hc, h⟩ := b_some h
    refine Exists.intro _ (Exists.intro _ (Exists.intro _ (And.intro (c12_fails F _ _ _ hc) (And.intro (by decide) (And.intro (fun q => absurd q (by decide)) ?_)))))
    have ⟨hg, h⟩ := g_gd h
    have e := Option.some.inj h
    subst e
    exact And.intro (hg) hRP
  · have h := i_neg hq h
    have e := Option.some.inj h
    subst e
    exact And.intro (Or.inr rfl) hRP
set_option maxHeartbeats 4000000 in
set_option maxRecDepth 20000 in
theorem c12_opens {E : EnvT} (F : Nat) (i1 : Int32) (σ : Mem) {r : Int32 × Mem} (h : m12_opens F i1 σ = some r) : MetAt E 1 127 [(.ref 483, 12), (.int i1, 0)] σ (some (.int r.1, 0)) r.2 := by
  unfold m12_opens at h
  refine MetAt_of (tb := tb_127) (by decide) tbok_127 (Nat.le_of_ble_eq_true rfl) (fun a q => by cases q; trivial) (fun G hG => ?_)
  have hRP : (fun (a : Option AV) (τ : Mem) => a.map (conc E) = ((some (.int r.1, 0)) : Option AV).map (conc E) ∧ τ = r.2) (some (.int r.1, 0)) r.2 := ⟨rfl, rfl⟩
  change G 0 [some (.ref 483, 12), some (.int i1, 0)] [] σ
  refine bk hG (cut := []) 400 ?_
  refine And.intro (fun hq => ?_) (fun hq => ?_)
  · have h := i_pos hq h
    have ⟨_, hc, h⟩ := b_some h
    refine Exists.intro _ (Exists.intro _ (Exists.intro _ (And.intro (c12_fails F _ _ _ hc) (And.intro (by decide) (And.intro (fun q => absurd q (by decide)) ?_)))))
    have ⟨hg, h⟩ := g_gd h
    have e := Option.some.inj h
    subst e
    exact And.intro (hg) hRP
  · have h := i_neg hq h
    have ⟨hg, h⟩ := g_gd h
    refine And.intro (inB_of hg) ?_
    have e := Option.some.inj h
    subst e
    exact And.intro (Or.inr rfl) hRP
set_option maxHeartbeats 4000000 in
set_option maxRecDepth 20000 in
theorem c12_strength {E : EnvT} (F : Nat) (i0 : Int32) (σ : Mem) {r : Int32} (h : m12_strength F i0 σ = some r) : MetAt E 0 128 [(.int i0, 0)] σ (some (.int r, 0)) σ := by
  unfold m12_strength at h
  refine MetAt_of (tb := tb_128) (by decide) tbok_128 (Nat.le_of_ble_eq_true rfl) (fun a q => by cases q; trivial) (fun G hG => ?_)
  have hRP : (fun (a : Option AV) (τ : Mem) => a.map (conc E) = ((some (.int r, 0)) : Option AV).map (conc E) ∧ τ = σ) (some (.int r, 0)) σ := ⟨rfl, rfl⟩
  change G 0 [some (.int i0, 0)] [] σ
  refine bk hG (cut := []) 400 ?_
  refine And.intro (fun hq => ?_) (fun hq => ?_)
  · have h := i_pos hq h
    have e := Option.some.inj h
    subst e
    exact hRP
  · have h := i_neg hq h
    refine And.intro (fun hq => ?_) (fun hq => ?_)
    · have h := i_pos hq h
      have e := Option.some.inj h
      subst e
      exact hRP
    · have h := i_neg hq h
      refine And.intro (fun hq => ?_) (fun hq => ?_)
      · have h := i_pos hq h
        have e := Option.some.inj h
        subst e
        exact hRP
      · have h := i_neg hq h
        have e := Option.some.inj h
        subst e
        exact hRP
set_option maxHeartbeats 4000000 in
set_option maxRecDepth 20000 in
theorem w12_settles_0 {E : EnvT} {G : GT} {RP : Option AV → Mem → Prop} {i1 : Int32} (hG : Cl E 129 1 tb_129 G RP) {r : Mem} (hRP : RP none r) (F : Nat) : ∀ (n : Nat) (σ : Mem), m12_settles_0 F i1 n σ = some r → G 0 [some (.ref 483, 12), some (.int i1, 0)] [] σ := by
  intro n
  induction n with
  | zero => intro σ h; unfold m12_settles_0 at h; cases h
  | succ n ih =>
    intro σ h
    refine bk hG (cut := [0]) 400 ?_
    unfold m12_settles_0 at h
    refine And.intro (fun hq => ?_) (fun hq => ?_)
    · have h := i_pos hq h
      have e := Option.some.inj h
      subst e
      exact hRP
    · have h := i_neg hq h
      have ⟨hg, h⟩ := g_gd h
      refine And.intro (inB_of hg) ?_
      have ⟨_, hc, h⟩ := b_some h
      refine Exists.intro _ (Exists.intro _ (Exists.intro _ (And.intro (c12_strength F _ _ hc) (And.intro (by decide) ?_))))
      refine And.intro (fun hq => ?_) (fun hq => ?_)
      · have h := i_pos hq h
        have e := Option.some.inj h
        subst e
        exact hRP
      · have h := i_neg hq h
        have ⟨hg, h⟩ := g_gd h
        refine And.intro (inB_of hg) ?_
        have ⟨_, hc, h⟩ := b_some h
        refine Exists.intro _ (Exists.intro _ (Exists.intro _ (And.intro (c12_puts F _ _ _ hc) (And.intro (by decide) (And.intro (fun q => absurd q (by decide)) ?_)))))
        have ⟨hg, h⟩ := g_gd h
        refine And.intro (inB_of hg) ?_
        refine And.intro (fun hq => ?_) (fun hq => ?_)
        · have h := i_pos hq h
          exact ih _ h
        · have h := i_neg hq h
          exact ih _ h
set_option maxHeartbeats 4000000 in
set_option maxRecDepth 20000 in
theorem c12_settles {E : EnvT} (F : Nat) (i1 : Int32) (σ : Mem) {r : Mem} (h : m12_settles F i1 σ = some r) : MetAt E 1 129 [(.ref 483, 12), (.int i1, 0)] σ none r := by
  unfold m12_settles at h
  refine MetAt_of (tb := tb_129) (by decide) tbok_129 (Nat.le_of_ble_eq_true rfl) (fun a q => by cases q) (fun G hG => ?_)
  have hRP : (fun (a : Option AV) (τ : Mem) => a.map (conc E) = (none : Option AV).map (conc E) ∧ τ = r) none r := ⟨rfl, rfl⟩
  change G 0 [some (.ref 483, 12), some (.int i1, 0)] [] σ
  exact w12_settles_0 hG hRP F F _ h
set_option maxHeartbeats 4000000 in
set_option maxRecDepth 20000 in
theorem c12_value {E : EnvT} (F : Nat)  (σ : Mem) {r : Int32 × Mem} (h : m12_value F σ = some r) : MetAt E 3 130 [(.ref 483, 12)] σ (some (.int r.1, 0)) r.2 := by
  unfold m12_value at h
  refine MetAt_of (tb := tb_130) (by decide) tbok_130 (Nat.le_of_ble_eq_true rfl) (fun a q => by cases q; trivial) (fun G hG => ?_)
  have hRP : (fun (a : Option AV) (τ : Mem) => a.map (conc E) = ((some (.int r.1, 0)) : Option AV).map (conc E) ∧ τ = r.2) (some (.int r.1, 0)) r.2 := ⟨rfl, rfl⟩
  change G 0 [some (.ref 483, 12), none, none] [] σ
  refine bk hG (cut := []) 400 ?_
  have ⟨_, hc, h⟩ := b_some h
  refine Exists.intro _ (Exists.intro _ (Exists.intro _ (And.intro (c12_see F _ hc) (And.intro (by decide) (And.intro (fun q => absurd q (by decide)) ?_)))))
  have ⟨_, hc, h⟩ := b_some h
  refine Exists.intro _ (Exists.intro _ (Exists.intro _ (And.intro (c12_isDigit F _ _ hc) (And.intro (by decide) (And.intro (fun q => absurd q (by decide)) ?_)))))
  refine And.intro (fun hq => ?_) (fun hq => ?_)
  · have h := i_pos hq h
    have ⟨_, hc, h⟩ := b_some h
    refine Exists.intro _ (Exists.intro _ (Exists.intro _ (And.intro (c12_wordHere F _ hc) (And.intro (by decide) (And.intro (fun q => absurd q (by decide)) ?_)))))
    refine And.intro (fun hq => ?_) (fun hq => ?_)
    · have h := i_pos hq h
      have ⟨_, hc, h⟩ := b_some h
      refine Exists.intro _ (Exists.intro _ (Exists.intro _ (And.intro (c12_makes F _ _ hc) (And.intro (by decide) (And.intro (fun q => absurd q (by decide)) ?_)))))
      refine And.intro (fun hq => ?_) (fun hq => ?_)
      · have h := i_pos hq h
        have e := Option.some.inj h
        subst e
        exact And.intro (Or.inl rfl) hRP
      · have h := i_neg hq h
        have ⟨_, hc, h⟩ := b_some h
        refine Exists.intro _ (Exists.intro _ (Exists.intro _ (And.intro (c12_passWord F _ hc) (And.intro (by decide) (And.intro (fun q => absurd q (by decide)) ?_)))))
        have ⟨_, hc, h⟩ := b_some h
        refine Exists.intro _ (Exists.intro _ (Exists.intro _ (And.intro (c12_puts F _ _ _ hc) (And.intro (by decide) (And.intro (fun q => absurd q (by decide)) ?_)))))
        have e := Option.some.inj h
        subst e
        exact And.intro (Or.inr rfl) hRP
    · have h := i_neg hq h
      have ⟨_, hc, h⟩ := b_some h
      refine Exists.intro _ (Exists.intro _ (Exists.intro _ (And.intro (c12_fails F _ _ _ hc) (And.intro (by decide) (And.intro (fun q => absurd q (by decide)) ?_)))))
      have ⟨hg, h⟩ := g_gd h
      have e := Option.some.inj h
      subst e
      exact And.intro (hg) hRP
  · have h := i_neg hq h
    have ⟨_, hc, h⟩ := b_some h
    refine Exists.intro _ (Exists.intro _ (Exists.intro _ (And.intro (c12_numberHere F _ _ _ hc) (And.intro (by decide) (And.intro (fun q => absurd q (by decide)) ?_)))))
    refine And.intro (fun hq => ?_) (fun hq => ?_)
    · have h := i_pos hq h
      have e := Option.some.inj h
      subst e
      exact And.intro (Or.inl rfl) hRP
    · have h := i_neg hq h
      have ⟨_, hc, h⟩ := b_some h
      refine Exists.intro _ (Exists.intro _ (Exists.intro _ (And.intro (c12_makes F _ _ hc) (And.intro (by decide) (And.intro (fun q => absurd q (by decide)) ?_)))))
      refine And.intro (fun hq => ?_) (fun hq => ?_)
      · have h := i_pos hq h
        have e := Option.some.inj h
        subst e
        exact And.intro (Or.inl rfl) hRP
      · have h := i_neg hq h
        have ⟨_, hc, h⟩ := b_some h
        refine Exists.intro _ (Exists.intro _ (Exists.intro _ (And.intro (c12_puts F _ _ _ hc) (And.intro (by decide) (And.intro (fun q => absurd q (by decide)) ?_)))))
        have e := Option.some.inj h
        subst e
        exact And.intro (Or.inr rfl) hRP
set_option maxHeartbeats 4000000 in
set_option maxRecDepth 20000 in
theorem w12_term_74 {E : EnvT} {G : GT} {RP : Option AV → Mem → Prop} (hG : Cl E 131 4 tb_131 G RP) {r : Int32 × Mem} (hRP : RP (some (.int r.1, 0)) r.2) (F : Nat) {k9 : Mem → Option (Int32 × Mem)} (hk9 : ∀ (d1 : Option AV) (σ : Mem), k9 σ = some r → G 9 [some (.ref 483, 12), d1] [] σ) : ∀ (s0 : Int32) (d1 : Option AV) (σ : Mem), m12_term_74 F k9 s0 σ = some r → G 74 [some (.ref 483, 12), d1] [(.int s0, 0)] σ := by
  intro s0 d1 σ h
  refine bk hG (cut := [9, 36, 74]) 400 ?_
  unfold m12_term_74 at h
  have ⟨_, hc, h⟩ := b_some h
  refine Exists.intro _ (Exists.intro _ (Exists.intro _ (And.intro (c12_value F _ hc) (And.intro (by decide) (And.intro (fun q => absurd q (by decide)) ?_)))))
  refine And.intro (fun hq => ?_) (fun hq => ?_)
  · have h := i_pos hq h
    have e := Option.some.inj h
    subst e
    exact And.intro (Or.inl rfl) hRP
  · have h := i_neg hq h
    have ⟨_, hc, h⟩ := b_some h
    refine Exists.intro _ (Exists.intro _ (Exists.intro _ (And.intro (c12_puts F _ _ _ hc) (And.intro (by decide) (And.intro (fun q => absurd q (by decide)) ?_)))))
    exact hk9 _ _ h
set_option maxHeartbeats 4000000 in
set_option maxRecDepth 20000 in
theorem w12_term_36 {E : EnvT} {G : GT} {RP : Option AV → Mem → Prop} (hG : Cl E 131 4 tb_131 G RP) {r : Int32 × Mem} (hRP : RP (some (.int r.1, 0)) r.2) (F : Nat) {k9 : Mem → Option (Int32 × Mem)} (hk9 : ∀ (d1 : Option AV) (σ : Mem), k9 σ = some r → G 9 [some (.ref 483, 12), d1] [] σ) : ∀ (d1 : Option AV) (σ : Mem), m12_term_36 F k9 σ = some r → G 36 [some (.ref 483, 12), d1] [] σ := by
  intro d1 σ h
  refine bk hG (cut := [9, 36, 74]) 400 ?_
  unfold m12_term_36 at h
  have ⟨hg, h⟩ := g_gd h
  refine And.intro (inB_of hg) ?_
  refine And.intro (fun hq => ?_) (fun hq => ?_)
  · have h := i_pos hq h
    exact w12_term_74 hG hRP F (fun _ _ h => hk9 _ _ h) _ _ _ h
  · have h := i_neg hq h
    have ⟨hg, h⟩ := g_gd h
    refine And.intro (inB_of hg) ?_
    refine And.intro (fun hq => ?_) (fun hq => ?_)
    · have h := i_pos hq h
      exact w12_term_74 hG hRP F (fun _ _ h => hk9 _ _ h) _ _ _ h
    · have h := i_neg hq h
      exact w12_term_74 hG hRP F (fun _ _ h => hk9 _ _ h) _ _ _ h
set_option maxHeartbeats 4000000 in
set_option maxRecDepth 20000 in
theorem w12_term_9 {E : EnvT} {G : GT} {RP : Option AV → Mem → Prop} (hG : Cl E 131 4 tb_131 G RP) {r : Int32 × Mem} (hRP : RP (some (.int r.1, 0)) r.2) (F : Nat) : ∀ (n : Nat) (d1 : Option AV) (σ : Mem), m12_term_9 F n σ = some r → G 9 [some (.ref 483, 12), d1] [] σ := by
  intro n
  induction n with
  | zero => intro d1 σ h; unfold m12_term_9 at h; cases h
  | succ n ih =>
    intro d1 σ h
    refine bk hG (cut := [9, 36, 74]) 400 ?_
    unfold m12_term_9 at h
    have ⟨_, hc, h⟩ := b_some h
    refine Exists.intro _ (Exists.intro _ (Exists.intro _ (And.intro (c12_see F _ hc) (And.intro (by decide) (And.intro (fun q => absurd q (by decide)) ?_)))))
    refine And.intro (fun hq => ?_) (fun hq => ?_)
    · have h := i_pos hq h
      exact w12_term_36 hG hRP F (fun _ _ h => ih _ _ h) _ _ h
    · have h := i_neg hq h
      have ⟨_, hc, h⟩ := b_some h
      refine Exists.intro _ (Exists.intro _ (Exists.intro _ (And.intro (c12_see F _ hc) (And.intro (by decide) (And.intro (fun q => absurd q (by decide)) ?_)))))
      refine And.intro (fun hq => ?_) (fun hq => ?_)
      · have h := i_pos hq h
        exact w12_term_36 hG hRP F (fun _ _ h => ih _ _ h) _ _ h
      · have h := i_neg hq h
        have ⟨_, hc, h⟩ := b_some h
        refine Exists.intro _ (Exists.intro _ (Exists.intro _ (And.intro (c12_see F _ hc) (And.intro (by decide) (And.intro (fun q => absurd q (by decide)) ?_)))))
        refine And.intro (fun hq => ?_) (fun hq => ?_)
        · have h := i_pos hq h
          exact w12_term_36 hG hRP F (fun _ _ h => ih _ _ h) _ _ h
        · have h := i_neg hq h
          have e := Option.some.inj h
          subst e
          exact And.intro (Or.inr rfl) hRP
set_option maxHeartbeats 4000000 in
set_option maxRecDepth 20000 in
theorem c12_term {E : EnvT} (F : Nat)  (σ : Mem) {r : Int32 × Mem} (h : m12_term F σ = some r) : MetAt E 4 131 [(.ref 483, 12)] σ (some (.int r.1, 0)) r.2 := by
  unfold m12_term at h
  refine MetAt_of (tb := tb_131) (by decide) tbok_131 (Nat.le_of_ble_eq_true rfl) (fun a q => by cases q; trivial) (fun G hG => ?_)
  have hRP : (fun (a : Option AV) (τ : Mem) => a.map (conc E) = ((some (.int r.1, 0)) : Option AV).map (conc E) ∧ τ = r.2) (some (.int r.1, 0)) r.2 := ⟨rfl, rfl⟩
  change G 0 [some (.ref 483, 12), none] [] σ
  refine bk hG (cut := [9, 36, 74]) 400 ?_
  have ⟨_, hc, h⟩ := b_some h
  refine Exists.intro _ (Exists.intro _ (Exists.intro _ (And.intro (c12_value F _ hc) (And.intro (by decide) (And.intro (fun q => absurd q (by decide)) ?_)))))
  refine And.intro (fun hq => ?_) (fun hq => ?_)
  · have h := i_pos hq h
    have e := Option.some.inj h
    subst e
    exact And.intro (Or.inl rfl) hRP
  · have h := i_neg hq h
    exact w12_term_9 hG hRP F F _ _ h
set_option maxHeartbeats 4000000 in
set_option maxRecDepth 20000 in
theorem w12_sum_46 {E : EnvT} {G : GT} {RP : Option AV → Mem → Prop} (hG : Cl E 132 5 tb_132 G RP) {r : Int32 × Mem} (hRP : RP (some (.int r.1, 0)) r.2) (F : Nat) {k9 : Mem → Option (Int32 × Mem)} (hk9 : ∀ (d1 : Option AV) (σ : Mem), k9 σ = some r → G 9 [some (.ref 483, 12), d1] [] σ) : ∀ (s0 : Int32) (d1 : Option AV) (σ : Mem), m12_sum_46 F k9 s0 σ = some r → G 46 [some (.ref 483, 12), d1] [(.int s0, 0)] σ := by
  intro s0 d1 σ h
  refine bk hG (cut := [9, 27, 46]) 400 ?_
  unfold m12_sum_46 at h
  have ⟨_, hc, h⟩ := b_some h
  refine Exists.intro _ (Exists.intro _ (Exists.intro _ (And.intro (c12_term F _ hc) (And.intro (by decide) (And.intro (fun q => absurd q (by decide)) ?_)))))
  refine And.intro (fun hq => ?_) (fun hq => ?_)
  · have h := i_pos hq h
    have e := Option.some.inj h
    subst e
    exact And.intro (Or.inl rfl) hRP
  · have h := i_neg hq h
    have ⟨_, hc, h⟩ := b_some h
    refine Exists.intro _ (Exists.intro _ (Exists.intro _ (And.intro (c12_puts F _ _ _ hc) (And.intro (by decide) (And.intro (fun q => absurd q (by decide)) ?_)))))
    exact hk9 _ _ h
set_option maxHeartbeats 4000000 in
set_option maxRecDepth 20000 in
theorem w12_sum_27 {E : EnvT} {G : GT} {RP : Option AV → Mem → Prop} (hG : Cl E 132 5 tb_132 G RP) {r : Int32 × Mem} (hRP : RP (some (.int r.1, 0)) r.2) (F : Nat) {k9 : Mem → Option (Int32 × Mem)} (hk9 : ∀ (d1 : Option AV) (σ : Mem), k9 σ = some r → G 9 [some (.ref 483, 12), d1] [] σ) : ∀ (d1 : Option AV) (σ : Mem), m12_sum_27 F k9 σ = some r → G 27 [some (.ref 483, 12), d1] [] σ := by
  intro d1 σ h
  refine bk hG (cut := [9, 27, 46]) 400 ?_
  unfold m12_sum_27 at h
  have ⟨hg, h⟩ := g_gd h
  refine And.intro (inB_of hg) ?_
  refine And.intro (fun hq => ?_) (fun hq => ?_)
  · have h := i_pos hq h
    exact w12_sum_46 hG hRP F (fun _ _ h => hk9 _ _ h) _ _ _ h
  · have h := i_neg hq h
    exact w12_sum_46 hG hRP F (fun _ _ h => hk9 _ _ h) _ _ _ h
set_option maxHeartbeats 4000000 in
set_option maxRecDepth 20000 in
theorem w12_sum_9 {E : EnvT} {G : GT} {RP : Option AV → Mem → Prop} (hG : Cl E 132 5 tb_132 G RP) {r : Int32 × Mem} (hRP : RP (some (.int r.1, 0)) r.2) (F : Nat) : ∀ (n : Nat) (d1 : Option AV) (σ : Mem), m12_sum_9 F n σ = some r → G 9 [some (.ref 483, 12), d1] [] σ := by
  intro n
  induction n with
  | zero => intro d1 σ h; unfold m12_sum_9 at h; cases h
  | succ n ih =>
    intro d1 σ h
    refine bk hG (cut := [9, 27, 46]) 400 ?_
    unfold m12_sum_9 at h
    have ⟨_, hc, h⟩ := b_some h
    refine Exists.intro _ (Exists.intro _ (Exists.intro _ (And.intro (c12_see F _ hc) (And.intro (by decide) (And.intro (fun q => absurd q (by decide)) ?_)))))
    refine And.intro (fun hq => ?_) (fun hq => ?_)
    · have h := i_pos hq h
      exact w12_sum_27 hG hRP F (fun _ _ h => ih _ _ h) _ _ h
    · have h := i_neg hq h
      have ⟨_, hc, h⟩ := b_some h
      refine Exists.intro _ (Exists.intro _ (Exists.intro _ (And.intro (c12_see F _ hc) (And.intro (by decide) (And.intro (fun q => absurd q (by decide)) ?_)))))
      refine And.intro (fun hq => ?_) (fun hq => ?_)
      · have h := i_pos hq h
        exact w12_sum_27 hG hRP F (fun _ _ h => ih _ _ h) _ _ h
      · have h := i_neg hq h
        have e := Option.some.inj h
        subst e
        exact And.intro (Or.inr rfl) hRP
set_option maxHeartbeats 4000000 in
set_option maxRecDepth 20000 in
theorem c12_sum {E : EnvT} (F : Nat)  (σ : Mem) {r : Int32 × Mem} (h : m12_sum F σ = some r) : MetAt E 5 132 [(.ref 483, 12)] σ (some (.int r.1, 0)) r.2 := by
  unfold m12_sum at h
  refine MetAt_of (tb := tb_132) (by decide) tbok_132 (Nat.le_of_ble_eq_true rfl) (fun a q => by cases q; trivial) (fun G hG => ?_)
  have hRP : (fun (a : Option AV) (τ : Mem) => a.map (conc E) = ((some (.int r.1, 0)) : Option AV).map (conc E) ∧ τ = r.2) (some (.int r.1, 0)) r.2 := ⟨rfl, rfl⟩
  change G 0 [some (.ref 483, 12), none] [] σ
  refine bk hG (cut := [9, 27, 46]) 400 ?_
  have ⟨_, hc, h⟩ := b_some h
  refine Exists.intro _ (Exists.intro _ (Exists.intro _ (And.intro (c12_term F _ hc) (And.intro (by decide) (And.intro (fun q => absurd q (by decide)) ?_)))))
  refine And.intro (fun hq => ?_) (fun hq => ?_)
  · have h := i_pos hq h
    have e := Option.some.inj h
    subst e
    exact And.intro (Or.inl rfl) hRP
  · have h := i_neg hq h
    exact w12_sum_9 hG hRP F F _ _ h
set_option maxHeartbeats 4000000 in
set_option maxRecDepth 20000 in
theorem w12_compare_152 {E : EnvT} {G : GT} {RP : Option AV → Mem → Prop} (hG : Cl E 133 6 tb_133 G RP) {r : Int32 × Mem} (hRP : RP (some (.int r.1, 0)) r.2) (F : Nat) : ∀ (s0 : Int32) (d1 : Option AV) (d2 : Option AV) (d3 : Option AV) (d4 : Option AV) (σ : Mem), m12_compare_152 F s0 σ = some r → G 152 [some (.ref 483, 12), d1, d2, d3, d4] [(.int s0, 0)] σ := by
  intro s0 d1 d2 d3 d4 σ h
  refine bk hG (cut := [44, 89, 90, 105, 152]) 400 ?_
  unfold m12_compare_152 at h
  have ⟨_, hc, h⟩ := b_some h
  refine Exists.intro _ (Exists.intro _ (Exists.intro _ (And.intro (c12_sum F _ hc) (And.intro (by decide) (And.intro (fun q => absurd q (by decide)) ?_)))))
  refine And.intro (fun hq => ?_) (fun hq => ?_)
  · have h := i_pos hq h
    have e := Option.some.inj h
    subst e
    exact And.intro (Or.inl rfl) hRP
  · have h := i_neg hq h
    have ⟨_, hc, h⟩ := b_some h
    refine Exists.intro _ (Exists.intro _ (Exists.intro _ (And.intro (c12_puts F _ _ _ hc) (And.intro (by decide) (And.intro (fun q => absurd q (by decide)) ?_)))))
    have e := Option.some.inj h
    subst e
    exact And.intro (Or.inr rfl) hRP
set_option maxHeartbeats 4000000 in
set_option maxRecDepth 20000 in
theorem w12_compare_105 {E : EnvT} {G : GT} {RP : Option AV → Mem → Prop} (hG : Cl E 133 6 tb_133 G RP) {r : Int32 × Mem} (hRP : RP (some (.int r.1, 0)) r.2) (F : Nat) : ∀ (x1 : Int32) (x2 : Int32) (x3 : Int32) (d4 : Option AV) (σ : Mem), m12_compare_105 F x1 x2 x3 σ = some r → G 105 [some (.ref 483, 12), some (.int x1, 0), some (.int x2, 0), some (.int x3, 0), d4] [] σ := by
  intro x1 x2 x3 d4 σ h
  refine bk hG (cut := [44, 89, 90, 105, 152]) 400 ?_
  unfold m12_compare_105 at h
  have ⟨_, hc, h⟩ := b_some h
  refine Exists.intro _ (Exists.intro _ (Exists.intro _ (And.intro (c12_makes F _ _ hc) (And.intro (by decide) (And.intro (fun q => absurd q (by decide)) ?_)))))
  refine And.intro (fun hq => ?_) (fun hq => ?_)
  · have h := i_pos hq h
    have e := Option.some.inj h
    subst e
    exact And.intro (Or.inl rfl) hRP
  · have h := i_neg hq h
    refine And.intro (fun hq => ?_) (fun hq => ?_)
    · have h := i_pos hq h
      refine And.intro (fun hq => ?_) (fun hq => ?_)
      · have h := i_pos hq h
        exact w12_compare_152 hG hRP F _ _ _ _ _ _ h
      · have h := i_neg hq h
        exact w12_compare_152 hG hRP F _ _ _ _ _ _ h
    · have h := i_neg hq h
      refine And.intro (fun hq => ?_) (fun hq => ?_)
      · have h := i_pos hq h
        exact w12_compare_152 hG hRP F _ _ _ _ _ _ h
      · have h := i_neg hq h
        refine And.intro (fun hq => ?_) (fun hq => ?_)
        · have h := i_pos hq h
          exact w12_compare_152 hG hRP F _ _ _ _ _ _ h
        · have h := i_neg hq h
          exact w12_compare_152 hG hRP F _ _ _ _ _ _ h
set_option maxHeartbeats 4000000 in
set_option maxRecDepth 20000 in
theorem w12_compare_90 {E : EnvT} {G : GT} {RP : Option AV → Mem → Prop} (hG : Cl E 133 6 tb_133 G RP) {r : Int32 × Mem} (hRP : RP (some (.int r.1, 0)) r.2) (F : Nat) : ∀ (x1 : Int32) (x2 : Int32) (s0 : Int32) (d3 : Option AV) (d4 : Option AV) (σ : Mem), m12_compare_90 F x1 x2 s0 σ = some r → G 90 [some (.ref 483, 12), some (.int x1, 0), some (.int x2, 0), d3, d4] [(.int s0, 0)] σ := by
  intro x1 x2 s0 d3 d4 σ h
  refine bk hG (cut := [44, 89, 90, 105, 152]) 400 ?_
  unfold m12_compare_90 at h
  refine And.intro (fun hq => ?_) (fun hq => ?_)
  · have h := i_pos hq h
    exact w12_compare_105 hG hRP F _ _ _ _ _ h
  · have h := i_neg hq h
    exact w12_compare_105 hG hRP F _ _ _ _ _ h
set_option maxHeartbeats 4000000 in
set_option maxRecDepth 20000 in
theorem w12_compare_89 {E : EnvT} {G : GT} {RP : Option AV → Mem → Prop} (hG : Cl E 133 6 tb_133 G RP) {r : Int32 × Mem} (hRP : RP (some (.int r.1, 0)) r.2) (F : Nat) {k90 : Int32 → Int32 → Int32 → Mem → Option (Int32 × Mem)} (hk90 : ∀ (x1 : Int32) (x2 : Int32) (s0 : Int32) (d3 : Option AV) (d4 : Option AV) (σ : Mem), k90 x1 x2 s0 σ = some r → G 90 [some (.ref 483, 12), some (.int x1, 0), some (.int x2, 0), d3, d4] [(.int s0, 0)] σ) : ∀ (x1 : Int32) (x2 : Int32) (d3 : Option AV) (d4 : Option AV) (σ : Mem), m12_compare_89 F k90 x1 x2 σ = some r → G 89 [some (.ref 483, 12), some (.int x1, 0), some (.int x2, 0), d3, d4] [] σ := by
  intro x1 x2 d3 d4 σ h
  refine bk hG (cut := [44, 89, 90, 105, 152]) 400 ?_
  unfold m12_compare_89 at h
  exact hk90 _ _ _ _ _ _ h
set_option maxHeartbeats 4000000 in
set_option maxRecDepth 20000 in
theorem w12_compare_44 {E : EnvT} {G : GT} {RP : Option AV → Mem → Prop} (hG : Cl E 133 6 tb_133 G RP) {r : Int32 × Mem} (hRP : RP (some (.int r.1, 0)) r.2) (F : Nat) : ∀ (x1 : Int32) (x2 : Int32) (d3 : Option AV) (d4 : Option AV) (σ : Mem), m12_compare_44 F x1 x2 σ = some r → G 44 [some (.ref 483, 12), some (.int x1, 0), some (.int x2, 0), d3, d4] [] σ := by
  intro x1 x2 d3 d4 σ h
  refine bk hG (cut := [44, 89, 90, 105, 152]) 400 ?_
  unfold m12_compare_44 at h
  refine And.intro (fun hq => ?_) (fun hq => ?_)
  · have h := i_pos hq h
    exact w12_compare_89 hG hRP F (fun _ _ _ _ _ _ h => w12_compare_90 hG hRP F _ _ _ _ _ _ h) _ _ _ _ _ h
  · have h := i_neg hq h
    refine And.intro (fun hq => ?_) (fun hq => ?_)
    · have h := i_pos hq h
      exact w12_compare_89 hG hRP F (fun _ _ _ _ _ _ h => w12_compare_90 hG hRP F _ _ _ _ _ _ h) _ _ _ _ _ h
    · have h := i_neg hq h
      have ⟨hg, h⟩ := g_gd h
      refine And.intro (inB_of hg) ?_
      refine And.intro (fun hq => ?_) (fun hq => ?_)
      · have h := i_pos hq h
        exact w12_compare_90 hG hRP F _ _ _ _ _ _ h
      · have h := i_neg hq h
        exact w12_compare_89 hG hRP F (fun _ _ _ _ _ _ h => w12_compare_90 hG hRP F _ _ _ _ _ _ h) _ _ _ _ _ h
set_option maxHeartbeats 4000000 in
set_option maxRecDepth 20000 in
theorem c12_compare {E : EnvT} (F : Nat)  (σ : Mem) {r : Int32 × Mem} (h : m12_compare F σ = some r) : MetAt E 6 133 [(.ref 483, 12)] σ (some (.int r.1, 0)) r.2 := by
  unfold m12_compare at h
  refine MetAt_of (tb := tb_133) (by decide) tbok_133 (Nat.le_of_ble_eq_true rfl) (fun a q => by cases q; trivial) (fun G hG => ?_)
  have hRP : (fun (a : Option AV) (τ : Mem) => a.map (conc E) = ((some (.int r.1, 0)) : Option AV).map (conc E) ∧ τ = r.2) (some (.int r.1, 0)) r.2 := ⟨rfl, rfl⟩
  change G 0 [some (.ref 483, 12), none, none, none, none] [] σ
  refine bk hG (cut := [44, 89, 90, 105, 152]) 400 ?_
  have ⟨_, hc, h⟩ := b_some h
  refine Exists.intro _ (Exists.intro _ (Exists.intro _ (And.intro (c12_sum F _ hc) (And.intro (by decide) (And.intro (fun q => absurd q (by decide)) ?_)))))
  refine And.intro (fun hq => ?_) (fun hq => ?_)
  · have h := i_pos hq h
    have e := Option.some.inj h
    subst e
    exact And.intro (Or.inl rfl) hRP
  · have h := i_neg hq h
    have ⟨_, hc, h⟩ := b_some h
    refine Exists.intro _ (Exists.intro _ (Exists.intro _ (And.intro (c12_see F _ hc) (And.intro (by decide) (And.intro (fun q => absurd q (by decide)) ?_)))))
    refine And.intro (fun hq => ?_) (fun hq => ?_)
    · have h := i_pos hq h
      exact w12_compare_44 hG hRP F _ _ _ _ _ h
    · have h := i_neg hq h
      refine And.intro (fun hq => ?_) (fun hq => ?_)
      · have h := i_pos hq h
        exact w12_compare_44 hG hRP F _ _ _ _ _ h
      · have h := i_neg hq h
        refine And.intro (fun hq => ?_) (fun hq => ?_)
        · have h := i_pos hq h
          exact w12_compare_44 hG hRP F _ _ _ _ _ h
        · have h := i_neg hq h
          have ⟨_, hc, h⟩ := b_some h
          refine Exists.intro _ (Exists.intro _ (Exists.intro _ (And.intro (c12_fails F _ _ _ hc) (And.intro (by decide) (And.intro (fun q => absurd q (by decide)) ?_)))))
          have ⟨hg, h⟩ := g_gd h
          have e := Option.some.inj h
          subst e
          exact And.intro (hg) hRP
set_option maxHeartbeats 4000000 in
set_option maxRecDepth 20000 in
theorem w12_fact_2 {E : EnvT} {G : GT} {RP : Option AV → Mem → Prop} (hG : Cl E 134 7 tb_134 G RP) {r : Int32 × Mem} (hRP : RP (some (.int r.1, 0)) r.2) (F : Nat) : ∀ (n : Nat) (x1 : Int32) (d2 : Option AV) (σ : Mem), m12_fact_2 F n x1 σ = some r → G 2 [some (.ref 483, 12), some (.int x1, 0), d2] [] σ := by
  intro n
  induction n with
  | zero => intro x1 d2 σ h; unfold m12_fact_2 at h; cases h
  | succ n ih =>
    intro x1 d2 σ h
    refine bk hG (cut := [2]) 400 ?_
    unfold m12_fact_2 at h
    refine And.intro (fun hq => ?_) (fun hq => ?_)
    · have h := i_pos hq h
      have ⟨_, hc, h⟩ := b_some h
      refine Exists.intro _ (Exists.intro _ (Exists.intro _ (And.intro (c12_compare F _ hc) (And.intro (by decide) (And.intro (fun q => absurd q (by decide)) ?_)))))
      have ⟨hg, h⟩ := g_gd h
      have e := Option.some.inj h
      subst e
      exact And.intro (hg) hRP
    · have h := i_neg hq h
      have ⟨_, hc, h⟩ := b_some h
      refine Exists.intro _ (Exists.intro _ (Exists.intro _ (And.intro (c12_see F _ hc) (And.intro (by decide) (And.intro (fun q => absurd q (by decide)) ?_)))))
      have ⟨_, hc, h⟩ := b_some h
      refine Exists.intro _ (Exists.intro _ (Exists.intro _ (And.intro (c12_isWord F _ _ hc) (And.intro (by decide) (And.intro (fun q => absurd q (by decide)) ?_)))))
      refine And.intro (fun hq => ?_) (fun hq => ?_)
      · have h := i_pos hq h
        refine And.intro (fun hq => ?_) (fun hq => ?_)
        · have h := i_pos hq h
          have ⟨_, hc, h⟩ := b_some h
          refine Exists.intro _ (Exists.intro _ (Exists.intro _ (And.intro (c12_opens F _ _ hc) (And.intro (by decide) (And.intro (fun q => absurd q (by decide)) ?_)))))
          refine And.intro (fun hq => ?_) (fun hq => ?_)
          · have h := i_pos hq h
            have e := Option.some.inj h
            subst e
            exact And.intro (Or.inl rfl) hRP
          · have h := i_neg hq h
            exact ih _ _ _ h
        · have h := i_neg hq h
          exact ih _ _ _ h
      · have h := i_neg hq h
        have ⟨_, hc, h⟩ := b_some h
        refine Exists.intro _ (Exists.intro _ (Exists.intro _ (And.intro (c12_opens F _ _ hc) (And.intro (by decide) (And.intro (fun q => absurd q (by decide)) ?_)))))
        refine And.intro (fun hq => ?_) (fun hq => ?_)
        · have h := i_pos hq h
          have e := Option.some.inj h
          subst e
          exact And.intro (Or.inl rfl) hRP
        · have h := i_neg hq h
          have ⟨_, hc, h⟩ := b_some h
          refine Exists.intro _ (Exists.intro _ (Exists.intro _ (And.intro (c12_passWord F _ hc) (And.intro (by decide) (And.intro (fun q => absurd q (by decide)) ?_)))))
          exact ih _ _ _ h
set_option maxHeartbeats 4000000 in
set_option maxRecDepth 20000 in
theorem c12_fact {E : EnvT} (F : Nat)  (σ : Mem) {r : Int32 × Mem} (h : m12_fact F σ = some r) : MetAt E 7 134 [(.ref 483, 12)] σ (some (.int r.1, 0)) r.2 := by
  unfold m12_fact at h
  refine MetAt_of (tb := tb_134) (by decide) tbok_134 (Nat.le_of_ble_eq_true rfl) (fun a q => by cases q; trivial) (fun G hG => ?_)
  have hRP : (fun (a : Option AV) (τ : Mem) => a.map (conc E) = ((some (.int r.1, 0)) : Option AV).map (conc E) ∧ τ = r.2) (some (.int r.1, 0)) r.2 := ⟨rfl, rfl⟩
  change G 0 [some (.ref 483, 12), none, none] [] σ
  refine bk hG (cut := [2]) 400 ?_
  exact w12_fact_2 hG hRP F F _ _ _ h
set_option maxHeartbeats 4000000 in
set_option maxRecDepth 20000 in
theorem w12_isInside_2 {E : EnvT} {G : GT} {RP : Option AV → Mem → Prop} {σ : Mem} (hG : Cl E 135 0 tb_135 G RP) {r : Int32} (hRP : RP (some (.int r, 0)) σ) (F : Nat) : ∀ (n : Nat) (x1 : Int32), m12_isInside_2 F σ n x1 = some r → G 2 [some (.ref 483, 12), some (.int x1, 0)] [] σ := by
  intro n
  induction n with
  | zero => intro x1 h; unfold m12_isInside_2 at h; cases h
  | succ n ih =>
    intro x1 h
    refine bk hG (cut := [2]) 400 ?_
    unfold m12_isInside_2 at h
    refine And.intro (fun hq => ?_) (fun hq => ?_)
    · have h := i_pos hq h
      have e := Option.some.inj h
      subst e
      exact And.intro (Or.inl rfl) hRP
    · have h := i_neg hq h
      have ⟨hg, h⟩ := g_gd h
      refine And.intro (inB_of hg) ?_
      refine And.intro (fun hq => ?_) (fun hq => ?_)
      · have h := i_pos hq h
        have e := Option.some.inj h
        subst e
        exact And.intro (Or.inr rfl) hRP
      · have h := i_neg hq h
        exact ih _ h
set_option maxHeartbeats 4000000 in
set_option maxRecDepth 20000 in
theorem c12_isInside {E : EnvT} (F : Nat)  (σ : Mem) {r : Int32} (h : m12_isInside F σ = some r) : MetAt E 0 135 [(.ref 483, 12)] σ (some (.int r, 0)) σ := by
  unfold m12_isInside at h
  refine MetAt_of (tb := tb_135) (by decide) tbok_135 (Nat.le_of_ble_eq_true rfl) (fun a q => by cases q; trivial) (fun G hG => ?_)
  have hRP : (fun (a : Option AV) (τ : Mem) => a.map (conc E) = ((some (.int r, 0)) : Option AV).map (conc E) ∧ τ = σ) (some (.int r, 0)) σ := ⟨rfl, rfl⟩
  change G 0 [some (.ref 483, 12), none] [] σ
  refine bk hG (cut := [2]) 400 ?_
  exact w12_isInside_2 hG hRP F F _ h
set_option maxHeartbeats 4000000 in
set_option maxRecDepth 20000 in
theorem w12_closes_5 {E : EnvT} {G : GT} {RP : Option AV → Mem → Prop} (hG : Cl E 136 2 tb_136 G RP) {r : Mem} (hRP : RP none r) (F : Nat) : ∀ (n : Nat) (σ : Mem), m12_closes_5 F n σ = some r → G 5 [some (.ref 483, 12)] [] σ := by
  intro n
  induction n with
  | zero => intro σ h; unfold m12_closes_5 at h; cases h
  | succ n ih =>
    intro σ h
    refine bk hG (cut := [5]) 400 ?_
    unfold m12_closes_5 at h
    have ⟨_, hc, h⟩ := b_some h
    refine Exists.intro _ (Exists.intro _ (Exists.intro _ (And.intro (c12_see F _ hc) (And.intro (by decide) (And.intro (fun q => absurd q (by decide)) ?_)))))
    refine And.intro (fun hq => ?_) (fun hq => ?_)
    · have h := i_pos hq h
      have ⟨_, hc, h⟩ := b_some h
      refine Exists.intro _ (Exists.intro _ (Exists.intro _ (And.intro (c12_isInside F _ hc) (And.intro (by decide) (And.intro (fun q => absurd q (by decide)) ?_)))))
      refine And.intro (fun hq => ?_) (fun hq => ?_)
      · have h := i_pos hq h
        have e := Option.some.inj h
        subst e
        exact hRP
      · have h := i_neg hq h
        have ⟨_, hc, h⟩ := b_some h
        refine Exists.intro _ (Exists.intro _ (Exists.intro _ (And.intro (c12_settles F _ _ hc) (And.intro (by decide) (And.intro (fun q => absurd q (by decide)) ?_)))))
        have ⟨_, hc, h⟩ := b_some h
        refine Exists.intro _ (Exists.intro _ (Exists.intro _ (And.intro (c12_settles F _ _ hc) (And.intro (by decide) (And.intro (fun q => absurd q (by decide)) ?_)))))
        exact ih _ h
    · have h := i_neg hq h
      have e := Option.some.inj h
      subst e
      exact hRP
set_option maxHeartbeats 4000000 in
set_option maxRecDepth 20000 in
theorem c12_closes {E : EnvT} (F : Nat)  (σ : Mem) {r : Mem} (h : m12_closes F σ = some r) : MetAt E 2 136 [(.ref 483, 12)] σ none r := by
  unfold m12_closes at h
  refine MetAt_of (tb := tb_136) (by decide) tbok_136 (Nat.le_of_ble_eq_true rfl) (fun a q => by cases q) (fun G hG => ?_)
  have hRP : (fun (a : Option AV) (τ : Mem) => a.map (conc E) = (none : Option AV).map (conc E) ∧ τ = r) none r := ⟨rfl, rfl⟩
  change G 0 [some (.ref 483, 12)] [] σ
  refine bk hG (cut := [5]) 400 ?_
  have ⟨_, hc, h⟩ := b_some h
  refine Exists.intro _ (Exists.intro _ (Exists.intro _ (And.intro (c12_settles F _ _ hc) (And.intro (by decide) (And.intro (fun q => absurd q (by decide)) ?_)))))
  exact w12_closes_5 hG hRP F F _ h
set_option maxHeartbeats 4000000 in
set_option maxRecDepth 20000 in
theorem w12_tested_76 {E : EnvT} {G : GT} {RP : Option AV → Mem → Prop} (hG : Cl E 137 8 tb_137 G RP) {r : Int32 × Mem} (hRP : RP (some (.int r.1, 0)) r.2) (F : Nat) {k12 : Int32 → Mem → Option (Int32 × Mem)} (hk12 : ∀ (x1 : Int32) (d2 : Option AV) (σ : Mem), k12 x1 σ = some r → G 12 [some (.ref 483, 12), some (.int x1, 0), d2] [] σ) : ∀ (x1 : Int32) (s0 : Int32) (d2 : Option AV) (σ : Mem), m12_tested_76 F k12 x1 s0 σ = some r → G 76 [some (.ref 483, 12), some (.int x1, 0), d2] [(.int s0, 0)] σ := by
  intro x1 s0 d2 σ h
  refine bk hG (cut := [12, 49, 54, 76]) 400 ?_
  unfold m12_tested_76 at h
  have ⟨_, hc, h⟩ := b_some h
  refine Exists.intro _ (Exists.intro _ (Exists.intro _ (And.intro (c12_passWord F _ hc) (And.intro (by decide) (And.intro (fun q => absurd q (by decide)) ?_)))))
  have ⟨_, hc, h⟩ := b_some h
  refine Exists.intro _ (Exists.intro _ (Exists.intro _ (And.intro (c12_strength F _ _ hc) (And.intro (by decide) ?_))))
  have ⟨_, hc, h⟩ := b_some h
  refine Exists.intro _ (Exists.intro _ (Exists.intro _ (And.intro (c12_settles F _ _ hc) (And.intro (by decide) (And.intro (fun q => absurd q (by decide)) ?_)))))
  have ⟨hg, h⟩ := g_gd h
  refine And.intro (inB_of hg) ?_
  exact hk12 _ _ _ h
set_option maxHeartbeats 4000000 in
set_option maxRecDepth 20000 in
theorem w12_tested_54 {E : EnvT} {G : GT} {RP : Option AV → Mem → Prop} (hG : Cl E 137 8 tb_137 G RP) {r : Int32 × Mem} (hRP : RP (some (.int r.1, 0)) r.2) (F : Nat) {k12 : Int32 → Mem → Option (Int32 × Mem)} (hk12 : ∀ (x1 : Int32) (d2 : Option AV) (σ : Mem), k12 x1 σ = some r → G 12 [some (.ref 483, 12), some (.int x1, 0), d2] [] σ) : ∀ (s0 : Int32) (d1 : Option AV) (d2 : Option AV) (σ : Mem), m12_tested_54 F k12 s0 σ = some r → G 54 [some (.ref 483, 12), d1, d2] [(.int s0, 0)] σ := by
  intro s0 d1 d2 σ h
  refine bk hG (cut := [12, 49, 54, 76]) 400 ?_
  unfold m12_tested_54 at h
  refine And.intro (fun hq => ?_) (fun hq => ?_)
  · have h := i_pos hq h
    exact hk12 _ _ _ h
  · have h := i_neg hq h
    have ⟨_, hc, h⟩ := b_some h
    refine Exists.intro _ (Exists.intro _ (Exists.intro _ (And.intro (c12_isWord F _ _ hc) (And.intro (by decide) (And.intro (fun q => absurd q (by decide)) ?_)))))
    refine And.intro (fun hq => ?_) (fun hq => ?_)
    · have h := i_pos hq h
      exact w12_tested_76 hG hRP F (fun _ _ _ h => hk12 _ _ _ h) _ _ _ _ h
    · have h := i_neg hq h
      exact w12_tested_76 hG hRP F (fun _ _ _ h => hk12 _ _ _ h) _ _ _ _ h
set_option maxHeartbeats 4000000 in
set_option maxRecDepth 20000 in
theorem w12_tested_49 {E : EnvT} {G : GT} {RP : Option AV → Mem → Prop} (hG : Cl E 137 8 tb_137 G RP) {r : Int32 × Mem} (hRP : RP (some (.int r.1, 0)) r.2) (F : Nat) {k54 : Int32 → Mem → Option (Int32 × Mem)} (hk54 : ∀ (s0 : Int32) (d1 : Option AV) (d2 : Option AV) (σ : Mem), k54 s0 σ = some r → G 54 [some (.ref 483, 12), d1, d2] [(.int s0, 0)] σ) : ∀ (d1 : Option AV) (d2 : Option AV) (σ : Mem), m12_tested_49 F k54 σ = some r → G 49 [some (.ref 483, 12), d1, d2] [] σ := by
  intro d1 d2 σ h
  refine bk hG (cut := [12, 49, 54, 76]) 400 ?_
  unfold m12_tested_49 at h
  exact hk54 _ _ _ _ h
set_option maxHeartbeats 4000000 in
set_option maxRecDepth 20000 in
theorem w12_tested_12 {E : EnvT} {G : GT} {RP : Option AV → Mem → Prop} (hG : Cl E 137 8 tb_137 G RP) {r : Int32 × Mem} (hRP : RP (some (.int r.1, 0)) r.2) (F : Nat) : ∀ (n : Nat) (x1 : Int32) (d2 : Option AV) (σ : Mem), m12_tested_12 F n x1 σ = some r → G 12 [some (.ref 483, 12), some (.int x1, 0), d2] [] σ := by
  intro n
  induction n with
  | zero => intro x1 d2 σ h; unfold m12_tested_12 at h; cases h
  | succ n ih =>
    intro x1 d2 σ h
    refine bk hG (cut := [12, 49, 54, 76]) 400 ?_
    unfold m12_tested_12 at h
    refine And.intro (fun hq => ?_) (fun hq => ?_)
    · have h := i_pos hq h
      have ⟨_, hc, h⟩ := b_some h
      refine Exists.intro _ (Exists.intro _ (Exists.intro _ (And.intro (c12_isInside F _ hc) (And.intro (by decide) (And.intro (fun q => absurd q (by decide)) ?_)))))
      refine And.intro (fun hq => ?_) (fun hq => ?_)
      · have h := i_pos hq h
        have ⟨_, hc, h⟩ := b_some h
        refine Exists.intro _ (Exists.intro _ (Exists.intro _ (And.intro (c12_settles F _ _ hc) (And.intro (by decide) (And.intro (fun q => absurd q (by decide)) ?_)))))
        have e := Option.some.inj h
        subst e
        exact And.intro (Or.inr rfl) hRP
      · have h := i_neg hq h
        have ⟨_, hc, h⟩ := b_some h
        refine Exists.intro _ (Exists.intro _ (Exists.intro _ (And.intro (c12_see F _ hc) (And.intro (by decide) (And.intro (fun q => absurd q (by decide)) ?_)))))
        have ⟨_, hc, h⟩ := b_some h
        refine Exists.intro _ (Exists.intro _ (Exists.intro _ (And.intro (c12_fails F _ _ _ hc) (And.intro (by decide) (And.intro (fun q => absurd q (by decide)) ?_)))))
        have ⟨hg, h⟩ := g_gd h
        have e := Option.some.inj h
        subst e
        exact And.intro (hg) hRP
    · have h := i_neg hq h
      have ⟨_, hc, h⟩ := b_some h
      refine Exists.intro _ (Exists.intro _ (Exists.intro _ (And.intro (c12_fact F _ hc) (And.intro (by decide) (And.intro (fun q => absurd q (by decide)) ?_)))))
      refine And.intro (fun hq => ?_) (fun hq => ?_)
      · have h := i_pos hq h
        have e := Option.some.inj h
        subst e
        exact And.intro (Or.inl rfl) hRP
      · have h := i_neg hq h
        have ⟨_, hc, h⟩ := b_some h
        refine Exists.intro _ (Exists.intro _ (Exists.intro _ (And.intro (c12_closes F _ hc) (And.intro (by decide) (And.intro (fun q => absurd q (by decide)) ?_)))))
        have ⟨_, hc, h⟩ := b_some h
        refine Exists.intro _ (Exists.intro _ (Exists.intro _ (And.intro (c12_isWord F _ _ hc) (And.intro (by decide) (And.intro (fun q => absurd q (by decide)) ?_)))))
        refine And.intro (fun hq => ?_) (fun hq => ?_)
        · have h := i_pos hq h
          have ⟨_, hc, h⟩ := b_some h
          refine Exists.intro _ (Exists.intro _ (Exists.intro _ (And.intro (c12_isWord F _ _ hc) (And.intro (by decide) (And.intro (fun q => absurd q (by decide)) ?_)))))
          refine And.intro (fun hq => ?_) (fun hq => ?_)
          · have h := i_pos hq h
            exact w12_tested_54 hG hRP F (fun _ _ _ h => ih _ _ _ h) _ _ _ _ h
          · have h := i_neg hq h
            exact w12_tested_49 hG hRP F (fun _ _ _ _ h => w12_tested_54 hG hRP F (fun _ _ _ h => ih _ _ _ h) _ _ _ _ h) _ _ _ h
        · have h := i_neg hq h
          exact w12_tested_49 hG hRP F (fun _ _ _ _ h => w12_tested_54 hG hRP F (fun _ _ _ h => ih _ _ _ h) _ _ _ _ h) _ _ _ h
set_option maxHeartbeats 4000000 in
set_option maxRecDepth 20000 in
theorem c12_tested {E : EnvT} (F : Nat)  (σ : Mem) {r : Int32 × Mem} (h : m12_tested F σ = some r) : MetAt E 8 137 [(.ref 483, 12)] σ (some (.int r.1, 0)) r.2 := by
  unfold m12_tested at h
  refine MetAt_of (tb := tb_137) (by decide) tbok_137 (Nat.le_of_ble_eq_true rfl) (fun a q => by cases q; trivial) (fun G hG => ?_)
  have hRP : (fun (a : Option AV) (τ : Mem) => a.map (conc E) = ((some (.int r.1, 0)) : Option AV).map (conc E) ∧ τ = r.2) (some (.int r.1, 0)) r.2 := ⟨rfl, rfl⟩
  change G 0 [some (.ref 483, 12), none, none] [] σ
  refine bk hG (cut := [12, 49, 54, 76]) 400 ?_
  exact w12_tested_12 hG hRP F F _ _ _ h
set_option maxHeartbeats 4000000 in
set_option maxRecDepth 20000 in
theorem w12_isStrikeHere_110 {E : EnvT} {G : GT} {RP : Option AV → Mem → Prop} (hG : Cl E 138 9 tb_138 G RP) {r : Int32 × Mem} (hRP : RP (some (.int r.1, 0)) r.2) (F : Nat) : ∀ (x1 : Int32) (σ : Mem), m12_isStrikeHere_110 F x1 σ = some r → G 110 [some (.ref 483, 12), some (.int x1, 0)] [] σ := by
  intro x1 σ h
  refine bk hG (cut := [110]) 400 ?_
  unfold m12_isStrikeHere_110 at h
  have ⟨hg, h⟩ := g_gd h
  refine And.intro (inB_of hg) ?_
  have ⟨hg, h⟩ := g_gd h
  refine And.intro (inB_of hg) ?_
  have ⟨hg, h⟩ := g_gd h
  refine And.intro (inB_of hg) ?_
  have ⟨hg, h⟩ := g_gd h
  refine And.intro (inB_of hg) ?_
  have e := Option.some.inj h
  subst e
  exact And.intro (Or.inr rfl) hRP
set_option maxHeartbeats 4000000 in
set_option maxRecDepth 20000 in
theorem c12_isStrikeHere {E : EnvT} (F : Nat)  (σ : Mem) {r : Int32 × Mem} (h : m12_isStrikeHere F σ = some r) : MetAt E 9 138 [(.ref 483, 12)] σ (some (.int r.1, 0)) r.2 := by
  unfold m12_isStrikeHere at h
  refine MetAt_of (tb := tb_138) (by decide) tbok_138 (Nat.le_of_ble_eq_true rfl) (fun a q => by cases q; trivial) (fun G hG => ?_)
  have hRP : (fun (a : Option AV) (τ : Mem) => a.map (conc E) = ((some (.int r.1, 0)) : Option AV).map (conc E) ∧ τ = r.2) (some (.int r.1, 0)) r.2 := ⟨rfl, rfl⟩
  change G 0 [some (.ref 483, 12), none] [] σ
  refine bk hG (cut := [110]) 400 ?_
  have ⟨_, hc, h⟩ := b_some h
  refine Exists.intro _ (Exists.intro _ (Exists.intro _ (And.intro (c12_passWord F _ hc) (And.intro (by decide) (And.intro (fun q => absurd q (by decide)) ?_)))))
  have ⟨hg, h⟩ := g_gd h
  refine And.intro (inB_of hg) ?_
  have ⟨hg, h⟩ := g_gd h
  refine And.intro (inB_of hg) ?_
  have ⟨hg, h⟩ := g_gd h
  refine And.intro (inB_of hg) ?_
  have ⟨_, hc, h⟩ := b_some h
  refine Exists.intro _ (Exists.intro _ (Exists.intro _ (And.intro (c12_sum F _ hc) (And.intro (by decide) (And.intro (fun q => absurd q (by decide)) ?_)))))
  refine And.intro (fun hq => ?_) (fun hq => ?_)
  · have h := i_pos hq h
    have e := Option.some.inj h
    subst e
    exact And.intro (Or.inl rfl) hRP
  · have h := i_neg hq h
    have ⟨hg, h⟩ := g_gd h
    refine And.intro (inB_of hg) ?_
    have ⟨hg, h⟩ := g_gd h
    refine And.intro (inB_of hg) ?_
    have ⟨hg, h⟩ := g_gd h
    refine And.intro (inB_of hg) ?_
    have ⟨_, hc, h⟩ := b_some h
    refine Exists.intro _ (Exists.intro _ (Exists.intro _ (And.intro (c12_takesWord F _ _ hc) (And.intro (by decide) (And.intro (fun q => absurd q (by decide)) ?_)))))
    refine And.intro (fun hq => ?_) (fun hq => ?_)
    · have h := i_pos hq h
      exact w12_isStrikeHere_110 hG hRP F _ _ h
    · have h := i_neg hq h
      have ⟨hg, h⟩ := g_gd h
      refine And.intro (inB_of hg) ?_
      have ⟨hg, h⟩ := g_gd h
      refine And.intro (inB_of hg) ?_
      have ⟨_, hc, h⟩ := b_some h
      refine Exists.intro _ (Exists.intro _ (Exists.intro _ (And.intro (c12_tested F _ hc) (And.intro (by decide) (And.intro (fun q => absurd q (by decide)) ?_)))))
      refine And.intro (fun hq => ?_) (fun hq => ?_)
      · have h := i_pos hq h
        have e := Option.some.inj h
        subst e
        exact And.intro (Or.inl rfl) hRP
      · have h := i_neg hq h
        exact w12_isStrikeHere_110 hG hRP F _ _ h
set_option maxHeartbeats 4000000 in
set_option maxRecDepth 20000 in
theorem c12_cellHere {E : EnvT} (F : Nat) (i1 : Int32) (i2 : Int32) (i3 : Int32) (σ : Mem) {r : Int32 × Mem} (h : m12_cellHere F i1 i2 i3 σ = some r) : MetAt E 2 139 [(.ref 483, 12), (.int i1, 0), (.int i2, 0), (.int i3, 0)] σ (some (.int r.1, 0)) r.2 := by
  unfold m12_cellHere at h
  refine MetAt_of (tb := tb_139) (by decide) tbok_139 (Nat.le_of_ble_eq_true rfl) (fun a q => by cases q; trivial) (fun G hG => ?_)
  have hRP : (fun (a : Option AV) (τ : Mem) => a.map (conc E) = ((some (.int r.1, 0)) : Option AV).map (conc E) ∧ τ = r.2) (some (.int r.1, 0)) r.2 := ⟨rfl, rfl⟩
  change G 0 [some (.ref 483, 12), some (.int i1, 0), some (.int i2, 0), some (.int i3, 0)] [] σ
  refine bk hG (cut := []) 400 ?_
  have ⟨_, hc, h⟩ := b_some h
  refine Exists.intro _ (Exists.intro _ (Exists.intro _ (And.intro (c12_numberHere F _ _ _ hc) (And.intro (by decide) (And.intro (fun q => absurd q (by decide)) ?_)))))
  refine And.intro (fun hq => ?_) (fun hq => ?_)
  · have h := i_pos hq h
    have e := Option.some.inj h
    subst e
    exact And.intro (Or.inl rfl) hRP
  · have h := i_neg hq h
    have ⟨hg, h⟩ := g_gd h
    refine And.intro (inB_of hg) ?_
    have e := Option.some.inj h
    subst e
    exact And.intro (Or.inr rfl) hRP
set_option maxHeartbeats 4000000 in
set_option maxRecDepth 20000 in
theorem c12_isSmithyHere {E : EnvT} (F : Nat) (i1 : Int32) (σ : Mem) {r : Int32 × Mem} (h : m12_isSmithyHere F i1 σ = some r) : MetAt E 3 140 [(.ref 483, 12), (.int i1, 0)] σ (some (.int r.1, 0)) r.2 := by
  unfold m12_isSmithyHere at h
  refine MetAt_of (tb := tb_140) (by decide) tbok_140 (Nat.le_of_ble_eq_true rfl) (fun a q => by cases q; trivial) (fun G hG => ?_)
  have hRP : (fun (a : Option AV) (τ : Mem) => a.map (conc E) = ((some (.int r.1, 0)) : Option AV).map (conc E) ∧ τ = r.2) (some (.int r.1, 0)) r.2 := ⟨rfl, rfl⟩
  change G 0 [some (.ref 483, 12), some (.int i1, 0), none] [] σ
  refine bk hG (cut := []) 400 ?_
  have ⟨hg, h⟩ := g_gd h
  refine And.intro (inB_of hg) ?_
  refine And.intro (fun hq => ?_) (fun hq => ?_)
  · have h := i_pos hq h
    have ⟨_, hc, h⟩ := b_some h
    refine Exists.intro _ (Exists.intro _ (Exists.intro _ (And.intro (c12_passWord F _ hc) (And.intro (by decide) (And.intro (fun q => absurd q (by decide)) ?_)))))
    have ⟨_, hc, h⟩ := b_some h
    refine Exists.intro _ (Exists.intro _ (Exists.intro _ (And.intro (c12_numberHere F _ _ _ hc) (And.intro (by decide) (And.intro (fun q => absurd q (by decide)) ?_)))))
    refine And.intro (fun hq => ?_) (fun hq => ?_)
    · have h := i_pos hq h
      have e := Option.some.inj h
      subst e
      exact And.intro (Or.inl rfl) hRP
    · have h := i_neg hq h
      have ⟨_, hc, h⟩ := b_some h
      refine Exists.intro _ (Exists.intro _ (Exists.intro _ (And.intro (c12_cellHere F _ _ _ _ hc) (And.intro (by decide) (And.intro (fun q => absurd q (by decide)) ?_)))))
      refine And.intro (fun hq => ?_) (fun hq => ?_)
      · have h := i_pos hq h
        have e := Option.some.inj h
        subst e
        exact And.intro (Or.inl rfl) hRP
      · have h := i_neg hq h
        have ⟨_, hc, h⟩ := b_some h
        refine Exists.intro _ (Exists.intro _ (Exists.intro _ (And.intro (c12_cellHere F _ _ _ _ hc) (And.intro (by decide) (And.intro (fun q => absurd q (by decide)) ?_)))))
        refine And.intro (fun hq => ?_) (fun hq => ?_)
        · have h := i_pos hq h
          have e := Option.some.inj h
          subst e
          exact And.intro (Or.inl rfl) hRP
        · have h := i_neg hq h
          have ⟨hg, h⟩ := g_gd h
          refine And.intro (inB_of hg) ?_
          have e := Option.some.inj h
          subst e
          exact And.intro (Or.inr rfl) hRP
  · have h := i_neg hq h
    have ⟨_, hc, h⟩ := b_some h
    refine Exists.intro _ (Exists.intro _ (Exists.intro _ (And.intro (c12_fails F _ _ _ hc) (And.intro (by decide) (And.intro (fun q => absurd q (by decide)) ?_)))))
    have ⟨hg, h⟩ := g_gd h
    have e := Option.some.inj h
    subst e
    exact And.intro (hg) hRP
set_option maxHeartbeats 4000000 in
set_option maxRecDepth 20000 in
theorem w12_isSmithHere_51 {E : EnvT} {G : GT} {RP : Option AV → Mem → Prop} {i1 : Int32} (hG : Cl E 141 3 tb_141 G RP) {r : Int32 × Mem} (hRP : RP (some (.int r.1, 0)) r.2) (F : Nat) : ∀ (n : Nat) (x2 : Int32) (x3 : Int32) (σ : Mem), m12_isSmithHere_51 F i1 n x2 x3 σ = some r → G 51 [some (.ref 483, 12), some (.int i1, 0), some (.int x2, 0), some (.int x3, 0)] [] σ := by
  intro n
  induction n with
  | zero => intro x2 x3 σ h; unfold m12_isSmithHere_51 at h; cases h
  | succ n ih =>
    intro x2 x3 σ h
    refine bk hG (cut := [51]) 400 ?_
    unfold m12_isSmithHere_51 at h
    refine And.intro (fun hq => ?_) (fun hq => ?_)
    · have h := i_pos hq h
      have ⟨hg, h⟩ := g_gd h
      refine And.intro (inB_of hg) ?_
      have ⟨hg, h⟩ := g_gd h
      refine And.intro (inB_of hg) ?_
      have e := Option.some.inj h
      subst e
      exact And.intro (Or.inr rfl) hRP
    · have h := i_neg hq h
      refine And.intro (fun hq => ?_) (fun hq => ?_)
      · have h := i_pos hq h
        exact ih _ _ _ h
      · have h := i_neg hq h
        have ⟨hg, h⟩ := g_gd h
        refine And.intro (inB_of hg) ?_
        exact ih _ _ _ h
set_option maxHeartbeats 4000000 in
set_option maxRecDepth 20000 in
theorem c12_isSmithHere {E : EnvT} (F : Nat) (i1 : Int32) (σ : Mem) {r : Int32 × Mem} (h : m12_isSmithHere F i1 σ = some r) : MetAt E 3 141 [(.ref 483, 12), (.int i1, 0)] σ (some (.int r.1, 0)) r.2 := by
  unfold m12_isSmithHere at h
  refine MetAt_of (tb := tb_141) (by decide) tbok_141 (Nat.le_of_ble_eq_true rfl) (fun a q => by cases q; trivial) (fun G hG => ?_)
  have hRP : (fun (a : Option AV) (τ : Mem) => a.map (conc E) = ((some (.int r.1, 0)) : Option AV).map (conc E) ∧ τ = r.2) (some (.int r.1, 0)) r.2 := ⟨rfl, rfl⟩
  change G 0 [some (.ref 483, 12), some (.int i1, 0), none, none] [] σ
  refine bk hG (cut := [51]) 400 ?_
  have ⟨hg, h⟩ := g_gd h
  refine And.intro (inB_of hg) ?_
  refine And.intro (fun hq => ?_) (fun hq => ?_)
  · have h := i_pos hq h
    have ⟨_, hc, h⟩ := b_some h
    refine Exists.intro _ (Exists.intro _ (Exists.intro _ (And.intro (c12_fails F _ _ _ hc) (And.intro (by decide) (And.intro (fun q => absurd q (by decide)) ?_)))))
    have ⟨hg, h⟩ := g_gd h
    have e := Option.some.inj h
    subst e
    exact And.intro (hg) hRP
  · have h := i_neg hq h
    have ⟨_, hc, h⟩ := b_some h
    refine Exists.intro _ (Exists.intro _ (Exists.intro _ (And.intro (c12_passWord F _ hc) (And.intro (by decide) (And.intro (fun q => absurd q (by decide)) ?_)))))
    have ⟨hg, h⟩ := g_gd h
    refine And.intro (inB_of hg) ?_
    have ⟨_, hc, h⟩ := b_some h
    refine Exists.intro _ (Exists.intro _ (Exists.intro _ (And.intro (c12_cellHere F _ _ _ _ hc) (And.intro (by decide) (And.intro (fun q => absurd q (by decide)) ?_)))))
    refine And.intro (fun hq => ?_) (fun hq => ?_)
    · have h := i_pos hq h
      have e := Option.some.inj h
      subst e
      exact And.intro (Or.inl rfl) hRP
    · have h := i_neg hq h
      exact w12_isSmithHere_51 hG hRP F F _ _ _ h
