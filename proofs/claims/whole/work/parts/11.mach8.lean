set_option maxHeartbeats 4000000 in
set_option maxRecDepth 20000 in
theorem w12_back_50 {E : EnvT} {G : GT} {RP : Option AV → Mem → Prop} {i1 : Int32} (hG : Cl E 228 1 tb_228 G RP) {r : Int32 × Mem} (hRP : RP (some (.int r.1, 0)) r.2) (F : Nat) : ∀ (n : Nat) (x2 : Int32) (σ : Mem), m12_back_50 F i1 n x2 σ = some r → G 50 [some (.ref 483, 12), some (.int i1, 0), some (.int x2, 0)] [] σ := by
  intro n
  induction n with
  | zero => intro x2 σ h; unfold m12_back_50 at h; cases h
  | succ n ih =>
    intro x2 σ h
    refine bk hG (cut := [50]) 400 ?_
    unfold m12_back_50 at h
    refine And.intro (fun hq => ?_) (fun hq => ?_)
    · have h := i_pos hq h
      have ⟨hg, h⟩ := g_gd h
      refine And.intro (inB_of hg) ?_
      have e := Option.some.inj h
      subst e
      exact hRP
    · have h := i_neg hq h
      have ⟨hg, h⟩ := g_gd h
      refine And.intro (inB_of hg) ?_
      have ⟨hg, h⟩ := g_gd h
      refine And.intro (inB_of hg) ?_
      exact ih _ _ h
set_option maxHeartbeats 4000000 in
set_option maxRecDepth 20000 in
theorem c12_back {E : EnvT} (F : Nat) (i1 : Int32) (σ : Mem) {r : Int32 × Mem} (h : m12_back F i1 σ = some r) : MetAt E 1 228 [(.ref 483, 12), (.int i1, 0)] σ (some (.int r.1, 0)) r.2 := by
  unfold m12_back at h
  refine MetAt_of (tb := tb_228) (by decide) tbok_228 (Nat.le_of_ble_eq_true rfl) (fun a q => by cases q; trivial) (fun G hG => ?_)
  have hRP : (fun (a : Option AV) (τ : Mem) => a.map (conc E) = ((some (.int r.1, 0)) : Option AV).map (conc E) ∧ τ = r.2) (some (.int r.1, 0)) r.2 := ⟨rfl, rfl⟩
  change G 0 [some (.ref 483, 12), some (.int i1, 0), none] [] σ
  refine bk hG (cut := [50]) 400 ?_
  have ⟨_, hc, h⟩ := b_some h
  refine Exists.intro _ (Exists.intro _ (Exists.intro _ (And.intro (c12_in F _ _ _ _ hc) (And.intro (by decide) ?_))))
  refine And.intro (fun hq => ?_) (fun hq => ?_)
  · have h := i_pos hq h
    have e := Option.some.inj h
    subst e
    exact hRP
  · have h := i_neg hq h
    have ⟨hg, h⟩ := g_gd h
    refine And.intro (inB_of hg) ?_
    refine And.intro (fun hq => ?_) (fun hq => ?_)
    · have h := i_pos hq h
      have e := Option.some.inj h
      subst e
      exact hRP
    · have h := i_neg hq h
      have ⟨hg, h⟩ := g_gd h
      refine And.intro (inB_of hg) ?_
      have ⟨hg, h⟩ := g_gd h
      refine And.intro (inB_of hg) ?_
      exact w12_back_50 hG hRP F F _ _ h
