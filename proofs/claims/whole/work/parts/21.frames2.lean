set_option maxHeartbeats 1000000 in
theorem f12_numberHere {F : Nat} {i1 : Int32} {i2 : Int32} {σ : Mem} {r : Int32 × Mem} (h : m12_numberHere F i1 i2 σ = some r) : Fr (Wm12_numberHere) σ r.2 := by
  unfold m12_numberHere at h
  have ⟨_, hc1, h⟩ := b_some h
  have qhc1 := f12_see hc1
  have ⟨_, hc2, h⟩ := b_some h
  rcases g_if h with ⟨hq, h⟩ | ⟨hq, h⟩
  · have ⟨_, hc3, h⟩ := b_some h
    have qhc3 := f12_fails hc3
    have ⟨hg, h⟩ := g_gd h
    have e := Option.some.inj h
    subst e
    exact (Fr.trans (Fr.trans (Fr.rf _ _) (Fr.mono qhc1 (fun c hw => by unfold Wm12_see at hw; unfold Wm12_numberHere; omega))) (Fr.mono qhc3 (fun c hw => by unfold Wm12_fails at hw; unfold Wm12_numberHere; omega)))
  · exact Fr.trans (Fr.trans (Fr.rf _ _) (Fr.mono qhc1 (fun c hw => by unfold Wm12_see at hw; unfold Wm12_numberHere; omega))) (f12_numberHere_34 (F := F) F _ _ _ h)
def Wm12_wordHere (c : Nat) : Prop := c = 483
set_option maxHeartbeats 1000000 in
theorem f12_wordHere {F : Nat} {σ : Mem} {r : Int32 × Mem} (h : m12_wordHere F  σ = some r) : Fr (Wm12_wordHere) σ r.2 := by
  unfold m12_wordHere at h
  have ⟨_, hc1, h⟩ := b_some h
  have qhc1 := f12_isWord hc1
  rcases g_if h with ⟨hq, h⟩ | ⟨hq, h⟩
  · have ⟨_, hc2, h⟩ := b_some h
    have qhc2 := f12_isWord hc2
    rcases g_if h with ⟨hq, h⟩ | ⟨hq, h⟩
    · have ⟨_, hc3, h⟩ := b_some h
      have qhc3 := f12_isWord hc3
      rcases g_if h with ⟨hq, h⟩ | ⟨hq, h⟩
      · have ⟨_, hc4, h⟩ := b_some h
        have qhc4 := f12_isWord hc4
        rcases g_if h with ⟨hq, h⟩ | ⟨hq, h⟩
        · have ⟨_, hc5, h⟩ := b_some h
          have qhc5 := f12_isWord hc5
          rcases g_if h with ⟨hq, h⟩ | ⟨hq, h⟩
          · have ⟨_, hc6, h⟩ := b_some h
            have qhc6 := f12_isWord hc6
            rcases g_if h with ⟨hq, h⟩ | ⟨hq, h⟩
            · have ⟨_, hc7, h⟩ := b_some h
              have qhc7 := f12_isWord hc7
              rcases g_if h with ⟨hq, h⟩ | ⟨hq, h⟩
              · have ⟨_, hc8, h⟩ := b_some h
                have qhc8 := f12_isWord hc8
                rcases g_if h with ⟨hq, h⟩ | ⟨hq, h⟩
                · have ⟨_, hc9, h⟩ := b_some h
                  have qhc9 := f12_isWord hc9
                  rcases g_if h with ⟨hq, h⟩ | ⟨hq, h⟩
                  · have ⟨_, hc10, h⟩ := b_some h
                    have qhc10 := f12_isWord hc10
                    rcases g_if h with ⟨hq, h⟩ | ⟨hq, h⟩
                    · have ⟨_, hc11, h⟩ := b_some h
                      have qhc11 := f12_isWord hc11
                      rcases g_if h with ⟨hq, h⟩ | ⟨hq, h⟩
                      · have ⟨_, hc12, h⟩ := b_some h
                        have qhc12 := f12_isWord hc12
                        rcases g_if h with ⟨hq, h⟩ | ⟨hq, h⟩
                        · have ⟨_, hc13, h⟩ := b_some h
                          have qhc13 := f12_isWord hc13
                          rcases g_if h with ⟨hq, h⟩ | ⟨hq, h⟩
                          · have e := Option.some.inj h
                            subst e
                            exact (Fr.trans (Fr.trans (Fr.trans (Fr.trans (Fr.trans (Fr.trans (Fr.trans (Fr.trans (Fr.trans (Fr.trans (Fr.trans (Fr.trans (Fr.trans (Fr.rf _ _) (Fr.mono qhc1 (fun c hw => by unfold Wm12_isWord at hw; unfold Wm12_wordHere; omega))) (Fr.mono qhc2 (fun c hw => by unfold Wm12_isWord at hw; unfold Wm12_wordHere; omega))) (Fr.mono qhc3 (fun c hw => by unfold Wm12_isWord at hw; unfold Wm12_wordHere; omega))) (Fr.mono qhc4 (fun c hw => by unfold Wm12_isWord at hw; unfold Wm12_wordHere; omega))) (Fr.mono qhc5 (fun c hw => by unfold Wm12_isWord at hw; unfold Wm12_wordHere; omega))) (Fr.mono qhc6 (fun c hw => by unfold Wm12_isWord at hw; unfold Wm12_wordHere; omega))) (Fr.mono qhc7 (fun c hw => by unfold Wm12_isWord at hw; unfold Wm12_wordHere; omega))) (Fr.mono qhc8 (fun c hw => by unfold Wm12_isWord at hw; unfold Wm12_wordHere; omega))) (Fr.mono qhc9 (fun c hw => by unfold Wm12_isWord at hw; unfold Wm12_wordHere; omega))) (Fr.mono qhc10 (fun c hw => by unfold Wm12_isWord at hw; unfold Wm12_wordHere; omega))) (Fr.mono qhc11 (fun c hw => by unfold Wm12_isWord at hw; unfold Wm12_wordHere; omega))) (Fr.mono qhc12 (fun c hw => by unfold Wm12_isWord at hw; unfold Wm12_wordHere; omega))) (Fr.mono qhc13 (fun c hw => by unfold Wm12_isWord at hw; unfold Wm12_wordHere; omega)))
                          · have e := Option.some.inj h
                            subst e
                            exact (Fr.trans (Fr.trans (Fr.trans (Fr.trans (Fr.trans (Fr.trans (Fr.trans (Fr.trans (Fr.trans (Fr.trans (Fr.trans (Fr.trans (Fr.trans (Fr.rf _ _) (Fr.mono qhc1 (fun c hw => by unfold Wm12_isWord at hw; unfold Wm12_wordHere; omega))) (Fr.mono qhc2 (fun c hw => by unfold Wm12_isWord at hw; unfold Wm12_wordHere; omega))) (Fr.mono qhc3 (fun c hw => by unfold Wm12_isWord at hw; unfold Wm12_wordHere; omega))) (Fr.mono qhc4 (fun c hw => by unfold Wm12_isWord at hw; unfold Wm12_wordHere; omega))) (Fr.mono qhc5 (fun c hw => by unfold Wm12_isWord at hw; unfold Wm12_wordHere; omega))) (Fr.mono qhc6 (fun c hw => by unfold Wm12_isWord at hw; unfold Wm12_wordHere; omega))) (Fr.mono qhc7 (fun c hw => by unfold Wm12_isWord at hw; unfold Wm12_wordHere; omega))) (Fr.mono qhc8 (fun c hw => by unfold Wm12_isWord at hw; unfold Wm12_wordHere; omega))) (Fr.mono qhc9 (fun c hw => by unfold Wm12_isWord at hw; unfold Wm12_wordHere; omega))) (Fr.mono qhc10 (fun c hw => by unfold Wm12_isWord at hw; unfold Wm12_wordHere; omega))) (Fr.mono qhc11 (fun c hw => by unfold Wm12_isWord at hw; unfold Wm12_wordHere; omega))) (Fr.mono qhc12 (fun c hw => by unfold Wm12_isWord at hw; unfold Wm12_wordHere; omega))) (Fr.mono qhc13 (fun c hw => by unfold Wm12_isWord at hw; unfold Wm12_wordHere; omega)))
                        · have e := Option.some.inj h
                          subst e
                          exact (Fr.trans (Fr.trans (Fr.trans (Fr.trans (Fr.trans (Fr.trans (Fr.trans (Fr.trans (Fr.trans (Fr.trans (Fr.trans (Fr.trans (Fr.rf _ _) (Fr.mono qhc1 (fun c hw => by unfold Wm12_isWord at hw; unfold Wm12_wordHere; omega))) (Fr.mono qhc2 (fun c hw => by unfold Wm12_isWord at hw; unfold Wm12_wordHere; omega))) (Fr.mono qhc3 (fun c hw => by unfold Wm12_isWord at hw; unfold Wm12_wordHere; omega))) (Fr.mono qhc4 (fun c hw => by unfold Wm12_isWord at hw; unfold Wm12_wordHere; omega))) (Fr.mono qhc5 (fun c hw => by unfold Wm12_isWord at hw; unfold Wm12_wordHere; omega))) (Fr.mono qhc6 (fun c hw => by unfold Wm12_isWord at hw; unfold Wm12_wordHere; omega))) (Fr.mono qhc7 (fun c hw => by unfold Wm12_isWord at hw; unfold Wm12_wordHere; omega))) (Fr.mono qhc8 (fun c hw => by unfold Wm12_isWord at hw; unfold Wm12_wordHere; omega))) (Fr.mono qhc9 (fun c hw => by unfold Wm12_isWord at hw; unfold Wm12_wordHere; omega))) (Fr.mono qhc10 (fun c hw => by unfold Wm12_isWord at hw; unfold Wm12_wordHere; omega))) (Fr.mono qhc11 (fun c hw => by unfold Wm12_isWord at hw; unfold Wm12_wordHere; omega))) (Fr.mono qhc12 (fun c hw => by unfold Wm12_isWord at hw; unfold Wm12_wordHere; omega)))
                      · have e := Option.some.inj h
                        subst e
                        exact (Fr.trans (Fr.trans (Fr.trans (Fr.trans (Fr.trans (Fr.trans (Fr.trans (Fr.trans (Fr.trans (Fr.trans (Fr.trans (Fr.rf _ _) (Fr.mono qhc1 (fun c hw => by unfold Wm12_isWord at hw; unfold Wm12_wordHere; omega))) (Fr.mono qhc2 (fun c hw => by unfold Wm12_isWord at hw; unfold Wm12_wordHere; omega))) (Fr.mono qhc3 (fun c hw => by unfold Wm12_isWord at hw; unfold Wm12_wordHere; omega))) (Fr.mono qhc4 (fun c hw => by unfold Wm12_isWord at hw; unfold Wm12_wordHere; omega))) (Fr.mono qhc5 (fun c hw => by unfold Wm12_isWord at hw; unfold Wm12_wordHere; omega))) (Fr.mono qhc6 (fun c hw => by unfold Wm12_isWord at hw; unfold Wm12_wordHere; omega))) (Fr.mono qhc7 (fun c hw => by unfold Wm12_isWord at hw; unfold Wm12_wordHere; omega))) (Fr.mono qhc8 (fun c hw => by unfold Wm12_isWord at hw; unfold Wm12_wordHere; omega))) (Fr.mono qhc9 (fun c hw => by unfold Wm12_isWord at hw; unfold Wm12_wordHere; omega))) (Fr.mono qhc10 (fun c hw => by unfold Wm12_isWord at hw; unfold Wm12_wordHere; omega))) (Fr.mono qhc11 (fun c hw => by unfold Wm12_isWord at hw; unfold Wm12_wordHere; omega)))
                    · have e := Option.some.inj h
                      subst e
                      exact (Fr.trans (Fr.trans (Fr.trans (Fr.trans (Fr.trans (Fr.trans (Fr.trans (Fr.trans (Fr.trans (Fr.trans (Fr.rf _ _) (Fr.mono qhc1 (fun c hw => by unfold Wm12_isWord at hw; unfold Wm12_wordHere; omega))) (Fr.mono qhc2 (fun c hw => by unfold Wm12_isWord at hw; unfold Wm12_wordHere; omega))) (Fr.mono qhc3 (fun c hw => by unfold Wm12_isWord at hw; unfold Wm12_wordHere; omega))) (Fr.mono qhc4 (fun c hw => by unfold Wm12_isWord at hw; unfold Wm12_wordHere; omega))) (Fr.mono qhc5 (fun c hw => by unfold Wm12_isWord at hw; unfold Wm12_wordHere; omega))) (Fr.mono qhc6 (fun c hw => by unfold Wm12_isWord at hw; unfold Wm12_wordHere; omega))) (Fr.mono qhc7 (fun c hw => by unfold Wm12_isWord at hw; unfold Wm12_wordHere; omega))) (Fr.mono qhc8 (fun c hw => by unfold Wm12_isWord at hw; unfold Wm12_wordHere; omega))) (Fr.mono qhc9 (fun c hw => by unfold Wm12_isWord at hw; unfold Wm12_wordHere; omega))) (Fr.mono qhc10 (fun c hw => by unfold Wm12_isWord at hw; unfold Wm12_wordHere; omega)))
                  · have e := Option.some.inj h
                    subst e
                    exact (Fr.trans (Fr.trans (Fr.trans (Fr.trans (Fr.trans (Fr.trans (Fr.trans (Fr.trans (Fr.trans (Fr.rf _ _) (Fr.mono qhc1 (fun c hw => by unfold Wm12_isWord at hw; unfold Wm12_wordHere; omega))) (Fr.mono qhc2 (fun c hw => by unfold Wm12_isWord at hw; unfold Wm12_wordHere; omega))) (Fr.mono qhc3 (fun c hw => by unfold Wm12_isWord at hw; unfold Wm12_wordHere; omega))) (Fr.mono qhc4 (fun c hw => by unfold Wm12_isWord at hw; unfold Wm12_wordHere; omega))) (Fr.mono qhc5 (fun c hw => by unfold Wm12_isWord at hw; unfold Wm12_wordHere; omega))) (Fr.mono qhc6 (fun c hw => by unfold Wm12_isWord at hw; unfold Wm12_wordHere; omega))) (Fr.mono qhc7 (fun c hw => by unfold Wm12_isWord at hw; unfold Wm12_wordHere; omega))) (Fr.mono qhc8 (fun c hw => by unfold Wm12_isWord at hw; unfold Wm12_wordHere; omega))) (Fr.mono qhc9 (fun c hw => by unfold Wm12_isWord at hw; unfold Wm12_wordHere; omega)))
                · have e := Option.some.inj h
                  subst e
                  exact (Fr.trans (Fr.trans (Fr.trans (Fr.trans (Fr.trans (Fr.trans (Fr.trans (Fr.trans (Fr.rf _ _) (Fr.mono qhc1 (fun c hw => by unfold Wm12_isWord at hw; unfold Wm12_wordHere; omega))) (Fr.mono qhc2 (fun c hw => by unfold Wm12_isWord at hw; unfold Wm12_wordHere; omega))) (Fr.mono qhc3 (fun c hw => by unfold Wm12_isWord at hw; unfold Wm12_wordHere; omega))) (Fr.mono qhc4 (fun c hw => by unfold Wm12_isWord at hw; unfold Wm12_wordHere; omega))) (Fr.mono qhc5 (fun c hw => by unfold Wm12_isWord at hw; unfold Wm12_wordHere; omega))) (Fr.mono qhc6 (fun c hw => by unfold Wm12_isWord at hw; unfold Wm12_wordHere; omega))) (Fr.mono qhc7 (fun c hw => by unfold Wm12_isWord at hw; unfold Wm12_wordHere; omega))) (Fr.mono qhc8 (fun c hw => by unfold Wm12_isWord at hw; unfold Wm12_wordHere; omega)))
              · have e := Option.some.inj h
                subst e
                exact (Fr.trans (Fr.trans (Fr.trans (Fr.trans (Fr.trans (Fr.trans (Fr.trans (Fr.rf _ _) (Fr.mono qhc1 (fun c hw => by unfold Wm12_isWord at hw; unfold Wm12_wordHere; omega))) (Fr.mono qhc2 (fun c hw => by unfold Wm12_isWord at hw; unfold Wm12_wordHere; omega))) (Fr.mono qhc3 (fun c hw => by unfold Wm12_isWord at hw; unfold Wm12_wordHere; omega))) (Fr.mono qhc4 (fun c hw => by unfold Wm12_isWord at hw; unfold Wm12_wordHere; omega))) (Fr.mono qhc5 (fun c hw => by unfold Wm12_isWord at hw; unfold Wm12_wordHere; omega))) (Fr.mono qhc6 (fun c hw => by unfold Wm12_isWord at hw; unfold Wm12_wordHere; omega))) (Fr.mono qhc7 (fun c hw => by unfold Wm12_isWord at hw; unfold Wm12_wordHere; omega)))
            · have e := Option.some.inj h
              subst e
              exact (Fr.trans (Fr.trans (Fr.trans (Fr.trans (Fr.trans (Fr.trans (Fr.rf _ _) (Fr.mono qhc1 (fun c hw => by unfold Wm12_isWord at hw; unfold Wm12_wordHere; omega))) (Fr.mono qhc2 (fun c hw => by unfold Wm12_isWord at hw; unfold Wm12_wordHere; omega))) (Fr.mono qhc3 (fun c hw => by unfold Wm12_isWord at hw; unfold Wm12_wordHere; omega))) (Fr.mono qhc4 (fun c hw => by unfold Wm12_isWord at hw; unfold Wm12_wordHere; omega))) (Fr.mono qhc5 (fun c hw => by unfold Wm12_isWord at hw; unfold Wm12_wordHere; omega))) (Fr.mono qhc6 (fun c hw => by unfold Wm12_isWord at hw; unfold Wm12_wordHere; omega)))
          · have e := Option.some.inj h
            subst e
            exact (Fr.trans (Fr.trans (Fr.trans (Fr.trans (Fr.trans (Fr.rf _ _) (Fr.mono qhc1 (fun c hw => by unfold Wm12_isWord at hw; unfold Wm12_wordHere; omega))) (Fr.mono qhc2 (fun c hw => by unfold Wm12_isWord at hw; unfold Wm12_wordHere; omega))) (Fr.mono qhc3 (fun c hw => by unfold Wm12_isWord at hw; unfold Wm12_wordHere; omega))) (Fr.mono qhc4 (fun c hw => by unfold Wm12_isWord at hw; unfold Wm12_wordHere; omega))) (Fr.mono qhc5 (fun c hw => by unfold Wm12_isWord at hw; unfold Wm12_wordHere; omega)))
        · have e := Option.some.inj h
          subst e
          exact (Fr.trans (Fr.trans (Fr.trans (Fr.trans (Fr.rf _ _) (Fr.mono qhc1 (fun c hw => by unfold Wm12_isWord at hw; unfold Wm12_wordHere; omega))) (Fr.mono qhc2 (fun c hw => by unfold Wm12_isWord at hw; unfold Wm12_wordHere; omega))) (Fr.mono qhc3 (fun c hw => by unfold Wm12_isWord at hw; unfold Wm12_wordHere; omega))) (Fr.mono qhc4 (fun c hw => by unfold Wm12_isWord at hw; unfold Wm12_wordHere; omega)))
      · have e := Option.some.inj h
        subst e
        exact (Fr.trans (Fr.trans (Fr.trans (Fr.rf _ _) (Fr.mono qhc1 (fun c hw => by unfold Wm12_isWord at hw; unfold Wm12_wordHere; omega))) (Fr.mono qhc2 (fun c hw => by unfold Wm12_isWord at hw; unfold Wm12_wordHere; omega))) (Fr.mono qhc3 (fun c hw => by unfold Wm12_isWord at hw; unfold Wm12_wordHere; omega)))
    · have e := Option.some.inj h
      subst e
      exact (Fr.trans (Fr.trans (Fr.rf _ _) (Fr.mono qhc1 (fun c hw => by unfold Wm12_isWord at hw; unfold Wm12_wordHere; omega))) (Fr.mono qhc2 (fun c hw => by unfold Wm12_isWord at hw; unfold Wm12_wordHere; omega)))
  · have e := Option.some.inj h
    subst e
    exact (Fr.trans (Fr.rf _ _) (Fr.mono qhc1 (fun c hw => by unfold Wm12_isWord at hw; unfold Wm12_wordHere; omega)))
def Wm12_puts (c : Nat) : Prop := (485 ≤ c ∧ c ≤ 486)
set_option maxHeartbeats 1000000 in
theorem f12_puts {F : Nat} {i1 : Int32} {i2 : Int32} {σ : Mem} {r : Mem} (h : m12_puts F i1 i2 σ = some r) : Fr (Wm12_puts) σ r := by
  unfold m12_puts at h
  have ⟨hg, h⟩ := g_gd h
  have hb := inB_lt hg
  have ⟨hg, h⟩ := g_gd h
  have hb := inB_lt hg
  have ⟨hg, h⟩ := g_gd h
  have hb := inB_lt hg
  have ⟨hg, h⟩ := g_gd h
  have hb := inB_lt hg
  have e := Option.some.inj h
  subst e
  exact (Fr.sI (Fr.sI (Fr.rf _ _) (by unfold Wm12_puts; omega)) (by unfold Wm12_puts; omega))
def Wm12_makes (c : Nat) : Prop := c = 483
set_option maxHeartbeats 1000000 in
theorem f12_makes {F : Nat} {i1 : Int32} {σ : Mem} {r : Int32 × Mem} (h : m12_makes F i1 σ = some r) : Fr (Wm12_makes) σ r.2 := by
  unfold m12_makes at h
  rcases g_if h with ⟨hq, h⟩ | ⟨hq, h⟩
  · have ⟨_, hc1, h⟩ := b_some h
    have qhc1 := f12_fails hc1
    have ⟨hg, h⟩ := g_gd h
    have e := Option.some.inj h
    subst e
    exact (Fr.trans (Fr.rf _ _) (Fr.mono qhc1 (fun c hw => by unfold Wm12_fails at hw; unfold Wm12_makes; omega)))
  · have e := Option.some.inj h
    subst e
    exact (Fr.sI (Fr.rf _ _) (by unfold Wm12_makes; omega))
def Wm12_opens (c : Nat) : Prop := c = 483 ∨ c = 490
set_option maxHeartbeats 1000000 in
theorem f12_opens {F : Nat} {i1 : Int32} {σ : Mem} {r : Int32 × Mem} (h : m12_opens F i1 σ = some r) : Fr (Wm12_opens) σ r.2 := by
  unfold m12_opens at h
  rcases g_if h with ⟨hq, h⟩ | ⟨hq, h⟩
  · have ⟨_, hc1, h⟩ := b_some h
    have qhc1 := f12_fails hc1
    have ⟨hg, h⟩ := g_gd h
    have e := Option.some.inj h
    subst e
    exact (Fr.trans (Fr.rf _ _) (Fr.mono qhc1 (fun c hw => by unfold Wm12_fails at hw; unfold Wm12_opens; omega)))
  · have ⟨hg, h⟩ := g_gd h
    have hb := inB_lt hg
    have e := Option.some.inj h
    subst e
    exact (Fr.sI (Fr.sI (Fr.sI (Fr.rf _ _) (by unfold Wm12_opens; omega)) (by unfold Wm12_opens; omega)) (by unfold Wm12_opens; omega))
def Wm12_settles (c : Nat) : Prop := c = 483 ∨ (485 ≤ c ∧ c ≤ 486)
set_option maxHeartbeats 1000000 in
theorem f12_settles_0 {F : Nat} {i1 : Int32} {r : Mem} : ∀ (n : Nat) (σ : Mem), m12_settles_0 F i1 n σ = some r → Fr (Wm12_settles) σ r := by
  intro n
  induction n with
  | zero => intro σ h; unfold m12_settles_0 at h; cases h
  | succ n ih =>
    intro σ h
    unfold m12_settles_0 at h
    rcases g_if h with ⟨hq, h⟩ | ⟨hq, h⟩
    · have e := Option.some.inj h
      subst e
      exact (Fr.rf _ _)
    · have ⟨hg, h⟩ := g_gd h
      have hb := inB_lt hg
      have ⟨_, hc1, h⟩ := b_some h
      rcases g_if h with ⟨hq, h⟩ | ⟨hq, h⟩
      · have e := Option.some.inj h
        subst e
        exact (Fr.rf _ _)
      · have ⟨hg, h⟩ := g_gd h
        have hb := inB_lt hg
        have ⟨_, hc2, h⟩ := b_some h
        have qhc2 := f12_puts hc2
        have ⟨hg, h⟩ := g_gd h
        have hb := inB_lt hg
        rcases g_if h with ⟨hq, h⟩ | ⟨hq, h⟩
        · exact Fr.trans (Fr.sI (Fr.trans (Fr.sI (Fr.rf _ _) (by unfold Wm12_settles; omega)) (Fr.mono qhc2 (fun c hw => by unfold Wm12_puts at hw; unfold Wm12_settles; omega))) (by unfold Wm12_settles; omega)) (ih _ h)
        · exact Fr.trans (Fr.trans (Fr.sI (Fr.rf _ _) (by unfold Wm12_settles; omega)) (Fr.mono qhc2 (fun c hw => by unfold Wm12_puts at hw; unfold Wm12_settles; omega))) (ih _ h)
set_option maxHeartbeats 1000000 in
theorem f12_settles {F : Nat} {i1 : Int32} {σ : Mem} {r : Mem} (h : m12_settles F i1 σ = some r) : Fr (Wm12_settles) σ r := by
  unfold m12_settles at h
  exact (f12_settles_0 (F := F) F _ h)
def Wm12_value (c : Nat) : Prop := c = 483 ∨ (485 ≤ c ∧ c ≤ 486)
set_option maxHeartbeats 1000000 in
theorem f12_value {F : Nat} {σ : Mem} {r : Int32 × Mem} (h : m12_value F  σ = some r) : Fr (Wm12_value) σ r.2 := by
  unfold m12_value at h
  have ⟨_, hc1, h⟩ := b_some h
  have qhc1 := f12_see hc1
  have ⟨_, hc2, h⟩ := b_some h
  rcases g_if h with ⟨hq, h⟩ | ⟨hq, h⟩
  · have ⟨_, hc3, h⟩ := b_some h
    have qhc3 := f12_wordHere hc3
    rcases g_if h with ⟨hq, h⟩ | ⟨hq, h⟩
    · have ⟨_, hc4, h⟩ := b_some h
      have qhc4 := f12_makes hc4
      rcases g_if h with ⟨hq, h⟩ | ⟨hq, h⟩
      · have e := Option.some.inj h
        subst e
        exact (Fr.trans (Fr.trans (Fr.trans (Fr.rf _ _) (Fr.mono qhc1 (fun c hw => by unfold Wm12_see at hw; unfold Wm12_value; omega))) (Fr.mono qhc3 (fun c hw => by unfold Wm12_wordHere at hw; unfold Wm12_value; omega))) (Fr.mono qhc4 (fun c hw => by unfold Wm12_makes at hw; unfold Wm12_value; omega)))
      · have ⟨_, hc5, h⟩ := b_some h
        have qhc5 := f12_passWord hc5
        have ⟨_, hc6, h⟩ := b_some h
        have qhc6 := f12_puts hc6
        have e := Option.some.inj h
        subst e
        exact (Fr.trans (Fr.trans (Fr.trans (Fr.trans (Fr.trans (Fr.rf _ _) (Fr.mono qhc1 (fun c hw => by unfold Wm12_see at hw; unfold Wm12_value; omega))) (Fr.mono qhc3 (fun c hw => by unfold Wm12_wordHere at hw; unfold Wm12_value; omega))) (Fr.mono qhc4 (fun c hw => by unfold Wm12_makes at hw; unfold Wm12_value; omega))) (Fr.mono qhc5 (fun c hw => by unfold Wm12_passWord at hw; unfold Wm12_value; omega))) (Fr.mono qhc6 (fun c hw => by unfold Wm12_puts at hw; unfold Wm12_value; omega)))
    · have ⟨_, hc4, h⟩ := b_some h
      have qhc4 := f12_fails hc4
      have ⟨hg, h⟩ := g_gd h
      have e := Option.some.inj h
      subst e
      exact (Fr.trans (Fr.trans (Fr.trans (Fr.rf _ _) (Fr.mono qhc1 (fun c hw => by unfold Wm12_see at hw; unfold Wm12_value; omega))) (Fr.mono qhc3 (fun c hw => by unfold Wm12_wordHere at hw; unfold Wm12_value; omega))) (Fr.mono qhc4 (fun c hw => by unfold Wm12_fails at hw; unfold Wm12_value; omega)))
  · have ⟨_, hc3, h⟩ := b_some h
    have qhc3 := f12_numberHere hc3
    rcases g_if h with ⟨hq, h⟩ | ⟨hq, h⟩
    · have e := Option.some.inj h
      subst e
      exact (Fr.trans (Fr.trans (Fr.rf _ _) (Fr.mono qhc1 (fun c hw => by unfold Wm12_see at hw; unfold Wm12_value; omega))) (Fr.mono qhc3 (fun c hw => by unfold Wm12_numberHere at hw; unfold Wm12_value; omega)))
    · have ⟨_, hc4, h⟩ := b_some h
      have qhc4 := f12_makes hc4
      rcases g_if h with ⟨hq, h⟩ | ⟨hq, h⟩
      · have e := Option.some.inj h
        subst e
        exact (Fr.trans (Fr.trans (Fr.trans (Fr.rf _ _) (Fr.mono qhc1 (fun c hw => by unfold Wm12_see at hw; unfold Wm12_value; omega))) (Fr.mono qhc3 (fun c hw => by unfold Wm12_numberHere at hw; unfold Wm12_value; omega))) (Fr.mono qhc4 (fun c hw => by unfold Wm12_makes at hw; unfold Wm12_value; omega)))
      · have ⟨_, hc5, h⟩ := b_some h
        have qhc5 := f12_puts hc5
        have e := Option.some.inj h
        subst e
        exact (Fr.trans (Fr.trans (Fr.trans (Fr.trans (Fr.rf _ _) (Fr.mono qhc1 (fun c hw => by unfold Wm12_see at hw; unfold Wm12_value; omega))) (Fr.mono qhc3 (fun c hw => by unfold Wm12_numberHere at hw; unfold Wm12_value; omega))) (Fr.mono qhc4 (fun c hw => by unfold Wm12_makes at hw; unfold Wm12_value; omega))) (Fr.mono qhc5 (fun c hw => by unfold Wm12_puts at hw; unfold Wm12_value; omega)))
def Wm12_term (c : Nat) : Prop := c = 483 ∨ (485 ≤ c ∧ c ≤ 486)
set_option maxHeartbeats 1000000 in
theorem f12_term_74 {F : Nat} {r : Int32 × Mem} {k9 : Mem → Option (Int32 × Mem)} (hk9 : ∀ (σ : Mem), k9 σ = some r → Fr (Wm12_term) σ r.2) : ∀ (s0 : Int32) (σ : Mem), m12_term_74 F k9 s0 σ = some r → Fr (Wm12_term) σ r.2 := by
  intro s0 σ h
  unfold m12_term_74 at h
  have ⟨_, hc1, h⟩ := b_some h
  have qhc1 := f12_value hc1
  rcases g_if h with ⟨hq, h⟩ | ⟨hq, h⟩
  · have e := Option.some.inj h
    subst e
    exact (Fr.trans (Fr.sI (Fr.rf _ _) (by unfold Wm12_term; omega)) (Fr.mono qhc1 (fun c hw => by unfold Wm12_value at hw; unfold Wm12_term; omega)))
  · have ⟨_, hc2, h⟩ := b_some h
    have qhc2 := f12_puts hc2
    exact Fr.trans (Fr.trans (Fr.trans (Fr.sI (Fr.rf _ _) (by unfold Wm12_term; omega)) (Fr.mono qhc1 (fun c hw => by unfold Wm12_value at hw; unfold Wm12_term; omega))) (Fr.mono qhc2 (fun c hw => by unfold Wm12_puts at hw; unfold Wm12_term; omega))) (hk9 _ h)
set_option maxHeartbeats 1000000 in
theorem f12_term_36 {F : Nat} {r : Int32 × Mem} {k9 : Mem → Option (Int32 × Mem)} (hk9 : ∀ (σ : Mem), k9 σ = some r → Fr (Wm12_term) σ r.2) : ∀ (σ : Mem), m12_term_36 F k9 σ = some r → Fr (Wm12_term) σ r.2 := by
  intro σ h
  unfold m12_term_36 at h
  have ⟨hg, h⟩ := g_gd h
  have hb := inB_lt hg
  rcases g_if h with ⟨hq, h⟩ | ⟨hq, h⟩
  · exact Fr.trans (Fr.rf _ _) (f12_term_74 (F := F) (fun _ h => (hk9 _ h)) _ _ h)
  · have ⟨hg, h⟩ := g_gd h
    have hb := inB_lt hg
    rcases g_if h with ⟨hq, h⟩ | ⟨hq, h⟩
    · exact Fr.trans (Fr.rf _ _) (f12_term_74 (F := F) (fun _ h => (hk9 _ h)) _ _ h)
    · exact Fr.trans (Fr.rf _ _) (f12_term_74 (F := F) (fun _ h => (hk9 _ h)) _ _ h)
set_option maxHeartbeats 1000000 in
theorem f12_term_9 {F : Nat} {r : Int32 × Mem} : ∀ (n : Nat) (σ : Mem), m12_term_9 F n σ = some r → Fr (Wm12_term) σ r.2 := by
  intro n
  induction n with
  | zero => intro σ h; unfold m12_term_9 at h; cases h
  | succ n ih =>
    intro σ h
    unfold m12_term_9 at h
    have ⟨_, hc1, h⟩ := b_some h
    have qhc1 := f12_see hc1
    rcases g_if h with ⟨hq, h⟩ | ⟨hq, h⟩
    · exact Fr.trans (Fr.trans (Fr.rf _ _) (Fr.mono qhc1 (fun c hw => by unfold Wm12_see at hw; unfold Wm12_term; omega))) (f12_term_36 (F := F) (fun _ h => (ih _ h)) _ h)
    · have ⟨_, hc2, h⟩ := b_some h
      have qhc2 := f12_see hc2
      rcases g_if h with ⟨hq, h⟩ | ⟨hq, h⟩
      · exact Fr.trans (Fr.trans (Fr.trans (Fr.rf _ _) (Fr.mono qhc1 (fun c hw => by unfold Wm12_see at hw; unfold Wm12_term; omega))) (Fr.mono qhc2 (fun c hw => by unfold Wm12_see at hw; unfold Wm12_term; omega))) (f12_term_36 (F := F) (fun _ h => (ih _ h)) _ h)
      · have ⟨_, hc3, h⟩ := b_some h
        have qhc3 := f12_see hc3
        rcases g_if h with ⟨hq, h⟩ | ⟨hq, h⟩
        · exact Fr.trans (Fr.trans (Fr.trans (Fr.trans (Fr.rf _ _) (Fr.mono qhc1 (fun c hw => by unfold Wm12_see at hw; unfold Wm12_term; omega))) (Fr.mono qhc2 (fun c hw => by unfold Wm12_see at hw; unfold Wm12_term; omega))) (Fr.mono qhc3 (fun c hw => by unfold Wm12_see at hw; unfold Wm12_term; omega))) (f12_term_36 (F := F) (fun _ h => (ih _ h)) _ h)
        · have e := Option.some.inj h
          subst e
          exact (Fr.trans (Fr.trans (Fr.trans (Fr.rf _ _) (Fr.mono qhc1 (fun c hw => by unfold Wm12_see at hw; unfold Wm12_term; omega))) (Fr.mono qhc2 (fun c hw => by unfold Wm12_see at hw; unfold Wm12_term; omega))) (Fr.mono qhc3 (fun c hw => by unfold Wm12_see at hw; unfold Wm12_term; omega)))
set_option maxHeartbeats 1000000 in
theorem f12_term {F : Nat} {σ : Mem} {r : Int32 × Mem} (h : m12_term F  σ = some r) : Fr (Wm12_term) σ r.2 := by
  unfold m12_term at h
  have ⟨_, hc1, h⟩ := b_some h
  have qhc1 := f12_value hc1
  rcases g_if h with ⟨hq, h⟩ | ⟨hq, h⟩
  · have e := Option.some.inj h
    subst e
    exact (Fr.trans (Fr.rf _ _) (Fr.mono qhc1 (fun c hw => by unfold Wm12_value at hw; unfold Wm12_term; omega)))
  · exact Fr.trans (Fr.trans (Fr.rf _ _) (Fr.mono qhc1 (fun c hw => by unfold Wm12_value at hw; unfold Wm12_term; omega))) (f12_term_9 (F := F) F _ h)
def Wm12_sum (c : Nat) : Prop := c = 483 ∨ (485 ≤ c ∧ c ≤ 486)
set_option maxHeartbeats 1000000 in
theorem f12_sum_46 {F : Nat} {r : Int32 × Mem} {k9 : Mem → Option (Int32 × Mem)} (hk9 : ∀ (σ : Mem), k9 σ = some r → Fr (Wm12_sum) σ r.2) : ∀ (s0 : Int32) (σ : Mem), m12_sum_46 F k9 s0 σ = some r → Fr (Wm12_sum) σ r.2 := by
  intro s0 σ h
  unfold m12_sum_46 at h
  have ⟨_, hc1, h⟩ := b_some h
  have qhc1 := f12_term hc1
  rcases g_if h with ⟨hq, h⟩ | ⟨hq, h⟩
  · have e := Option.some.inj h
    subst e
    exact (Fr.trans (Fr.sI (Fr.rf _ _) (by unfold Wm12_sum; omega)) (Fr.mono qhc1 (fun c hw => by unfold Wm12_term at hw; unfold Wm12_sum; omega)))
  · have ⟨_, hc2, h⟩ := b_some h
    have qhc2 := f12_puts hc2
    exact Fr.trans (Fr.trans (Fr.trans (Fr.sI (Fr.rf _ _) (by unfold Wm12_sum; omega)) (Fr.mono qhc1 (fun c hw => by unfold Wm12_term at hw; unfold Wm12_sum; omega))) (Fr.mono qhc2 (fun c hw => by unfold Wm12_puts at hw; unfold Wm12_sum; omega))) (hk9 _ h)
set_option maxHeartbeats 1000000 in
theorem f12_sum_27 {F : Nat} {r : Int32 × Mem} {k9 : Mem → Option (Int32 × Mem)} (hk9 : ∀ (σ : Mem), k9 σ = some r → Fr (Wm12_sum) σ r.2) : ∀ (σ : Mem), m12_sum_27 F k9 σ = some r → Fr (Wm12_sum) σ r.2 := by
  intro σ h
  unfold m12_sum_27 at h
  have ⟨hg, h⟩ := g_gd h
  have hb := inB_lt hg
  rcases g_if h with ⟨hq, h⟩ | ⟨hq, h⟩
  · exact Fr.trans (Fr.rf _ _) (f12_sum_46 (F := F) (fun _ h => (hk9 _ h)) _ _ h)
  · exact Fr.trans (Fr.rf _ _) (f12_sum_46 (F := F) (fun _ h => (hk9 _ h)) _ _ h)
set_option maxHeartbeats 1000000 in
theorem f12_sum_9 {F : Nat} {r : Int32 × Mem} : ∀ (n : Nat) (σ : Mem), m12_sum_9 F n σ = some r → Fr (Wm12_sum) σ r.2 := by
  intro n
  induction n with
  | zero => intro σ h; unfold m12_sum_9 at h; cases h
  | succ n ih =>
    intro σ h
    unfold m12_sum_9 at h
    have ⟨_, hc1, h⟩ := b_some h
    have qhc1 := f12_see hc1
    rcases g_if h with ⟨hq, h⟩ | ⟨hq, h⟩
    · exact Fr.trans (Fr.trans (Fr.rf _ _) (Fr.mono qhc1 (fun c hw => by unfold Wm12_see at hw; unfold Wm12_sum; omega))) (f12_sum_27 (F := F) (fun _ h => (ih _ h)) _ h)
    · have ⟨_, hc2, h⟩ := b_some h
      have qhc2 := f12_see hc2
      rcases g_if h with ⟨hq, h⟩ | ⟨hq, h⟩
      · exact Fr.trans (Fr.trans (Fr.trans (Fr.rf _ _) (Fr.mono qhc1 (fun c hw => by unfold Wm12_see at hw; unfold Wm12_sum; omega))) (Fr.mono qhc2 (fun c hw => by unfold Wm12_see at hw; unfold Wm12_sum; omega))) (f12_sum_27 (F := F) (fun _ h => (ih _ h)) _ h)
      · have e := Option.some.inj h
        subst e
        exact (Fr.trans (Fr.trans (Fr.rf _ _) (Fr.mono qhc1 (fun c hw => by unfold Wm12_see at hw; unfold Wm12_sum; omega))) (Fr.mono qhc2 (fun c hw => by unfold Wm12_see at hw; unfold Wm12_sum; omega)))
set_option maxHeartbeats 1000000 in
theorem f12_sum {F : Nat} {σ : Mem} {r : Int32 × Mem} (h : m12_sum F  σ = some r) : Fr (Wm12_sum) σ r.2 := by
  unfold m12_sum at h
  have ⟨_, hc1, h⟩ := b_some h
  have qhc1 := f12_term hc1
  rcases g_if h with ⟨hq, h⟩ | ⟨hq, h⟩
  · have e := Option.some.inj h
    subst e
    exact (Fr.trans (Fr.rf _ _) (Fr.mono qhc1 (fun c hw => by unfold Wm12_term at hw; unfold Wm12_sum; omega)))
  · exact Fr.trans (Fr.trans (Fr.rf _ _) (Fr.mono qhc1 (fun c hw => by unfold Wm12_term at hw; unfold Wm12_sum; omega))) (f12_sum_9 (F := F) F _ h)
def Wm12_compare (c : Nat) : Prop := c = 483 ∨ (485 ≤ c ∧ c ≤ 486)
set_option maxHeartbeats 1000000 in
theorem f12_compare_152 {F : Nat} {r : Int32 × Mem} : ∀ (s0 : Int32) (σ : Mem), m12_compare_152 F s0 σ = some r → Fr (Wm12_compare) σ r.2 := by
  intro s0 σ h
  unfold m12_compare_152 at h
  have ⟨_, hc1, h⟩ := b_some h
  have qhc1 := f12_sum hc1
  rcases g_if h with ⟨hq, h⟩ | ⟨hq, h⟩
  · have e := Option.some.inj h
    subst e
    exact (Fr.trans (Fr.rf _ _) (Fr.mono qhc1 (fun c hw => by unfold Wm12_sum at hw; unfold Wm12_compare; omega)))
  · have ⟨_, hc2, h⟩ := b_some h
    have qhc2 := f12_puts hc2
    have e := Option.some.inj h
    subst e
    exact (Fr.trans (Fr.trans (Fr.rf _ _) (Fr.mono qhc1 (fun c hw => by unfold Wm12_sum at hw; unfold Wm12_compare; omega))) (Fr.mono qhc2 (fun c hw => by unfold Wm12_puts at hw; unfold Wm12_compare; omega)))
set_option maxHeartbeats 1000000 in
theorem f12_compare_105 {F : Nat} {r : Int32 × Mem} : ∀ (x1 : Int32) (x2 : Int32) (x3 : Int32) (σ : Mem), m12_compare_105 F x1 x2 x3 σ = some r → Fr (Wm12_compare) σ r.2 := by
  intro x1 x2 x3 σ h
  unfold m12_compare_105 at h
  have ⟨_, hc1, h⟩ := b_some h
  have qhc1 := f12_makes hc1
  rcases g_if h with ⟨hq, h⟩ | ⟨hq, h⟩
  · have e := Option.some.inj h
    subst e
    exact (Fr.trans (Fr.rf _ _) (Fr.mono qhc1 (fun c hw => by unfold Wm12_makes at hw; unfold Wm12_compare; omega)))
  · rcases g_if h with ⟨hq, h⟩ | ⟨hq, h⟩
    · rcases g_if h with ⟨hq, h⟩ | ⟨hq, h⟩
      · exact Fr.trans (Fr.trans (Fr.rf _ _) (Fr.mono qhc1 (fun c hw => by unfold Wm12_makes at hw; unfold Wm12_compare; omega))) (f12_compare_152 (F := F) _ _ h)
      · exact Fr.trans (Fr.trans (Fr.rf _ _) (Fr.mono qhc1 (fun c hw => by unfold Wm12_makes at hw; unfold Wm12_compare; omega))) (f12_compare_152 (F := F) _ _ h)
    · rcases g_if h with ⟨hq, h⟩ | ⟨hq, h⟩
      · exact Fr.trans (Fr.trans (Fr.rf _ _) (Fr.mono qhc1 (fun c hw => by unfold Wm12_makes at hw; unfold Wm12_compare; omega))) (f12_compare_152 (F := F) _ _ h)
      · rcases g_if h with ⟨hq, h⟩ | ⟨hq, h⟩
        · exact Fr.trans (Fr.trans (Fr.rf _ _) (Fr.mono qhc1 (fun c hw => by unfold Wm12_makes at hw; unfold Wm12_compare; omega))) (f12_compare_152 (F := F) _ _ h)
        · exact Fr.trans (Fr.trans (Fr.rf _ _) (Fr.mono qhc1 (fun c hw => by unfold Wm12_makes at hw; unfold Wm12_compare; omega))) (f12_compare_152 (F := F) _ _ h)
set_option maxHeartbeats 1000000 in
theorem f12_compare_90 {F : Nat} {r : Int32 × Mem} : ∀ (x1 : Int32) (x2 : Int32) (s0 : Int32) (σ : Mem), m12_compare_90 F x1 x2 s0 σ = some r → Fr (Wm12_compare) σ r.2 := by
  intro x1 x2 s0 σ h
  unfold m12_compare_90 at h
  rcases g_if h with ⟨hq, h⟩ | ⟨hq, h⟩
  · exact Fr.trans (Fr.rf _ _) (f12_compare_105 (F := F) _ _ _ _ h)
  · exact Fr.trans (Fr.sI (Fr.rf _ _) (by unfold Wm12_compare; omega)) (f12_compare_105 (F := F) _ _ _ _ h)
set_option maxHeartbeats 1000000 in
theorem f12_compare_89 {F : Nat} {r : Int32 × Mem} {k90 : Int32 → Int32 → Int32 → Mem → Option (Int32 × Mem)} (hk90 : ∀ (x1 : Int32) (x2 : Int32) (s0 : Int32) (σ : Mem), k90 x1 x2 s0 σ = some r → Fr (Wm12_compare) σ r.2) : ∀ (x1 : Int32) (x2 : Int32) (σ : Mem), m12_compare_89 F k90 x1 x2 σ = some r → Fr (Wm12_compare) σ r.2 := by
  intro x1 x2 σ h
  unfold m12_compare_89 at h
  exact Fr.trans (Fr.rf _ _) (hk90 _ _ _ _ h)
set_option maxHeartbeats 1000000 in
theorem f12_compare_44 {F : Nat} {r : Int32 × Mem} : ∀ (x1 : Int32) (x2 : Int32) (σ : Mem), m12_compare_44 F x1 x2 σ = some r → Fr (Wm12_compare) σ r.2 := by
  intro x1 x2 σ h
  unfold m12_compare_44 at h
  rcases g_if h with ⟨hq, h⟩ | ⟨hq, h⟩
  · exact Fr.trans (Fr.sI (Fr.rf _ _) (by unfold Wm12_compare; omega)) (f12_compare_89 (F := F) (fun _ _ _ _ h => (f12_compare_90 (F := F) _ _ _ _ h)) _ _ _ h)
  · rcases g_if h with ⟨hq, h⟩ | ⟨hq, h⟩
    · exact Fr.trans (Fr.sI (Fr.rf _ _) (by unfold Wm12_compare; omega)) (f12_compare_89 (F := F) (fun _ _ _ _ h => (f12_compare_90 (F := F) _ _ _ _ h)) _ _ _ h)
    · have ⟨hg, h⟩ := g_gd h
      have hb := inB_lt hg
      rcases g_if h with ⟨hq, h⟩ | ⟨hq, h⟩
      · exact Fr.trans (Fr.sI (Fr.rf _ _) (by unfold Wm12_compare; omega)) (f12_compare_90 (F := F) _ _ _ _ h)
      · exact Fr.trans (Fr.sI (Fr.rf _ _) (by unfold Wm12_compare; omega)) (f12_compare_89 (F := F) (fun _ _ _ _ h => (f12_compare_90 (F := F) _ _ _ _ h)) _ _ _ h)
set_option maxHeartbeats 1000000 in
theorem f12_compare {F : Nat} {σ : Mem} {r : Int32 × Mem} (h : m12_compare F  σ = some r) : Fr (Wm12_compare) σ r.2 := by
  unfold m12_compare at h
  have ⟨_, hc1, h⟩ := b_some h
  have qhc1 := f12_sum hc1
  rcases g_if h with ⟨hq, h⟩ | ⟨hq, h⟩
  · have e := Option.some.inj h
    subst e
    exact (Fr.trans (Fr.rf _ _) (Fr.mono qhc1 (fun c hw => by unfold Wm12_sum at hw; unfold Wm12_compare; omega)))
  · have ⟨_, hc2, h⟩ := b_some h
    have qhc2 := f12_see hc2
    rcases g_if h with ⟨hq, h⟩ | ⟨hq, h⟩
    · exact Fr.trans (Fr.trans (Fr.trans (Fr.rf _ _) (Fr.mono qhc1 (fun c hw => by unfold Wm12_sum at hw; unfold Wm12_compare; omega))) (Fr.mono qhc2 (fun c hw => by unfold Wm12_see at hw; unfold Wm12_compare; omega))) (f12_compare_44 (F := F) _ _ _ h)
    · rcases g_if h with ⟨hq, h⟩ | ⟨hq, h⟩
      · exact Fr.trans (Fr.trans (Fr.trans (Fr.rf _ _) (Fr.mono qhc1 (fun c hw => by unfold Wm12_sum at hw; unfold Wm12_compare; omega))) (Fr.mono qhc2 (fun c hw => by unfold Wm12_see at hw; unfold Wm12_compare; omega))) (f12_compare_44 (F := F) _ _ _ h)
      · rcases g_if h with ⟨hq, h⟩ | ⟨hq, h⟩
        · exact Fr.trans (Fr.trans (Fr.trans (Fr.rf _ _) (Fr.mono qhc1 (fun c hw => by unfold Wm12_sum at hw; unfold Wm12_compare; omega))) (Fr.mono qhc2 (fun c hw => by unfold Wm12_see at hw; unfold Wm12_compare; omega))) (f12_compare_44 (F := F) _ _ _ h)
        · have ⟨_, hc3, h⟩ := b_some h
          have qhc3 := f12_fails hc3
          have ⟨hg, h⟩ := g_gd h
          have e := Option.some.inj h
          subst e
          exact (Fr.trans (Fr.trans (Fr.trans (Fr.rf _ _) (Fr.mono qhc1 (fun c hw => by unfold Wm12_sum at hw; unfold Wm12_compare; omega))) (Fr.mono qhc2 (fun c hw => by unfold Wm12_see at hw; unfold Wm12_compare; omega))) (Fr.mono qhc3 (fun c hw => by unfold Wm12_fails at hw; unfold Wm12_compare; omega)))
def Wm12_fact (c : Nat) : Prop := c = 483 ∨ (485 ≤ c ∧ c ≤ 486) ∨ c = 490
set_option maxHeartbeats 1000000 in
theorem f12_fact_2 {F : Nat} {r : Int32 × Mem} : ∀ (n : Nat) (x1 : Int32) (σ : Mem), m12_fact_2 F n x1 σ = some r → Fr (Wm12_fact) σ r.2 := by
  intro n
  induction n with
  | zero => intro x1 σ h; unfold m12_fact_2 at h; cases h
  | succ n ih =>
    intro x1 σ h
    unfold m12_fact_2 at h
    rcases g_if h with ⟨hq, h⟩ | ⟨hq, h⟩
    · have ⟨_, hc1, h⟩ := b_some h
      have qhc1 := f12_compare hc1
      have ⟨hg, h⟩ := g_gd h
      have e := Option.some.inj h
      subst e
      exact (Fr.trans (Fr.rf _ _) (Fr.mono qhc1 (fun c hw => by unfold Wm12_compare at hw; unfold Wm12_fact; omega)))
    · have ⟨_, hc1, h⟩ := b_some h
      have qhc1 := f12_see hc1
      have ⟨_, hc2, h⟩ := b_some h
      have qhc2 := f12_isWord hc2
      rcases g_if h with ⟨hq, h⟩ | ⟨hq, h⟩
      · rcases g_if h with ⟨hq, h⟩ | ⟨hq, h⟩
        · have ⟨_, hc3, h⟩ := b_some h
          have qhc3 := f12_opens hc3
          rcases g_if h with ⟨hq, h⟩ | ⟨hq, h⟩
          · have e := Option.some.inj h
            subst e
            exact (Fr.trans (Fr.trans (Fr.trans (Fr.rf _ _) (Fr.mono qhc1 (fun c hw => by unfold Wm12_see at hw; unfold Wm12_fact; omega))) (Fr.mono qhc2 (fun c hw => by unfold Wm12_isWord at hw; unfold Wm12_fact; omega))) (Fr.mono qhc3 (fun c hw => by unfold Wm12_opens at hw; unfold Wm12_fact; omega)))
          · exact Fr.trans (Fr.sI (Fr.trans (Fr.trans (Fr.trans (Fr.rf _ _) (Fr.mono qhc1 (fun c hw => by unfold Wm12_see at hw; unfold Wm12_fact; omega))) (Fr.mono qhc2 (fun c hw => by unfold Wm12_isWord at hw; unfold Wm12_fact; omega))) (Fr.mono qhc3 (fun c hw => by unfold Wm12_opens at hw; unfold Wm12_fact; omega))) (by unfold Wm12_fact; omega)) (ih _ _ h)
        · exact Fr.trans (Fr.trans (Fr.trans (Fr.rf _ _) (Fr.mono qhc1 (fun c hw => by unfold Wm12_see at hw; unfold Wm12_fact; omega))) (Fr.mono qhc2 (fun c hw => by unfold Wm12_isWord at hw; unfold Wm12_fact; omega))) (ih _ _ h)
      · have ⟨_, hc3, h⟩ := b_some h
        have qhc3 := f12_opens hc3
        rcases g_if h with ⟨hq, h⟩ | ⟨hq, h⟩
        · have e := Option.some.inj h
          subst e
          exact (Fr.trans (Fr.trans (Fr.trans (Fr.rf _ _) (Fr.mono qhc1 (fun c hw => by unfold Wm12_see at hw; unfold Wm12_fact; omega))) (Fr.mono qhc2 (fun c hw => by unfold Wm12_isWord at hw; unfold Wm12_fact; omega))) (Fr.mono qhc3 (fun c hw => by unfold Wm12_opens at hw; unfold Wm12_fact; omega)))
        · have ⟨_, hc4, h⟩ := b_some h
          have qhc4 := f12_passWord hc4
          exact Fr.trans (Fr.trans (Fr.trans (Fr.trans (Fr.trans (Fr.rf _ _) (Fr.mono qhc1 (fun c hw => by unfold Wm12_see at hw; unfold Wm12_fact; omega))) (Fr.mono qhc2 (fun c hw => by unfold Wm12_isWord at hw; unfold Wm12_fact; omega))) (Fr.mono qhc3 (fun c hw => by unfold Wm12_opens at hw; unfold Wm12_fact; omega))) (Fr.mono qhc4 (fun c hw => by unfold Wm12_passWord at hw; unfold Wm12_fact; omega))) (ih _ _ h)
set_option maxHeartbeats 1000000 in
theorem f12_fact {F : Nat} {σ : Mem} {r : Int32 × Mem} (h : m12_fact F  σ = some r) : Fr (Wm12_fact) σ r.2 := by
  unfold m12_fact at h
  exact Fr.trans (Fr.rf _ _) (f12_fact_2 (F := F) F _ _ h)
def Wm12_closes (c : Nat) : Prop := c = 483 ∨ (485 ≤ c ∧ c ≤ 486)
set_option maxHeartbeats 1000000 in
theorem f12_closes_5 {F : Nat} {r : Mem} : ∀ (n : Nat) (σ : Mem), m12_closes_5 F n σ = some r → Fr (Wm12_closes) σ r := by
  intro n
  induction n with
  | zero => intro σ h; unfold m12_closes_5 at h; cases h
  | succ n ih =>
    intro σ h
    unfold m12_closes_5 at h
    have ⟨_, hc1, h⟩ := b_some h
    have qhc1 := f12_see hc1
    rcases g_if h with ⟨hq, h⟩ | ⟨hq, h⟩
    · have ⟨_, hc2, h⟩ := b_some h
      rcases g_if h with ⟨hq, h⟩ | ⟨hq, h⟩
      · have e := Option.some.inj h
        subst e
        exact (Fr.trans (Fr.rf _ _) (Fr.mono qhc1 (fun c hw => by unfold Wm12_see at hw; unfold Wm12_closes; omega)))
      · have ⟨_, hc3, h⟩ := b_some h
        have qhc3 := f12_settles hc3
        have ⟨_, hc4, h⟩ := b_some h
        have qhc4 := f12_settles hc4
        exact Fr.trans (Fr.trans (Fr.sI (Fr.sI (Fr.sI (Fr.trans (Fr.trans (Fr.rf _ _) (Fr.mono qhc1 (fun c hw => by unfold Wm12_see at hw; unfold Wm12_closes; omega))) (Fr.mono qhc3 (fun c hw => by unfold Wm12_settles at hw; unfold Wm12_closes; omega))) (by unfold Wm12_closes; omega)) (by unfold Wm12_closes; omega)) (by unfold Wm12_closes; omega)) (Fr.mono qhc4 (fun c hw => by unfold Wm12_settles at hw; unfold Wm12_closes; omega))) (ih _ h)
    · have e := Option.some.inj h
      subst e
      exact (Fr.trans (Fr.rf _ _) (Fr.mono qhc1 (fun c hw => by unfold Wm12_see at hw; unfold Wm12_closes; omega)))
set_option maxHeartbeats 1000000 in
theorem f12_closes {F : Nat} {σ : Mem} {r : Mem} (h : m12_closes F  σ = some r) : Fr (Wm12_closes) σ r := by
  unfold m12_closes at h
  have ⟨_, hc1, h⟩ := b_some h
  have qhc1 := f12_settles hc1
  exact Fr.trans (Fr.trans (Fr.rf _ _) (Fr.mono qhc1 (fun c hw => by unfold Wm12_settles at hw; unfold Wm12_closes; omega))) (f12_closes_5 (F := F) F _ h)
def Wm12_tested (c : Nat) : Prop := c = 483 ∨ (485 ≤ c ∧ c ≤ 486) ∨ c = 490
set_option maxHeartbeats 1000000 in
theorem f12_tested_76 {F : Nat} {r : Int32 × Mem} {k12 : Int32 → Mem → Option (Int32 × Mem)} (hk12 : ∀ (x1 : Int32) (σ : Mem), k12 x1 σ = some r → Fr (Wm12_tested) σ r.2) : ∀ (x1 : Int32) (s0 : Int32) (σ : Mem), m12_tested_76 F k12 x1 s0 σ = some r → Fr (Wm12_tested) σ r.2 := by
  intro x1 s0 σ h
  unfold m12_tested_76 at h
  have ⟨_, hc1, h⟩ := b_some h
  have qhc1 := f12_passWord hc1
  have ⟨_, hc2, h⟩ := b_some h
  have ⟨_, hc3, h⟩ := b_some h
  have qhc3 := f12_settles hc3
  have ⟨hg, h⟩ := g_gd h
  have hb := inB_lt hg
  exact Fr.trans (Fr.sI (Fr.sI (Fr.trans (Fr.trans (Fr.rf _ _) (Fr.mono qhc1 (fun c hw => by unfold Wm12_passWord at hw; unfold Wm12_tested; omega))) (Fr.mono qhc3 (fun c hw => by unfold Wm12_settles at hw; unfold Wm12_tested; omega))) (by unfold Wm12_tested; omega)) (by unfold Wm12_tested; omega)) (hk12 _ _ h)
set_option maxHeartbeats 1000000 in
theorem f12_tested_54 {F : Nat} {r : Int32 × Mem} {k12 : Int32 → Mem → Option (Int32 × Mem)} (hk12 : ∀ (x1 : Int32) (σ : Mem), k12 x1 σ = some r → Fr (Wm12_tested) σ r.2) : ∀ (s0 : Int32) (σ : Mem), m12_tested_54 F k12 s0 σ = some r → Fr (Wm12_tested) σ r.2 := by
  intro s0 σ h
  unfold m12_tested_54 at h
  rcases g_if h with ⟨hq, h⟩ | ⟨hq, h⟩
  · exact Fr.trans (Fr.rf _ _) (hk12 _ _ h)
  · have ⟨_, hc1, h⟩ := b_some h
    have qhc1 := f12_isWord hc1
    rcases g_if h with ⟨hq, h⟩ | ⟨hq, h⟩
    · exact Fr.trans (Fr.trans (Fr.rf _ _) (Fr.mono qhc1 (fun c hw => by unfold Wm12_isWord at hw; unfold Wm12_tested; omega))) (f12_tested_76 (F := F) (fun _ _ h => (hk12 _ _ h)) _ _ _ h)
    · exact Fr.trans (Fr.trans (Fr.rf _ _) (Fr.mono qhc1 (fun c hw => by unfold Wm12_isWord at hw; unfold Wm12_tested; omega))) (f12_tested_76 (F := F) (fun _ _ h => (hk12 _ _ h)) _ _ _ h)
set_option maxHeartbeats 1000000 in
theorem f12_tested_49 {F : Nat} {r : Int32 × Mem} {k54 : Int32 → Mem → Option (Int32 × Mem)} (hk54 : ∀ (s0 : Int32) (σ : Mem), k54 s0 σ = some r → Fr (Wm12_tested) σ r.2) : ∀ (σ : Mem), m12_tested_49 F k54 σ = some r → Fr (Wm12_tested) σ r.2 := by
  intro σ h
  unfold m12_tested_49 at h
  exact Fr.trans (Fr.rf _ _) (hk54 _ _ h)
set_option maxHeartbeats 1000000 in
theorem f12_tested_12 {F : Nat} {r : Int32 × Mem} : ∀ (n : Nat) (x1 : Int32) (σ : Mem), m12_tested_12 F n x1 σ = some r → Fr (Wm12_tested) σ r.2 := by
  intro n
  induction n with
  | zero => intro x1 σ h; unfold m12_tested_12 at h; cases h
  | succ n ih =>
    intro x1 σ h
    unfold m12_tested_12 at h
    rcases g_if h with ⟨hq, h⟩ | ⟨hq, h⟩
    · have ⟨_, hc1, h⟩ := b_some h
      rcases g_if h with ⟨hq, h⟩ | ⟨hq, h⟩
      · have ⟨_, hc2, h⟩ := b_some h
        have qhc2 := f12_settles hc2
        have e := Option.some.inj h
        subst e
        exact (Fr.trans (Fr.rf _ _) (Fr.mono qhc2 (fun c hw => by unfold Wm12_settles at hw; unfold Wm12_tested; omega)))
      · have ⟨_, hc2, h⟩ := b_some h
        have qhc2 := f12_see hc2
        have ⟨_, hc3, h⟩ := b_some h
        have qhc3 := f12_fails hc3
        have ⟨hg, h⟩ := g_gd h
        have e := Option.some.inj h
        subst e
        exact (Fr.trans (Fr.trans (Fr.rf _ _) (Fr.mono qhc2 (fun c hw => by unfold Wm12_see at hw; unfold Wm12_tested; omega))) (Fr.mono qhc3 (fun c hw => by unfold Wm12_fails at hw; unfold Wm12_tested; omega)))
    · have ⟨_, hc1, h⟩ := b_some h
      have qhc1 := f12_fact hc1
      rcases g_if h with ⟨hq, h⟩ | ⟨hq, h⟩
      · have e := Option.some.inj h
        subst e
        exact (Fr.trans (Fr.rf _ _) (Fr.mono qhc1 (fun c hw => by unfold Wm12_fact at hw; unfold Wm12_tested; omega)))
      · have ⟨_, hc2, h⟩ := b_some h
        have qhc2 := f12_closes hc2
        have ⟨_, hc3, h⟩ := b_some h
        have qhc3 := f12_isWord hc3
        rcases g_if h with ⟨hq, h⟩ | ⟨hq, h⟩
        · have ⟨_, hc4, h⟩ := b_some h
          have qhc4 := f12_isWord hc4
          rcases g_if h with ⟨hq, h⟩ | ⟨hq, h⟩
          · exact Fr.trans (Fr.trans (Fr.trans (Fr.trans (Fr.trans (Fr.rf _ _) (Fr.mono qhc1 (fun c hw => by unfold Wm12_fact at hw; unfold Wm12_tested; omega))) (Fr.mono qhc2 (fun c hw => by unfold Wm12_closes at hw; unfold Wm12_tested; omega))) (Fr.mono qhc3 (fun c hw => by unfold Wm12_isWord at hw; unfold Wm12_tested; omega))) (Fr.mono qhc4 (fun c hw => by unfold Wm12_isWord at hw; unfold Wm12_tested; omega))) (f12_tested_54 (F := F) (fun _ _ h => (ih _ _ h)) _ _ h)
          · exact Fr.trans (Fr.trans (Fr.trans (Fr.trans (Fr.trans (Fr.rf _ _) (Fr.mono qhc1 (fun c hw => by unfold Wm12_fact at hw; unfold Wm12_tested; omega))) (Fr.mono qhc2 (fun c hw => by unfold Wm12_closes at hw; unfold Wm12_tested; omega))) (Fr.mono qhc3 (fun c hw => by unfold Wm12_isWord at hw; unfold Wm12_tested; omega))) (Fr.mono qhc4 (fun c hw => by unfold Wm12_isWord at hw; unfold Wm12_tested; omega))) (f12_tested_49 (F := F) (fun _ _ h => (f12_tested_54 (F := F) (fun _ _ h => (ih _ _ h)) _ _ h)) _ h)
        · exact Fr.trans (Fr.trans (Fr.trans (Fr.trans (Fr.rf _ _) (Fr.mono qhc1 (fun c hw => by unfold Wm12_fact at hw; unfold Wm12_tested; omega))) (Fr.mono qhc2 (fun c hw => by unfold Wm12_closes at hw; unfold Wm12_tested; omega))) (Fr.mono qhc3 (fun c hw => by unfold Wm12_isWord at hw; unfold Wm12_tested; omega))) (f12_tested_49 (F := F) (fun _ _ h => (f12_tested_54 (F := F) (fun _ _ h => (ih _ _ h)) _ _ h)) _ h)
set_option maxHeartbeats 1000000 in
theorem f12_tested {F : Nat} {σ : Mem} {r : Int32 × Mem} (h : m12_tested F  σ = some r) : Fr (Wm12_tested) σ r.2 := by
  unfold m12_tested at h
  exact Fr.trans (Fr.sI (Fr.sI (Fr.rf _ _) (by unfold Wm12_tested; omega)) (by unfold Wm12_tested; omega)) (f12_tested_12 (F := F) F _ _ h)
def Wm12_isStrikeHere (c : Nat) : Prop := c = 483 ∨ (485 ≤ c ∧ c ≤ 488) ∨ c = 490
set_option maxHeartbeats 1000000 in
theorem f12_isStrikeHere_110 {F : Nat} {r : Int32 × Mem} : ∀ (x1 : Int32) (σ : Mem), m12_isStrikeHere_110 F x1 σ = some r → Fr (Wm12_isStrikeHere) σ r.2 := by
  intro x1 σ h
  unfold m12_isStrikeHere_110 at h
  have ⟨hg, h⟩ := g_gd h
  have hb := inB_lt hg
  have ⟨hg, h⟩ := g_gd h
  have hb := inB_lt hg
  have ⟨hg, h⟩ := g_gd h
  have hb := inB_lt hg
  have ⟨hg, h⟩ := g_gd h
  have hb := inB_lt hg
  have e := Option.some.inj h
  subst e
  exact (Fr.sI (Fr.sI (Fr.rf _ _) (by unfold Wm12_isStrikeHere; omega)) (by unfold Wm12_isStrikeHere; omega))
set_option maxHeartbeats 1000000 in
theorem f12_isStrikeHere {F : Nat} {σ : Mem} {r : Int32 × Mem} (h : m12_isStrikeHere F  σ = some r) : Fr (Wm12_isStrikeHere) σ r.2 := by
  unfold m12_isStrikeHere at h
  have ⟨_, hc1, h⟩ := b_some h
  have qhc1 := f12_passWord hc1
  have ⟨hg, h⟩ := g_gd h
  have hb := inB_lt hg
  have ⟨hg, h⟩ := g_gd h
  have hb := inB_lt hg
  have ⟨hg, h⟩ := g_gd h
  have hb := inB_lt hg
  have ⟨_, hc2, h⟩ := b_some h
  have qhc2 := f12_sum hc2
  rcases g_if h with ⟨hq, h⟩ | ⟨hq, h⟩
  · have e := Option.some.inj h
    subst e
    exact (Fr.trans (Fr.sI (Fr.trans (Fr.rf _ _) (Fr.mono qhc1 (fun c hw => by unfold Wm12_passWord at hw; unfold Wm12_isStrikeHere; omega))) (by unfold Wm12_isStrikeHere; omega)) (Fr.mono qhc2 (fun c hw => by unfold Wm12_sum at hw; unfold Wm12_isStrikeHere; omega)))
  · have ⟨hg, h⟩ := g_gd h
    have hb := inB_lt hg
    have ⟨hg, h⟩ := g_gd h
    have hb := inB_lt hg
    have ⟨hg, h⟩ := g_gd h
    have hb := inB_lt hg
    have ⟨_, hc3, h⟩ := b_some h
    have qhc3 := f12_takesWord hc3
    rcases g_if h with ⟨hq, h⟩ | ⟨hq, h⟩
    · exact Fr.trans (Fr.trans (Fr.sI (Fr.sI (Fr.trans (Fr.sI (Fr.trans (Fr.rf _ _) (Fr.mono qhc1 (fun c hw => by unfold Wm12_passWord at hw; unfold Wm12_isStrikeHere; omega))) (by unfold Wm12_isStrikeHere; omega)) (Fr.mono qhc2 (fun c hw => by unfold Wm12_sum at hw; unfold Wm12_isStrikeHere; omega))) (by unfold Wm12_isStrikeHere; omega)) (by unfold Wm12_isStrikeHere; omega)) (Fr.mono qhc3 (fun c hw => by unfold Wm12_takesWord at hw; unfold Wm12_isStrikeHere; omega))) (f12_isStrikeHere_110 (F := F) _ _ h)
    · have ⟨hg, h⟩ := g_gd h
      have hb := inB_lt hg
      have ⟨hg, h⟩ := g_gd h
      have hb := inB_lt hg
      have ⟨_, hc4, h⟩ := b_some h
      have qhc4 := f12_tested hc4
      rcases g_if h with ⟨hq, h⟩ | ⟨hq, h⟩
      · have e := Option.some.inj h
        subst e
        exact (Fr.trans (Fr.sI (Fr.trans (Fr.sI (Fr.sI (Fr.trans (Fr.sI (Fr.trans (Fr.rf _ _) (Fr.mono qhc1 (fun c hw => by unfold Wm12_passWord at hw; unfold Wm12_isStrikeHere; omega))) (by unfold Wm12_isStrikeHere; omega)) (Fr.mono qhc2 (fun c hw => by unfold Wm12_sum at hw; unfold Wm12_isStrikeHere; omega))) (by unfold Wm12_isStrikeHere; omega)) (by unfold Wm12_isStrikeHere; omega)) (Fr.mono qhc3 (fun c hw => by unfold Wm12_takesWord at hw; unfold Wm12_isStrikeHere; omega))) (by unfold Wm12_isStrikeHere; omega)) (Fr.mono qhc4 (fun c hw => by unfold Wm12_tested at hw; unfold Wm12_isStrikeHere; omega)))
      · exact Fr.trans (Fr.trans (Fr.sI (Fr.trans (Fr.sI (Fr.sI (Fr.trans (Fr.sI (Fr.trans (Fr.rf _ _) (Fr.mono qhc1 (fun c hw => by unfold Wm12_passWord at hw; unfold Wm12_isStrikeHere; omega))) (by unfold Wm12_isStrikeHere; omega)) (Fr.mono qhc2 (fun c hw => by unfold Wm12_sum at hw; unfold Wm12_isStrikeHere; omega))) (by unfold Wm12_isStrikeHere; omega)) (by unfold Wm12_isStrikeHere; omega)) (Fr.mono qhc3 (fun c hw => by unfold Wm12_takesWord at hw; unfold Wm12_isStrikeHere; omega))) (by unfold Wm12_isStrikeHere; omega)) (Fr.mono qhc4 (fun c hw => by unfold Wm12_tested at hw; unfold Wm12_isStrikeHere; omega))) (f12_isStrikeHere_110 (F := F) _ _ h)
def Wm12_cellHere (c : Nat) : Prop := c = 483 ∨ c = 489
set_option maxHeartbeats 1000000 in
theorem f12_cellHere {F : Nat} {i1 : Int32} {i2 : Int32} {i3 : Int32} {σ : Mem} {r : Int32 × Mem} (h : m12_cellHere F i1 i2 i3 σ = some r) : Fr (Wm12_cellHere) σ r.2 := by
  unfold m12_cellHere at h
  have ⟨_, hc1, h⟩ := b_some h
  have qhc1 := f12_numberHere hc1
  rcases g_if h with ⟨hq, h⟩ | ⟨hq, h⟩
  · have e := Option.some.inj h
    subst e
    exact (Fr.trans (Fr.rf _ _) (Fr.mono qhc1 (fun c hw => by unfold Wm12_numberHere at hw; unfold Wm12_cellHere; omega)))
  · have ⟨hg, h⟩ := g_gd h
    have hb := inB_lt hg
    have e := Option.some.inj h
    subst e
    exact (Fr.sI (Fr.trans (Fr.rf _ _) (Fr.mono qhc1 (fun c hw => by unfold Wm12_numberHere at hw; unfold Wm12_cellHere; omega))) (by unfold Wm12_cellHere; omega))
def Wm12_isSmithyHere (c : Nat) : Prop := c = 483 ∨ c = 489
set_option maxHeartbeats 1000000 in
theorem f12_isSmithyHere {F : Nat} {i1 : Int32} {σ : Mem} {r : Int32 × Mem} (h : m12_isSmithyHere F i1 σ = some r) : Fr (Wm12_isSmithyHere) σ r.2 := by
  unfold m12_isSmithyHere at h
  have ⟨hg, h⟩ := g_gd h
  have hb := inB_lt hg
  rcases g_if h with ⟨hq, h⟩ | ⟨hq, h⟩
  · have ⟨_, hc1, h⟩ := b_some h
    have qhc1 := f12_passWord hc1
    have ⟨_, hc2, h⟩ := b_some h
    have qhc2 := f12_numberHere hc2
    rcases g_if h with ⟨hq, h⟩ | ⟨hq, h⟩
    · have e := Option.some.inj h
      subst e
      exact (Fr.trans (Fr.trans (Fr.rf _ _) (Fr.mono qhc1 (fun c hw => by unfold Wm12_passWord at hw; unfold Wm12_isSmithyHere; omega))) (Fr.mono qhc2 (fun c hw => by unfold Wm12_numberHere at hw; unfold Wm12_isSmithyHere; omega)))
    · have ⟨_, hc3, h⟩ := b_some h
      have qhc3 := f12_cellHere hc3
      rcases g_if h with ⟨hq, h⟩ | ⟨hq, h⟩
      · have e := Option.some.inj h
        subst e
        exact (Fr.trans (Fr.trans (Fr.trans (Fr.rf _ _) (Fr.mono qhc1 (fun c hw => by unfold Wm12_passWord at hw; unfold Wm12_isSmithyHere; omega))) (Fr.mono qhc2 (fun c hw => by unfold Wm12_numberHere at hw; unfold Wm12_isSmithyHere; omega))) (Fr.mono qhc3 (fun c hw => by unfold Wm12_cellHere at hw; unfold Wm12_isSmithyHere; omega)))
      · have ⟨_, hc4, h⟩ := b_some h
        have qhc4 := f12_cellHere hc4
        rcases g_if h with ⟨hq, h⟩ | ⟨hq, h⟩
        · have e := Option.some.inj h
          subst e
          exact (Fr.trans (Fr.trans (Fr.trans (Fr.trans (Fr.rf _ _) (Fr.mono qhc1 (fun c hw => by unfold Wm12_passWord at hw; unfold Wm12_isSmithyHere; omega))) (Fr.mono qhc2 (fun c hw => by unfold Wm12_numberHere at hw; unfold Wm12_isSmithyHere; omega))) (Fr.mono qhc3 (fun c hw => by unfold Wm12_cellHere at hw; unfold Wm12_isSmithyHere; omega))) (Fr.mono qhc4 (fun c hw => by unfold Wm12_cellHere at hw; unfold Wm12_isSmithyHere; omega)))
        · have ⟨hg, h⟩ := g_gd h
          have hb := inB_lt hg
          have e := Option.some.inj h
          subst e
          exact (Fr.sI (Fr.trans (Fr.trans (Fr.trans (Fr.trans (Fr.rf _ _) (Fr.mono qhc1 (fun c hw => by unfold Wm12_passWord at hw; unfold Wm12_isSmithyHere; omega))) (Fr.mono qhc2 (fun c hw => by unfold Wm12_numberHere at hw; unfold Wm12_isSmithyHere; omega))) (Fr.mono qhc3 (fun c hw => by unfold Wm12_cellHere at hw; unfold Wm12_isSmithyHere; omega))) (Fr.mono qhc4 (fun c hw => by unfold Wm12_cellHere at hw; unfold Wm12_isSmithyHere; omega))) (by unfold Wm12_isSmithyHere; omega))
  · have ⟨_, hc1, h⟩ := b_some h
    have qhc1 := f12_fails hc1
    have ⟨hg, h⟩ := g_gd h
    have e := Option.some.inj h
    subst e
    exact (Fr.trans (Fr.rf _ _) (Fr.mono qhc1 (fun c hw => by unfold Wm12_fails at hw; unfold Wm12_isSmithyHere; omega)))
def Wm12_isSmithHere (c : Nat) : Prop := c = 483 ∨ c = 489
set_option maxHeartbeats 1000000 in
theorem f12_isSmithHere_51 {F : Nat} {i1 : Int32} {r : Int32 × Mem} : ∀ (n : Nat) (x2 : Int32) (x3 : Int32) (σ : Mem), m12_isSmithHere_51 F i1 n x2 x3 σ = some r → Fr (Wm12_isSmithHere) σ r.2 := by
  intro n
  induction n with
  | zero => intro x2 x3 σ h; unfold m12_isSmithHere_51 at h; cases h
  | succ n ih =>
    intro x2 x3 σ h
    unfold m12_isSmithHere_51 at h
    rcases g_if h with ⟨hq, h⟩ | ⟨hq, h⟩
    · have ⟨hg, h⟩ := g_gd h
      have hb := inB_lt hg
      have ⟨hg, h⟩ := g_gd h
      have hb := inB_lt hg
      have e := Option.some.inj h
      subst e
      exact (Fr.sI (Fr.rf _ _) (by unfold Wm12_isSmithHere; omega))
    · rcases g_if h with ⟨hq, h⟩ | ⟨hq, h⟩
      · exact Fr.trans (Fr.rf _ _) (ih _ _ _ h)
      · have ⟨hg, h⟩ := g_gd h
        have hb := inB_lt hg
        exact Fr.trans (Fr.sI (Fr.rf _ _) (by unfold Wm12_isSmithHere; omega)) (ih _ _ _ h)
set_option maxHeartbeats 1000000 in
theorem f12_isSmithHere {F : Nat} {i1 : Int32} {σ : Mem} {r : Int32 × Mem} (h : m12_isSmithHere F i1 σ = some r) : Fr (Wm12_isSmithHere) σ r.2 := by
  unfold m12_isSmithHere at h
  have ⟨hg, h⟩ := g_gd h
  have hb := inB_lt hg
  rcases g_if h with ⟨hq, h⟩ | ⟨hq, h⟩
  · have ⟨_, hc1, h⟩ := b_some h
    have qhc1 := f12_fails hc1
    have ⟨hg, h⟩ := g_gd h
    have e := Option.some.inj h
    subst e
    exact (Fr.trans (Fr.rf _ _) (Fr.mono qhc1 (fun c hw => by unfold Wm12_fails at hw; unfold Wm12_isSmithHere; omega)))
  · have ⟨_, hc1, h⟩ := b_some h
    have qhc1 := f12_passWord hc1
    have ⟨hg, h⟩ := g_gd h
    have hb := inB_lt hg
    have ⟨_, hc2, h⟩ := b_some h
    have qhc2 := f12_cellHere hc2
    rcases g_if h with ⟨hq, h⟩ | ⟨hq, h⟩
    · have e := Option.some.inj h
      subst e
      exact (Fr.trans (Fr.trans (Fr.rf _ _) (Fr.mono qhc1 (fun c hw => by unfold Wm12_passWord at hw; unfold Wm12_isSmithHere; omega))) (Fr.mono qhc2 (fun c hw => by unfold Wm12_cellHere at hw; unfold Wm12_isSmithHere; omega)))
    · exact Fr.trans (Fr.trans (Fr.trans (Fr.rf _ _) (Fr.mono qhc1 (fun c hw => by unfold Wm12_passWord at hw; unfold Wm12_isSmithHere; omega))) (Fr.mono qhc2 (fun c hw => by unfold Wm12_cellHere at hw; unfold Wm12_isSmithHere; omega))) (f12_isSmithHere_51 (F := F) F _ _ _ h)
def Wm12_partHere (c : Nat) : Prop := c = 483
set_option maxHeartbeats 1000000 in
theorem f12_partHere {F : Nat} {σ : Mem} {r : Int32 × Mem} (h : m12_partHere F  σ = some r) : Fr (Wm12_partHere) σ r.2 := by
  unfold m12_partHere at h
  have ⟨_, hc1, h⟩ := b_some h
  have qhc1 := f12_takesWord hc1
  rcases g_if h with ⟨hq, h⟩ | ⟨hq, h⟩
  · have ⟨_, hc2, h⟩ := b_some h
    have qhc2 := f12_takesWord hc2
    rcases g_if h with ⟨hq, h⟩ | ⟨hq, h⟩
    · have ⟨_, hc3, h⟩ := b_some h
      have qhc3 := f12_takesWord hc3
      rcases g_if h with ⟨hq, h⟩ | ⟨hq, h⟩
      · have ⟨_, hc4, h⟩ := b_some h
        have qhc4 := f12_takesWord hc4
        rcases g_if h with ⟨hq, h⟩ | ⟨hq, h⟩
        · have e := Option.some.inj h
          subst e
          exact (Fr.trans (Fr.trans (Fr.trans (Fr.trans (Fr.rf _ _) (Fr.mono qhc1 (fun c hw => by unfold Wm12_takesWord at hw; unfold Wm12_partHere; omega))) (Fr.mono qhc2 (fun c hw => by unfold Wm12_takesWord at hw; unfold Wm12_partHere; omega))) (Fr.mono qhc3 (fun c hw => by unfold Wm12_takesWord at hw; unfold Wm12_partHere; omega))) (Fr.mono qhc4 (fun c hw => by unfold Wm12_takesWord at hw; unfold Wm12_partHere; omega)))
        · have e := Option.some.inj h
          subst e
          exact (Fr.trans (Fr.trans (Fr.trans (Fr.trans (Fr.rf _ _) (Fr.mono qhc1 (fun c hw => by unfold Wm12_takesWord at hw; unfold Wm12_partHere; omega))) (Fr.mono qhc2 (fun c hw => by unfold Wm12_takesWord at hw; unfold Wm12_partHere; omega))) (Fr.mono qhc3 (fun c hw => by unfold Wm12_takesWord at hw; unfold Wm12_partHere; omega))) (Fr.mono qhc4 (fun c hw => by unfold Wm12_takesWord at hw; unfold Wm12_partHere; omega)))
      · have e := Option.some.inj h
        subst e
        exact (Fr.trans (Fr.trans (Fr.trans (Fr.rf _ _) (Fr.mono qhc1 (fun c hw => by unfold Wm12_takesWord at hw; unfold Wm12_partHere; omega))) (Fr.mono qhc2 (fun c hw => by unfold Wm12_takesWord at hw; unfold Wm12_partHere; omega))) (Fr.mono qhc3 (fun c hw => by unfold Wm12_takesWord at hw; unfold Wm12_partHere; omega)))
    · have e := Option.some.inj h
      subst e
      exact (Fr.trans (Fr.trans (Fr.rf _ _) (Fr.mono qhc1 (fun c hw => by unfold Wm12_takesWord at hw; unfold Wm12_partHere; omega))) (Fr.mono qhc2 (fun c hw => by unfold Wm12_takesWord at hw; unfold Wm12_partHere; omega)))
  · have e := Option.some.inj h
    subst e
    exact (Fr.trans (Fr.rf _ _) (Fr.mono qhc1 (fun c hw => by unfold Wm12_takesWord at hw; unfold Wm12_partHere; omega)))
def Wm12_isJobHere (c : Nat) : Prop := c = 483 ∨ c = 489
set_option maxHeartbeats 1000000 in
theorem f12_isJobHere {F : Nat} {i1 : Int32} {σ : Mem} {r : Int32 × Mem} (h : m12_isJobHere F i1 σ = some r) : Fr (Wm12_isJobHere) σ r.2 := by
  unfold m12_isJobHere at h
  have ⟨hg, h⟩ := g_gd h
  have hb := inB_lt hg
  rcases g_if h with ⟨hq, h⟩ | ⟨hq, h⟩
  · have ⟨_, hc1, h⟩ := b_some h
    have qhc1 := f12_fails hc1
    have ⟨hg, h⟩ := g_gd h
    have e := Option.some.inj h
    subst e
    exact (Fr.trans (Fr.rf _ _) (Fr.mono qhc1 (fun c hw => by unfold Wm12_fails at hw; unfold Wm12_isJobHere; omega)))
  · have ⟨_, hc1, h⟩ := b_some h
    have qhc1 := f12_passWord hc1
    have ⟨hg, h⟩ := g_gd h
    have hb := inB_lt hg
    have ⟨hg, h⟩ := g_gd h
    have hb := inB_lt hg
    have ⟨_, hc2, h⟩ := b_some h
    have qhc2 := f12_cellHere hc2
    rcases g_if h with ⟨hq, h⟩ | ⟨hq, h⟩
    · have e := Option.some.inj h
      subst e
      exact (Fr.trans (Fr.trans (Fr.rf _ _) (Fr.mono qhc1 (fun c hw => by unfold Wm12_passWord at hw; unfold Wm12_isJobHere; omega))) (Fr.mono qhc2 (fun c hw => by unfold Wm12_cellHere at hw; unfold Wm12_isJobHere; omega)))
    · have ⟨_, hc3, h⟩ := b_some h
      have qhc3 := f12_see hc3
      have ⟨_, hc4, h⟩ := b_some h
      have qhc4 := f12_partHere hc4
      have ⟨hg, h⟩ := g_gd h
      have hb := inB_lt hg
      have ⟨hg, h⟩ := g_gd h
      have hb := inB_lt hg
      rcases g_if h with ⟨hq, h⟩ | ⟨hq, h⟩
      · have ⟨_, hc5, h⟩ := b_some h
        have qhc5 := f12_cellHere hc5
        rcases g_if h with ⟨hq, h⟩ | ⟨hq, h⟩
        · have e := Option.some.inj h
          subst e
          exact (Fr.trans (Fr.sI (Fr.trans (Fr.trans (Fr.trans (Fr.trans (Fr.rf _ _) (Fr.mono qhc1 (fun c hw => by unfold Wm12_passWord at hw; unfold Wm12_isJobHere; omega))) (Fr.mono qhc2 (fun c hw => by unfold Wm12_cellHere at hw; unfold Wm12_isJobHere; omega))) (Fr.mono qhc3 (fun c hw => by unfold Wm12_see at hw; unfold Wm12_isJobHere; omega))) (Fr.mono qhc4 (fun c hw => by unfold Wm12_partHere at hw; unfold Wm12_isJobHere; omega))) (by unfold Wm12_isJobHere; omega)) (Fr.mono qhc5 (fun c hw => by unfold Wm12_cellHere at hw; unfold Wm12_isJobHere; omega)))
        · have ⟨_, hc6, h⟩ := b_some h
          have qhc6 := f12_cellHere hc6
          rcases g_if h with ⟨hq, h⟩ | ⟨hq, h⟩
          · have e := Option.some.inj h
            subst e
            exact (Fr.trans (Fr.trans (Fr.sI (Fr.trans (Fr.trans (Fr.trans (Fr.trans (Fr.rf _ _) (Fr.mono qhc1 (fun c hw => by unfold Wm12_passWord at hw; unfold Wm12_isJobHere; omega))) (Fr.mono qhc2 (fun c hw => by unfold Wm12_cellHere at hw; unfold Wm12_isJobHere; omega))) (Fr.mono qhc3 (fun c hw => by unfold Wm12_see at hw; unfold Wm12_isJobHere; omega))) (Fr.mono qhc4 (fun c hw => by unfold Wm12_partHere at hw; unfold Wm12_isJobHere; omega))) (by unfold Wm12_isJobHere; omega)) (Fr.mono qhc5 (fun c hw => by unfold Wm12_cellHere at hw; unfold Wm12_isJobHere; omega))) (Fr.mono qhc6 (fun c hw => by unfold Wm12_cellHere at hw; unfold Wm12_isJobHere; omega)))
          · have ⟨_, hc7, h⟩ := b_some h
            have qhc7 := f12_cellHere hc7
            rcases g_if h with ⟨hq, h⟩ | ⟨hq, h⟩
            · have e := Option.some.inj h
              subst e
              exact (Fr.trans (Fr.trans (Fr.trans (Fr.sI (Fr.trans (Fr.trans (Fr.trans (Fr.trans (Fr.rf _ _) (Fr.mono qhc1 (fun c hw => by unfold Wm12_passWord at hw; unfold Wm12_isJobHere; omega))) (Fr.mono qhc2 (fun c hw => by unfold Wm12_cellHere at hw; unfold Wm12_isJobHere; omega))) (Fr.mono qhc3 (fun c hw => by unfold Wm12_see at hw; unfold Wm12_isJobHere; omega))) (Fr.mono qhc4 (fun c hw => by unfold Wm12_partHere at hw; unfold Wm12_isJobHere; omega))) (by unfold Wm12_isJobHere; omega)) (Fr.mono qhc5 (fun c hw => by unfold Wm12_cellHere at hw; unfold Wm12_isJobHere; omega))) (Fr.mono qhc6 (fun c hw => by unfold Wm12_cellHere at hw; unfold Wm12_isJobHere; omega))) (Fr.mono qhc7 (fun c hw => by unfold Wm12_cellHere at hw; unfold Wm12_isJobHere; omega)))
            · have ⟨hg, h⟩ := g_gd h
              have hb := inB_lt hg
              have ⟨hg, h⟩ := g_gd h
              have hb := inB_lt hg
              have ⟨hg, h⟩ := g_gd h
              have hb := inB_lt hg
              have ⟨hg, h⟩ := g_gd h
              have hb := inB_lt hg
              have ⟨hg, h⟩ := g_gd h
              have hb := inB_lt hg
              have ⟨hg, h⟩ := g_gd h
              have hb := inB_lt hg
              have ⟨hg, h⟩ := g_gd h
              have hb := inB_lt hg
              have e := Option.some.inj h
              subst e
              exact (Fr.sI (Fr.sI (Fr.sI (Fr.sI (Fr.trans (Fr.trans (Fr.trans (Fr.sI (Fr.trans (Fr.trans (Fr.trans (Fr.trans (Fr.rf _ _) (Fr.mono qhc1 (fun c hw => by unfold Wm12_passWord at hw; unfold Wm12_isJobHere; omega))) (Fr.mono qhc2 (fun c hw => by unfold Wm12_cellHere at hw; unfold Wm12_isJobHere; omega))) (Fr.mono qhc3 (fun c hw => by unfold Wm12_see at hw; unfold Wm12_isJobHere; omega))) (Fr.mono qhc4 (fun c hw => by unfold Wm12_partHere at hw; unfold Wm12_isJobHere; omega))) (by unfold Wm12_isJobHere; omega)) (Fr.mono qhc5 (fun c hw => by unfold Wm12_cellHere at hw; unfold Wm12_isJobHere; omega))) (Fr.mono qhc6 (fun c hw => by unfold Wm12_cellHere at hw; unfold Wm12_isJobHere; omega))) (Fr.mono qhc7 (fun c hw => by unfold Wm12_cellHere at hw; unfold Wm12_isJobHere; omega))) (by unfold Wm12_isJobHere; omega)) (by unfold Wm12_isJobHere; omega)) (by unfold Wm12_isJobHere; omega)) (by unfold Wm12_isJobHere; omega))
      · have ⟨_, hc5, h⟩ := b_some h
        have qhc5 := f12_fails hc5
        have ⟨hg, h⟩ := g_gd h
        have e := Option.some.inj h
        subst e
        exact (Fr.trans (Fr.sI (Fr.trans (Fr.trans (Fr.trans (Fr.trans (Fr.rf _ _) (Fr.mono qhc1 (fun c hw => by unfold Wm12_passWord at hw; unfold Wm12_isJobHere; omega))) (Fr.mono qhc2 (fun c hw => by unfold Wm12_cellHere at hw; unfold Wm12_isJobHere; omega))) (Fr.mono qhc3 (fun c hw => by unfold Wm12_see at hw; unfold Wm12_isJobHere; omega))) (Fr.mono qhc4 (fun c hw => by unfold Wm12_partHere at hw; unfold Wm12_isJobHere; omega))) (by unfold Wm12_isJobHere; omega)) (Fr.mono qhc5 (fun c hw => by unfold Wm12_fails at hw; unfold Wm12_isJobHere; omega)))
def Wm12_isPartHere (c : Nat) : Prop := c = 483 ∨ c = 489
set_option maxHeartbeats 1000000 in
theorem f12_isPartHere {F : Nat} {σ : Mem} {r : Int32 × Mem} (h : m12_isPartHere F  σ = some r) : Fr (Wm12_isPartHere) σ r.2 := by
  unfold m12_isPartHere at h
  have ⟨_, hc1, h⟩ := b_some h
  have qhc1 := f12_passWord hc1
  have ⟨_, hc2, h⟩ := b_some h
  have qhc2 := f12_numberHere hc2
  rcases g_if h with ⟨hq, h⟩ | ⟨hq, h⟩
  · have e := Option.some.inj h
    subst e
    exact (Fr.trans (Fr.trans (Fr.rf _ _) (Fr.mono qhc1 (fun c hw => by unfold Wm12_passWord at hw; unfold Wm12_isPartHere; omega))) (Fr.mono qhc2 (fun c hw => by unfold Wm12_numberHere at hw; unfold Wm12_isPartHere; omega)))
  · have ⟨_, hc3, h⟩ := b_some h
    have qhc3 := f12_cellHere hc3
    have ⟨hg, h⟩ := g_gd h
    have e := Option.some.inj h
    subst e
    exact (Fr.trans (Fr.trans (Fr.trans (Fr.rf _ _) (Fr.mono qhc1 (fun c hw => by unfold Wm12_passWord at hw; unfold Wm12_isPartHere; omega))) (Fr.mono qhc2 (fun c hw => by unfold Wm12_numberHere at hw; unfold Wm12_isPartHere; omega))) (Fr.mono qhc3 (fun c hw => by unfold Wm12_cellHere at hw; unfold Wm12_isPartHere; omega)))
def Wm12_smithyLineHere (c : Nat) : Prop := c = 483 ∨ c = 489
set_option maxHeartbeats 1000000 in
theorem f12_smithyLineHere {F : Nat} {i1 : Int32} {σ : Mem} {r : Int32 × Mem} (h : m12_smithyLineHere F i1 σ = some r) : Fr (Wm12_smithyLineHere) σ r.2 := by
  unfold m12_smithyLineHere at h
  have ⟨_, hc1, h⟩ := b_some h
  have qhc1 := f12_isWord hc1
  rcases g_if h with ⟨hq, h⟩ | ⟨hq, h⟩
  · have ⟨hg, h⟩ := g_gd h
    have hb := inB_lt hg
    rcases g_if h with ⟨hq, h⟩ | ⟨hq, h⟩
    · have ⟨_, hc2, h⟩ := b_some h
      have qhc2 := f12_fails hc2
      have ⟨hg, h⟩ := g_gd h
      have e := Option.some.inj h
      subst e
      exact (Fr.trans (Fr.trans (Fr.rf _ _) (Fr.mono qhc1 (fun c hw => by unfold Wm12_isWord at hw; unfold Wm12_smithyLineHere; omega))) (Fr.mono qhc2 (fun c hw => by unfold Wm12_fails at hw; unfold Wm12_smithyLineHere; omega)))
    · have ⟨_, hc2, h⟩ := b_some h
      have qhc2 := f12_isWord hc2
      rcases g_if h with ⟨hq, h⟩ | ⟨hq, h⟩
      · have ⟨_, hc3, h⟩ := b_some h
        have qhc3 := f12_isWord hc3
        rcases g_if h with ⟨hq, h⟩ | ⟨hq, h⟩
        · have ⟨_, hc4, h⟩ := b_some h
          have qhc4 := f12_isPartHere hc4
          have ⟨hg, h⟩ := g_gd h
          have e := Option.some.inj h
          subst e
          exact (Fr.trans (Fr.trans (Fr.trans (Fr.trans (Fr.rf _ _) (Fr.mono qhc1 (fun c hw => by unfold Wm12_isWord at hw; unfold Wm12_smithyLineHere; omega))) (Fr.mono qhc2 (fun c hw => by unfold Wm12_isWord at hw; unfold Wm12_smithyLineHere; omega))) (Fr.mono qhc3 (fun c hw => by unfold Wm12_isWord at hw; unfold Wm12_smithyLineHere; omega))) (Fr.mono qhc4 (fun c hw => by unfold Wm12_isPartHere at hw; unfold Wm12_smithyLineHere; omega)))
        · have ⟨_, hc4, h⟩ := b_some h
          have qhc4 := f12_isJobHere hc4
          have ⟨hg, h⟩ := g_gd h
          have e := Option.some.inj h
          subst e
          exact (Fr.trans (Fr.trans (Fr.trans (Fr.trans (Fr.rf _ _) (Fr.mono qhc1 (fun c hw => by unfold Wm12_isWord at hw; unfold Wm12_smithyLineHere; omega))) (Fr.mono qhc2 (fun c hw => by unfold Wm12_isWord at hw; unfold Wm12_smithyLineHere; omega))) (Fr.mono qhc3 (fun c hw => by unfold Wm12_isWord at hw; unfold Wm12_smithyLineHere; omega))) (Fr.mono qhc4 (fun c hw => by unfold Wm12_isJobHere at hw; unfold Wm12_smithyLineHere; omega)))
      · have ⟨_, hc3, h⟩ := b_some h
        have qhc3 := f12_isSmithHere hc3
        have ⟨hg, h⟩ := g_gd h
        have e := Option.some.inj h
        subst e
        exact (Fr.trans (Fr.trans (Fr.trans (Fr.rf _ _) (Fr.mono qhc1 (fun c hw => by unfold Wm12_isWord at hw; unfold Wm12_smithyLineHere; omega))) (Fr.mono qhc2 (fun c hw => by unfold Wm12_isWord at hw; unfold Wm12_smithyLineHere; omega))) (Fr.mono qhc3 (fun c hw => by unfold Wm12_isSmithHere at hw; unfold Wm12_smithyLineHere; omega)))
  · have ⟨_, hc2, h⟩ := b_some h
    have qhc2 := f12_isSmithyHere hc2
    have ⟨hg, h⟩ := g_gd h
    have e := Option.some.inj h
    subst e
    exact (Fr.trans (Fr.trans (Fr.rf _ _) (Fr.mono qhc1 (fun c hw => by unfold Wm12_isWord at hw; unfold Wm12_smithyLineHere; omega))) (Fr.mono qhc2 (fun c hw => by unfold Wm12_isSmithyHere at hw; unfold Wm12_smithyLineHere; omega)))
def Wm12_isSmithyWord (c : Nat) : Prop := c = 483
set_option maxHeartbeats 1000000 in
theorem f12_isSmithyWord {F : Nat} {σ : Mem} {r : Int32 × Mem} (h : m12_isSmithyWord F  σ = some r) : Fr (Wm12_isSmithyWord) σ r.2 := by
  unfold m12_isSmithyWord at h
  have ⟨_, hc1, h⟩ := b_some h
  have qhc1 := f12_isWord hc1
  rcases g_if h with ⟨hq, h⟩ | ⟨hq, h⟩
  · have ⟨_, hc2, h⟩ := b_some h
    have qhc2 := f12_isWord hc2
    rcases g_if h with ⟨hq, h⟩ | ⟨hq, h⟩
    · have ⟨_, hc3, h⟩ := b_some h
      have qhc3 := f12_isWord hc3
      rcases g_if h with ⟨hq, h⟩ | ⟨hq, h⟩
      · have ⟨_, hc4, h⟩ := b_some h
        have qhc4 := f12_isWord hc4
        rcases g_if h with ⟨hq, h⟩ | ⟨hq, h⟩
        · have e := Option.some.inj h
          subst e
          exact (Fr.trans (Fr.trans (Fr.trans (Fr.trans (Fr.rf _ _) (Fr.mono qhc1 (fun c hw => by unfold Wm12_isWord at hw; unfold Wm12_isSmithyWord; omega))) (Fr.mono qhc2 (fun c hw => by unfold Wm12_isWord at hw; unfold Wm12_isSmithyWord; omega))) (Fr.mono qhc3 (fun c hw => by unfold Wm12_isWord at hw; unfold Wm12_isSmithyWord; omega))) (Fr.mono qhc4 (fun c hw => by unfold Wm12_isWord at hw; unfold Wm12_isSmithyWord; omega)))
        · have e := Option.some.inj h
          subst e
          exact (Fr.trans (Fr.trans (Fr.trans (Fr.trans (Fr.rf _ _) (Fr.mono qhc1 (fun c hw => by unfold Wm12_isWord at hw; unfold Wm12_isSmithyWord; omega))) (Fr.mono qhc2 (fun c hw => by unfold Wm12_isWord at hw; unfold Wm12_isSmithyWord; omega))) (Fr.mono qhc3 (fun c hw => by unfold Wm12_isWord at hw; unfold Wm12_isSmithyWord; omega))) (Fr.mono qhc4 (fun c hw => by unfold Wm12_isWord at hw; unfold Wm12_isSmithyWord; omega)))
      · have e := Option.some.inj h
        subst e
        exact (Fr.trans (Fr.trans (Fr.trans (Fr.rf _ _) (Fr.mono qhc1 (fun c hw => by unfold Wm12_isWord at hw; unfold Wm12_isSmithyWord; omega))) (Fr.mono qhc2 (fun c hw => by unfold Wm12_isWord at hw; unfold Wm12_isSmithyWord; omega))) (Fr.mono qhc3 (fun c hw => by unfold Wm12_isWord at hw; unfold Wm12_isSmithyWord; omega)))
    · have e := Option.some.inj h
      subst e
      exact (Fr.trans (Fr.trans (Fr.rf _ _) (Fr.mono qhc1 (fun c hw => by unfold Wm12_isWord at hw; unfold Wm12_isSmithyWord; omega))) (Fr.mono qhc2 (fun c hw => by unfold Wm12_isWord at hw; unfold Wm12_isSmithyWord; omega)))
  · have e := Option.some.inj h
    subst e
    exact (Fr.trans (Fr.rf _ _) (Fr.mono qhc1 (fun c hw => by unfold Wm12_isWord at hw; unfold Wm12_isSmithyWord; omega)))
def Wm12_clauseHere (c : Nat) : Prop := c = 483 ∨ (485 ≤ c ∧ c ≤ 490)
set_option maxHeartbeats 1000000 in
theorem f12_clauseHere_71 {F : Nat} {r : Int32 × Mem} : ∀ (x1 : Int32) (x2 : Int32) (s0 : Int32) (s1 : Int32) (σ : Mem), m12_clauseHere_71 F x1 x2 s0 s1 σ = some r → Fr (Wm12_clauseHere) σ r.2 := by
  intro x1 x2 s0 s1 σ h
  unfold m12_clauseHere_71 at h
  rcases g_if h with ⟨hq, h⟩ | ⟨hq, h⟩
  · have ⟨_, hc1, h⟩ := b_some h
    have qhc1 := f12_fails hc1
    have ⟨hg, h⟩ := g_gd h
    have e := Option.some.inj h
    subst e
    exact (Fr.trans (Fr.rf _ _) (Fr.mono qhc1 (fun c hw => by unfold Wm12_fails at hw; unfold Wm12_clauseHere; omega)))
  · rcases g_if h with ⟨hq, h⟩ | ⟨hq, h⟩
    · have ⟨_, hc1, h⟩ := b_some h
      have qhc1 := f12_isStrikeHere hc1
      have ⟨hg, h⟩ := g_gd h
      have e := Option.some.inj h
      subst e
      exact (Fr.trans (Fr.sI (Fr.rf _ _) (by unfold Wm12_clauseHere; omega)) (Fr.mono qhc1 (fun c hw => by unfold Wm12_isStrikeHere at hw; unfold Wm12_clauseHere; omega)))
    · have ⟨_, hc1, h⟩ := b_some h
      have qhc1 := f12_smithyLineHere hc1
      have ⟨hg, h⟩ := g_gd h
      have e := Option.some.inj h
      subst e
      exact (Fr.trans (Fr.sI (Fr.rf _ _) (by unfold Wm12_clauseHere; omega)) (Fr.mono qhc1 (fun c hw => by unfold Wm12_smithyLineHere at hw; unfold Wm12_clauseHere; omega)))
set_option maxHeartbeats 1000000 in
theorem f12_clauseHere_56 {F : Nat} {r : Int32 × Mem} : ∀ (x1 : Int32) (x2 : Int32) (σ : Mem), m12_clauseHere_56 F x1 x2 σ = some r → Fr (Wm12_clauseHere) σ r.2 := by
  intro x1 x2 σ h
  unfold m12_clauseHere_56 at h
  rcases g_if h with ⟨hq, h⟩ | ⟨hq, h⟩
  · exact Fr.trans (Fr.rf _ _) (f12_clauseHere_71 (F := F) _ _ _ _ _ h)
  · exact Fr.trans (Fr.rf _ _) (f12_clauseHere_71 (F := F) _ _ _ _ _ h)
set_option maxHeartbeats 1000000 in
theorem f12_clauseHere_49 {F : Nat} {r : Int32 × Mem} : ∀ (x1 : Int32) (σ : Mem), m12_clauseHere_49 F x1 σ = some r → Fr (Wm12_clauseHere) σ r.2 := by
  intro x1 σ h
  unfold m12_clauseHere_49 at h
  have ⟨_, hc1, h⟩ := b_some h
  have qhc1 := f12_fails hc1
  have ⟨hg, h⟩ := g_gd h
  have e := Option.some.inj h
  subst e
  exact (Fr.trans (Fr.rf _ _) (Fr.mono qhc1 (fun c hw => by unfold Wm12_fails at hw; unfold Wm12_clauseHere; omega)))
set_option maxHeartbeats 1000000 in
theorem f12_clauseHere_24 {F : Nat} {r : Int32 × Mem} : ∀ (x1 : Int32) (s0 : Int32) (σ : Mem), m12_clauseHere_24 F x1 s0 σ = some r → Fr (Wm12_clauseHere) σ r.2 := by
  intro x1 s0 σ h
  unfold m12_clauseHere_24 at h
  rcases g_if h with ⟨hq, h⟩ | ⟨hq, h⟩
  · have ⟨_, hc1, h⟩ := b_some h
    have qhc1 := f12_isWord hc1
    rcases g_if h with ⟨hq, h⟩ | ⟨hq, h⟩
    · exact Fr.trans (Fr.trans (Fr.rf _ _) (Fr.mono qhc1 (fun c hw => by unfold Wm12_isWord at hw; unfold Wm12_clauseHere; omega))) (f12_clauseHere_49 (F := F) _ _ h)
    · exact Fr.trans (Fr.trans (Fr.rf _ _) (Fr.mono qhc1 (fun c hw => by unfold Wm12_isWord at hw; unfold Wm12_clauseHere; omega))) (f12_clauseHere_56 (F := F) _ _ _ h)
  · have ⟨_, hc1, h⟩ := b_some h
    have qhc1 := f12_isSmithyWord hc1
    rcases g_if h with ⟨hq, h⟩ | ⟨hq, h⟩
    · exact Fr.trans (Fr.trans (Fr.rf _ _) (Fr.mono qhc1 (fun c hw => by unfold Wm12_isSmithyWord at hw; unfold Wm12_clauseHere; omega))) (f12_clauseHere_49 (F := F) _ _ h)
    · exact Fr.trans (Fr.trans (Fr.rf _ _) (Fr.mono qhc1 (fun c hw => by unfold Wm12_isSmithyWord at hw; unfold Wm12_clauseHere; omega))) (f12_clauseHere_56 (F := F) _ _ _ h)
set_option maxHeartbeats 1000000 in
theorem f12_clauseHere {F : Nat} {σ : Mem} {r : Int32 × Mem} (h : m12_clauseHere F  σ = some r) : Fr (Wm12_clauseHere) σ r.2 := by
  unfold m12_clauseHere at h
  have ⟨_, hc1, h⟩ := b_some h
  have qhc1 := f12_see hc1
  rcases g_if h with ⟨hq, h⟩ | ⟨hq, h⟩
  · exact Fr.trans (Fr.trans (Fr.rf _ _) (Fr.mono qhc1 (fun c hw => by unfold Wm12_see at hw; unfold Wm12_clauseHere; omega))) (f12_clauseHere_24 (F := F) _ _ _ h)
  · exact Fr.trans (Fr.trans (Fr.rf _ _) (Fr.mono qhc1 (fun c hw => by unfold Wm12_see at hw; unfold Wm12_clauseHere; omega))) (f12_clauseHere_24 (F := F) _ _ _ h)
def Wm12_readsAll (c : Nat) : Prop := c = 483 ∨ (485 ≤ c ∧ c ≤ 490)
set_option maxHeartbeats 1000000 in
theorem f12_readsAll_88 {F : Nat} {r : Int32 × Mem} : ∀ (σ : Mem), m12_readsAll_88 F σ = some r → Fr (Wm12_readsAll) σ r.2 := by
  intro σ h
  unfold m12_readsAll_88 at h
  rcases g_if h with ⟨hq, h⟩ | ⟨hq, h⟩
  · have e := Option.some.inj h
    subst e
    exact (Fr.sI (Fr.rf _ _) (by unfold Wm12_readsAll; omega))
  · have e := Option.some.inj h
    subst e
    exact (Fr.sI (Fr.rf _ _) (by unfold Wm12_readsAll; omega))
set_option maxHeartbeats 1000000 in
theorem f12_readsAll_66 {F : Nat} {r : Int32 × Mem} : ∀ (x1 : Int32) (σ : Mem), m12_readsAll_66 F x1 σ = some r → Fr (Wm12_readsAll) σ r.2 := by
  intro x1 σ h
  unfold m12_readsAll_66 at h
  rcases g_if h with ⟨hq, h⟩ | ⟨hq, h⟩
  · exact Fr.trans (Fr.rf _ _) (f12_readsAll_88 (F := F) _ h)
  · have ⟨_, hc1, h⟩ := b_some h
    have qhc1 := f12_see hc1
    rcases g_if h with ⟨hq, h⟩ | ⟨hq, h⟩
    · exact Fr.trans (Fr.trans (Fr.rf _ _) (Fr.mono qhc1 (fun c hw => by unfold Wm12_see at hw; unfold Wm12_readsAll; omega))) (f12_readsAll_88 (F := F) _ h)
    · have ⟨_, hc2, h⟩ := b_some h
      have qhc2 := f12_fails hc2
      exact Fr.trans (Fr.trans (Fr.trans (Fr.rf _ _) (Fr.mono qhc1 (fun c hw => by unfold Wm12_see at hw; unfold Wm12_readsAll; omega))) (Fr.mono qhc2 (fun c hw => by unfold Wm12_fails at hw; unfold Wm12_readsAll; omega))) (f12_readsAll_88 (F := F) _ h)
set_option maxHeartbeats 1000000 in
theorem f12_readsAll_35 {F : Nat} {r : Int32 × Mem} : ∀ (n : Nat) (x1 : Int32) (σ : Mem), m12_readsAll_35 F n x1 σ = some r → Fr (Wm12_readsAll) σ r.2 := by
  intro n
  induction n with
  | zero => intro x1 σ h; unfold m12_readsAll_35 at h; cases h
  | succ n ih =>
    intro x1 σ h
    unfold m12_readsAll_35 at h
    rcases g_if h with ⟨hq, h⟩ | ⟨hq, h⟩
    · exact Fr.trans (Fr.rf _ _) (f12_readsAll_66 (F := F) _ _ h)
    · have ⟨_, hc1, h⟩ := b_some h
      have qhc1 := f12_see hc1
      rcases g_if h with ⟨hq, h⟩ | ⟨hq, h⟩
      · have ⟨_, hc2, h⟩ := b_some h
        have qhc2 := f12_clauseHere hc2
        exact Fr.trans (Fr.trans (Fr.sI (Fr.trans (Fr.rf _ _) (Fr.mono qhc1 (fun c hw => by unfold Wm12_see at hw; unfold Wm12_readsAll; omega))) (by unfold Wm12_readsAll; omega)) (Fr.mono qhc2 (fun c hw => by unfold Wm12_clauseHere at hw; unfold Wm12_readsAll; omega))) (ih _ _ h)
      · exact Fr.trans (Fr.trans (Fr.rf _ _) (Fr.mono qhc1 (fun c hw => by unfold Wm12_see at hw; unfold Wm12_readsAll; omega))) (f12_readsAll_66 (F := F) _ _ h)
set_option maxHeartbeats 1000000 in
theorem f12_readsAll {F : Nat} {σ : Mem} {r : Int32 × Mem} (h : m12_readsAll F  σ = some r) : Fr (Wm12_readsAll) σ r.2 := by
  unfold m12_readsAll at h
  have ⟨hg, h⟩ := g_gd h
  have hb := inB_lt hg
  have ⟨_, hc1, h⟩ := b_some h
  have qhc1 := f12_clauseHere hc1
  exact Fr.trans (Fr.trans (Fr.sI (Fr.sI (Fr.sI (Fr.sI (Fr.sI (Fr.rf _ _) (by unfold Wm12_readsAll; omega)) (by unfold Wm12_readsAll; omega)) (by unfold Wm12_readsAll; omega)) (by unfold Wm12_readsAll; omega)) (by unfold Wm12_readsAll; omega)) (Fr.mono qhc1 (fun c hw => by unfold Wm12_clauseHere at hw; unfold Wm12_readsAll; omega))) (f12_readsAll_35 (F := F) F _ _ h)
def Wm12_rule (c : Nat) : Prop := c = 483 ∨ (485 ≤ c ∧ c ≤ 490)
set_option maxHeartbeats 1000000 in
theorem f12_rule {F : Nat} {σ : Mem} {r : Int32 × Mem} (h : m12_rule F  σ = some r) : Fr (Wm12_rule) σ r.2 := by
  unfold m12_rule at h
  rcases g_if h with ⟨hq, h⟩ | ⟨hq, h⟩
  · have e := Option.some.inj h
    subst e
    exact (Fr.rf _ _)
  · have ⟨hg, h⟩ := g_gd h
    have hb := inB_lt hg
    have ⟨_, hc1, h⟩ := b_some h
    have qhc1 := f12_readsAll hc1
    rcases g_if h with ⟨hq, h⟩ | ⟨hq, h⟩
    · have e := Option.some.inj h
      subst e
      exact (Fr.trans (Fr.sI (Fr.sI (Fr.rf _ _) (by unfold Wm12_rule; omega)) (by unfold Wm12_rule; omega)) (Fr.mono qhc1 (fun c hw => by unfold Wm12_readsAll at hw; unfold Wm12_rule; omega)))
    · have e := Option.some.inj h
      subst e
      exact (Fr.sI (Fr.trans (Fr.sI (Fr.sI (Fr.rf _ _) (by unfold Wm12_rule; omega)) (by unfold Wm12_rule; omega)) (Fr.mono qhc1 (fun c hw => by unfold Wm12_readsAll at hw; unfold Wm12_rule; omega))) (by unfold Wm12_rule; omega))
def Wm12_smithy (c : Nat) : Prop := c = 483 ∨ (485 ≤ c ∧ c ≤ 490) ∨ c = 493
set_option maxHeartbeats 1000000 in
theorem f12_smithy_104 {F : Nat} {r : Int32 × Mem} : ∀ (n : Nat) (x1 : Int32) (σ : Mem), m12_smithy_104 F n x1 σ = some r → Fr (Wm12_smithy) σ r.2 := by
  intro n
  induction n with
  | zero => intro x1 σ h; unfold m12_smithy_104 at h; cases h
  | succ n ih =>
    intro x1 σ h
    unfold m12_smithy_104 at h
    rcases g_if h with ⟨hq, h⟩ | ⟨hq, h⟩
    · have ⟨hg, h⟩ := g_gd h
      have hb := inB_lt hg
      have e := Option.some.inj h
      subst e
      exact (Fr.sI (Fr.rf _ _) (by unfold Wm12_smithy; omega))
    · have ⟨hg, h⟩ := g_gd h
      have hb := inB_lt hg
      have ⟨hg, h⟩ := g_gd h
      have hb := inB_lt hg
      exact Fr.trans (Fr.sI (Fr.rf _ _) (by unfold Wm12_smithy; omega)) (ih _ _ h)
set_option maxHeartbeats 1000000 in
theorem f12_smithy_67 {F : Nat} {r : Int32 × Mem} : ∀ (n : Nat) (x1 : Int32) (σ : Mem), m12_smithy_67 F n x1 σ = some r → Fr (Wm12_smithy) σ r.2 := by
  intro n
  induction n with
  | zero => intro x1 σ h; unfold m12_smithy_67 at h; cases h
  | succ n ih =>
    intro x1 σ h
    unfold m12_smithy_67 at h
    rcases g_if h with ⟨hq, h⟩ | ⟨hq, h⟩
    · exact Fr.trans (Fr.rf _ _) (f12_smithy_104 (F := F) F _ _ h)
    · rcases g_if h with ⟨hq, h⟩ | ⟨hq, h⟩
      · have ⟨hg, h⟩ := g_gd h
        have hb := inB_lt hg
        exact Fr.trans (Fr.sI (Fr.rf _ _) (by unfold Wm12_smithy; omega)) (ih _ _ h)
      · have ⟨hg, h⟩ := g_gd h
        have hb := inB_lt hg
        have ⟨hg, h⟩ := g_gd h
        have hb := inB_lt hg
        exact Fr.trans (Fr.sI (Fr.rf _ _) (by unfold Wm12_smithy; omega)) (ih _ _ h)
set_option maxHeartbeats 1000000 in
theorem f12_smithy_29 {F : Nat} {r : Int32 × Mem} : ∀ (n : Nat) (x1 : Int32) (σ : Mem), m12_smithy_29 F n x1 σ = some r → Fr (Wm12_smithy) σ r.2 := by
  intro n
  induction n with
  | zero => intro x1 σ h; unfold m12_smithy_29 at h; cases h
  | succ n ih =>
    intro x1 σ h
    unfold m12_smithy_29 at h
    rcases g_if h with ⟨hq, h⟩ | ⟨hq, h⟩
    · have ⟨_, hc1, h⟩ := b_some h
      have qhc1 := f12_readsAll hc1
      rcases g_if h with ⟨hq, h⟩ | ⟨hq, h⟩
      · have e := Option.some.inj h
        subst e
        exact (Fr.trans (Fr.rf _ _) (Fr.mono qhc1 (fun c hw => by unfold Wm12_readsAll at hw; unfold Wm12_smithy; omega)))
      · exact Fr.trans (Fr.trans (Fr.rf _ _) (Fr.mono qhc1 (fun c hw => by unfold Wm12_readsAll at hw; unfold Wm12_smithy; omega))) (f12_smithy_67 (F := F) F _ _ h)
    · have ⟨hg, h⟩ := g_gd h
      have hb := inB_lt hg
      exact Fr.trans (Fr.sI (Fr.rf _ _) (by unfold Wm12_smithy; omega)) (ih _ _ h)
set_option maxHeartbeats 1000000 in
theorem f12_smithy_8 {F : Nat} {r : Int32 × Mem} : ∀ (n : Nat) (x1 : Int32) (σ : Mem), m12_smithy_8 F n x1 σ = some r → Fr (Wm12_smithy) σ r.2 := by
  intro n
  induction n with
  | zero => intro x1 σ h; unfold m12_smithy_8 at h; cases h
  | succ n ih =>
    intro x1 σ h
    unfold m12_smithy_8 at h
    rcases g_if h with ⟨hq, h⟩ | ⟨hq, h⟩
    · exact Fr.trans (Fr.rf _ _) (f12_smithy_29 (F := F) F _ _ h)
    · have ⟨hg, h⟩ := g_gd h
      have hb := inB_lt hg
      exact Fr.trans (Fr.sI (Fr.rf _ _) (by unfold Wm12_smithy; omega)) (ih _ _ h)
set_option maxHeartbeats 1000000 in
theorem f12_smithy {F : Nat} {σ : Mem} {r : Int32 × Mem} (h : m12_smithy F  σ = some r) : Fr (Wm12_smithy) σ r.2 := by
  unfold m12_smithy at h
  exact Fr.trans (Fr.sI (Fr.rf _ _) (by unfold Wm12_smithy; omega)) (f12_smithy_8 (F := F) F _ _ h)
def Wm12_push (c : Nat) : Prop := c = 483 ∨ c = 491
set_option maxHeartbeats 1000000 in
theorem f12_push {F : Nat} {j1 : Int64} {σ : Mem} {r : Mem} (h : m12_push F j1 σ = some r) : Fr (Wm12_push) σ r := by
  unfold m12_push at h
  have ⟨hg, h⟩ := g_gd h
  have hb := inB_lt hg
  have e := Option.some.inj h
  subst e
  exact (Fr.sI (Fr.sL (Fr.rf _ _) (by unfold Wm12_push; omega)) (by unfold Wm12_push; omega))
def Wm12_pop (c : Nat) : Prop := c = 483
set_option maxHeartbeats 1000000 in
theorem f12_pop {F : Nat} {σ : Mem} {r : Int64 × Mem} (h : m12_pop F  σ = some r) : Fr (Wm12_pop) σ r.2 := by
  unfold m12_pop at h
  have ⟨hg, h⟩ := g_gd h
  have hb := inB_lt hg
  have e := Option.some.inj h
  subst e
  exact (Fr.sI (Fr.rf _ _) (by unfold Wm12_pop; omega))
def Wm12_reckons (c : Nat) : Prop := c = 483 ∨ c = 491
set_option maxHeartbeats 1000000 in
theorem f12_reckons_8 {F : Nat} {i1 : Int32} {i2 : Int32} {i3 : Int32} {r : Int64 × Mem} : ∀ (n : Nat) (x4 : Int32) (σ : Mem), m12_reckons_8 F i1 i2 i3 n x4 σ = some r → Fr (Wm12_reckons) σ r.2 := by
  intro n
  induction n with
  | zero => intro x4 σ h; unfold m12_reckons_8 at h; cases h
  | succ n ih =>
    intro x4 σ h
    unfold m12_reckons_8 at h
    rcases g_if h with ⟨hq, h⟩ | ⟨hq, h⟩
    · have ⟨_, hc1, h⟩ := b_some h
      have qhc1 := f12_pop hc1
      have e := Option.some.inj h
      subst e
      exact (Fr.trans (Fr.rf _ _) (Fr.mono qhc1 (fun c hw => by unfold Wm12_pop at hw; unfold Wm12_reckons; omega)))
    · have ⟨hg, h⟩ := g_gd h
      have hb := inB_lt hg
      have ⟨hg, h⟩ := g_gd h
      have hb := inB_lt hg
      rcases g_if h with ⟨hq, h⟩ | ⟨hq, h⟩
      · have ⟨_, hc1, h⟩ := b_some h
        have qhc1 := f12_push hc1
        exact Fr.trans (Fr.trans (Fr.rf _ _) (Fr.mono qhc1 (fun c hw => by unfold Wm12_push at hw; unfold Wm12_reckons; omega))) (ih _ _ h)
      · rcases g_if h with ⟨hq, h⟩ | ⟨hq, h⟩
        · have ⟨hg, h⟩ := g_gd h
          have hb := inB_lt hg
          have ⟨_, hc1, h⟩ := b_some h
          have qhc1 := f12_push hc1
          exact Fr.trans (Fr.trans (Fr.rf _ _) (Fr.mono qhc1 (fun c hw => by unfold Wm12_push at hw; unfold Wm12_reckons; omega))) (ih _ _ h)
        · rcases g_if h with ⟨hq, h⟩ | ⟨hq, h⟩
          · have ⟨_, hc1, h⟩ := b_some h
            have qhc1 := f12_pop hc1
            have ⟨_, hc2, h⟩ := b_some h
            have qhc2 := f12_push hc2
            exact Fr.trans (Fr.trans (Fr.trans (Fr.rf _ _) (Fr.mono qhc1 (fun c hw => by unfold Wm12_pop at hw; unfold Wm12_reckons; omega))) (Fr.mono qhc2 (fun c hw => by unfold Wm12_push at hw; unfold Wm12_reckons; omega))) (ih _ _ h)
          · have ⟨_, hc1, h⟩ := b_some h
            have qhc1 := f12_pop hc1
            have ⟨_, hc2, h⟩ := b_some h
            have qhc2 := f12_pop hc2
            have ⟨_, hc3, h⟩ := b_some h
            have ⟨_, hc4, h⟩ := b_some h
            have qhc4 := f12_push hc4
            exact Fr.trans (Fr.trans (Fr.trans (Fr.trans (Fr.rf _ _) (Fr.mono qhc1 (fun c hw => by unfold Wm12_pop at hw; unfold Wm12_reckons; omega))) (Fr.mono qhc2 (fun c hw => by unfold Wm12_pop at hw; unfold Wm12_reckons; omega))) (Fr.mono qhc4 (fun c hw => by unfold Wm12_push at hw; unfold Wm12_reckons; omega))) (ih _ _ h)
set_option maxHeartbeats 1000000 in
theorem f12_reckons {F : Nat} {i1 : Int32} {i2 : Int32} {i3 : Int32} {σ : Mem} {r : Int64 × Mem} (h : m12_reckons F i1 i2 i3 σ = some r) : Fr (Wm12_reckons) σ r.2 := by
  unfold m12_reckons at h
  exact Fr.trans (Fr.sI (Fr.rf _ _) (by unfold Wm12_reckons; omega)) (f12_reckons_8 (F := F) F _ _ h)
def Wm12_force (c : Nat) : Prop := c = 483
set_option maxHeartbeats 1000000 in
theorem f12_force_16 {F : Nat} {i1 : Int32} {r : Int32 × Mem} : ∀ (σ : Mem), m12_force_16 F i1 σ = some r → Fr (Wm12_force) σ r.2 := by
  intro σ h
  unfold m12_force_16 at h
  have e := Option.some.inj h
  subst e
  exact (Fr.sI (Fr.rf _ _) (by unfold Wm12_force; omega))
set_option maxHeartbeats 1000000 in
theorem f12_force {F : Nat} {i1 : Int32} {σ : Mem} {r : Int32 × Mem} (h : m12_force F i1 σ = some r) : Fr (Wm12_force) σ r.2 := by
  unfold m12_force at h
  rcases g_if h with ⟨hq, h⟩ | ⟨hq, h⟩
  · exact Fr.trans (Fr.rf _ _) (f12_force_16 (F := F) _ h)
  · have ⟨_, hc1, h⟩ := b_some h
    rcases g_if h with ⟨hq, h⟩ | ⟨hq, h⟩
    · have e := Option.some.inj h
      subst e
      exact (Fr.rf _ _)
    · exact Fr.trans (Fr.rf _ _) (f12_force_16 (F := F) _ h)
def Wm12_words (c : Nat) : Prop := c = 492
set_option maxHeartbeats 1000000 in
theorem f12_words_45 {F : Nat} {i1 : Int32} {r : Mem} : ∀ (x2 : Int32) (s1 : Int32) (s2 : Int64) (σ : Mem), m12_words_45 F i1 x2 s1 s2 σ = some r → Fr (Wm12_words) σ r := by
  intro x2 s1 s2 σ h
  unfold m12_words_45 at h
  have ⟨hg, h⟩ := g_gd h
  have hb := inB_lt hg
  have ⟨_, hc1, h⟩ := b_some h
  have ⟨hg, h⟩ := g_gd h
  have hb := inB_lt hg
  have ⟨_, hc2, h⟩ := b_some h
  have ⟨hg, h⟩ := g_gd h
  have hb := inB_lt hg
  have ⟨_, hc3, h⟩ := b_some h
  have ⟨hg, h⟩ := g_gd h
  have hb := inB_lt hg
  have ⟨_, hc4, h⟩ := b_some h
  have ⟨hg, h⟩ := g_gd h
  have hb := inB_lt hg
  have ⟨hg, h⟩ := g_gd h
  have hb := inB_lt hg
  have ⟨hg, h⟩ := g_gd h
  have hb := inB_lt hg
  have ⟨_, hc5, h⟩ := b_some h
  have ⟨hg, h⟩ := g_gd h
  have hb := inB_lt hg
  have ⟨_, hc6, h⟩ := b_some h
  have ⟨hg, h⟩ := g_gd h
  have hb := inB_lt hg
  have ⟨_, hc7, h⟩ := b_some h
  have ⟨hg, h⟩ := g_gd h
  have hb := inB_lt hg
  have ⟨hg, h⟩ := g_gd h
  have hb := inB_lt hg
  have ⟨_, hc8, h⟩ := b_some h
  have ⟨hg, h⟩ := g_gd h
  have hb := inB_lt hg
  have ⟨_, hc9, h⟩ := b_some h
  have ⟨hg, h⟩ := g_gd h
  have hb := inB_lt hg
  have e := Option.some.inj h
  subst e
  exact (Fr.sL (Fr.sL (Fr.sL (Fr.sL (Fr.sL (Fr.sL (Fr.sL (Fr.sL (Fr.sL (Fr.sL (Fr.sL (Fr.rf _ _) (by unfold Wm12_words; omega)) (by unfold Wm12_words; omega)) (by unfold Wm12_words; omega)) (by unfold Wm12_words; omega)) (by unfold Wm12_words; omega)) (by unfold Wm12_words; omega)) (by unfold Wm12_words; omega)) (by unfold Wm12_words; omega)) (by unfold Wm12_words; omega)) (by unfold Wm12_words; omega)) (by unfold Wm12_words; omega))
set_option maxHeartbeats 1000000 in
theorem f12_words {F : Nat} {i1 : Int32} {σ : Mem} {r : Mem} (h : m12_words F i1 σ = some r) : Fr (Wm12_words) σ r := by
  unfold m12_words at h
  have ⟨_, hc1, h⟩ := b_some h
  have ⟨hg, h⟩ := g_gd h
  have hb := inB_lt hg
  have ⟨_, hc2, h⟩ := b_some h
  have ⟨hg, h⟩ := g_gd h
  have hb := inB_lt hg
  have ⟨_, hc3, h⟩ := b_some h
  rcases g_if h with ⟨hq, h⟩ | ⟨hq, h⟩
  · exact Fr.trans (Fr.sL (Fr.sL (Fr.rf _ _) (by unfold Wm12_words; omega)) (by unfold Wm12_words; omega)) (f12_words_45 (F := F) _ _ _ _ h)
  · exact Fr.trans (Fr.sL (Fr.sL (Fr.rf _ _) (by unfold Wm12_words; omega)) (by unfold Wm12_words; omega)) (f12_words_45 (F := F) _ _ _ _ h)
def Wm12_summedBy (c : Nat) : Prop := c = 483 ∨ c = 491
set_option maxHeartbeats 1000000 in
theorem f12_summedBy_58 {F : Nat} {i1 : Int32} {r : Int64 × Mem} : ∀ (x3 : Int32) (σ : Mem), m12_summedBy_58 F i1 x3 σ = some r → Fr (Wm12_summedBy) σ r.2 := by
  intro x3 σ h
  unfold m12_summedBy_58 at h
  have ⟨hg, h⟩ := g_gd h
  have hb := inB_lt hg
  have ⟨hg, h⟩ := g_gd h
  have hb := inB_lt hg
  have ⟨_, hc1, h⟩ := b_some h
  have qhc1 := f12_reckons hc1
  have e := Option.some.inj h
  subst e
  exact (Fr.trans (Fr.rf _ _) (Fr.mono qhc1 (fun c hw => by unfold Wm12_reckons at hw; unfold Wm12_summedBy; omega)))
set_option maxHeartbeats 1000000 in
theorem f12_summedBy_2 {F : Nat} {i1 : Int32} {r : Int64 × Mem} : ∀ (n : Nat) (x2 : Int32) (σ : Mem), m12_summedBy_2 F i1 n x2 σ = some r → Fr (Wm12_summedBy) σ r.2 := by
  intro n
  induction n with
  | zero => intro x2 σ h; unfold m12_summedBy_2 at h; cases h
  | succ n ih =>
    intro x2 σ h
    unfold m12_summedBy_2 at h
    have ⟨hg, h⟩ := g_gd h
    have hb := inB_lt hg
    rcases g_if h with ⟨hq, h⟩ | ⟨hq, h⟩
    · have e := Option.some.inj h
      subst e
      exact (Fr.rf _ _)
    · have ⟨hg, h⟩ := g_gd h
      have hb := inB_lt hg
      rcases g_if h with ⟨hq, h⟩ | ⟨hq, h⟩
      · exact Fr.trans (Fr.rf _ _) (f12_summedBy_58 (F := F) _ _ h)
      · have ⟨hg, h⟩ := g_gd h
        have hb := inB_lt hg
        have ⟨hg, h⟩ := g_gd h
        have hb := inB_lt hg
        have ⟨_, hc1, h⟩ := b_some h
        have qhc1 := f12_reckons hc1
        rcases g_if h with ⟨hq, h⟩ | ⟨hq, h⟩
        · exact Fr.trans (Fr.trans (Fr.rf _ _) (Fr.mono qhc1 (fun c hw => by unfold Wm12_reckons at hw; unfold Wm12_summedBy; omega))) (f12_summedBy_58 (F := F) _ _ h)
        · exact Fr.trans (Fr.trans (Fr.rf _ _) (Fr.mono qhc1 (fun c hw => by unfold Wm12_reckons at hw; unfold Wm12_summedBy; omega))) (ih _ _ h)
set_option maxHeartbeats 1000000 in
theorem f12_summedBy {F : Nat} {i1 : Int32} {σ : Mem} {r : Int64 × Mem} (h : m12_summedBy F i1 σ = some r) : Fr (Wm12_summedBy) σ r.2 := by
  unfold m12_summedBy at h
  exact Fr.trans (Fr.rf _ _) (f12_summedBy_2 (F := F) F _ _ h)
def Wm12_willsStrike (c : Nat) : Prop := c = 483 ∨ (491 ≤ c ∧ c ≤ 492)
set_option maxHeartbeats 1000000 in
theorem f12_willsStrike {F : Nat} {i1 : Int32} {σ : Mem} {r : Int32 × Mem} (h : m12_willsStrike F i1 σ = some r) : Fr (Wm12_willsStrike) σ r.2 := by
  unfold m12_willsStrike at h
  have ⟨_, hc1, h⟩ := b_some h
  rcases g_if h with ⟨hq, h⟩ | ⟨hq, h⟩
  · rcases g_if h with ⟨hq, h⟩ | ⟨hq, h⟩
    · rcases g_if h with ⟨hq, h⟩ | ⟨hq, h⟩
      · have ⟨_, hc2, h⟩ := b_some h
        have qhc2 := f12_words hc2
        have ⟨_, hc3, h⟩ := b_some h
        have qhc3 := f12_summedBy hc3
        rcases g_if h with ⟨hq, h⟩ | ⟨hq, h⟩
        · have e := Option.some.inj h
          subst e
          exact (Fr.trans (Fr.trans (Fr.rf _ _) (Fr.mono qhc2 (fun c hw => by unfold Wm12_words at hw; unfold Wm12_willsStrike; omega))) (Fr.mono qhc3 (fun c hw => by unfold Wm12_summedBy at hw; unfold Wm12_willsStrike; omega)))
        · have e := Option.some.inj h
          subst e
          exact (Fr.trans (Fr.trans (Fr.rf _ _) (Fr.mono qhc2 (fun c hw => by unfold Wm12_words at hw; unfold Wm12_willsStrike; omega))) (Fr.mono qhc3 (fun c hw => by unfold Wm12_summedBy at hw; unfold Wm12_willsStrike; omega)))
      · have ⟨_, hc2, h⟩ := b_some h
        have ⟨hg, h⟩ := g_gd h
        have e := Option.some.inj h
        subst e
        exact (Fr.rf _ _)
    · have ⟨_, hc2, h⟩ := b_some h
      have ⟨hg, h⟩ := g_gd h
      have e := Option.some.inj h
      subst e
      exact (Fr.rf _ _)
  · have e := Option.some.inj h
    subst e
    exact (Fr.rf _ _)
def Wm12_takesTurns (c : Nat) : Prop := c = 483 ∨ (491 ≤ c ∧ c ≤ 492) ∨ (494 ≤ c ∧ c ≤ 495)
set_option maxHeartbeats 1000000 in
theorem f12_takesTurns_141 {F : Nat} {r : Mem} {k87 : Int32 → Int32 → Mem → Option (Mem)} (hk87 : ∀ (x1 : Int32) (x2 : Int32) (σ : Mem), k87 x1 x2 σ = some r → Fr (Wm12_takesTurns) σ r) : ∀ (n : Nat) (x1 : Int32) (x2 : Int32) (x3 : Int32) (x4 : Int32) (σ : Mem), m12_takesTurns_141 F k87 n x1 x2 x3 x4 σ = some r → Fr (Wm12_takesTurns) σ r := by
  intro n
  induction n with
  | zero => intro x1 x2 x3 x4 σ h; unfold m12_takesTurns_141 at h; cases h
  | succ n ih =>
    intro x1 x2 x3 x4 σ h
    unfold m12_takesTurns_141 at h
    rcases g_if h with ⟨hq, h⟩ | ⟨hq, h⟩
    · exact Fr.trans (Fr.rf _ _) (hk87 _ _ _ h)
    · have ⟨_, hc1, h⟩ := b_some h
      rcases g_if h with ⟨hq, h⟩ | ⟨hq, h⟩
      · exact Fr.trans (Fr.rf _ _) (ih _ _ _ _ _ h)
      · have ⟨hg, h⟩ := g_gd h
        have hb := inB_lt hg
        exact Fr.trans (Fr.sI (Fr.rf _ _) (by unfold Wm12_takesTurns; omega)) (ih _ _ _ _ _ h)
set_option maxHeartbeats 1000000 in
theorem f12_takesTurns_87 {F : Nat} {r : Mem} : ∀ (n : Nat) (x1 : Int32) (x2 : Int32) (σ : Mem), m12_takesTurns_87 F n x1 x2 σ = some r → Fr (Wm12_takesTurns) σ r := by
  intro n
  induction n with
  | zero => intro x1 x2 σ h; unfold m12_takesTurns_87 at h; cases h
  | succ n ih =>
    intro x1 x2 σ h
    unfold m12_takesTurns_87 at h
    have ⟨hg, h⟩ := g_gd h
    have hb := inB_lt hg
    rcases g_if h with ⟨hq, h⟩ | ⟨hq, h⟩
    · have e := Option.some.inj h
      subst e
      exact (Fr.rf _ _)
    · have ⟨hg, h⟩ := g_gd h
      have hb := inB_lt hg
      rcases g_if h with ⟨hq, h⟩ | ⟨hq, h⟩
      · exact Fr.trans (Fr.rf _ _) (ih _ _ _ h)
      · have ⟨_, hc1, h⟩ := b_some h
        have ⟨_, hc2, h⟩ := b_some h
        rcases g_if h with ⟨hq, h⟩ | ⟨hq, h⟩
        · have ⟨hg, h⟩ := g_gd h
          have hb := inB_lt hg
          exact Fr.trans (Fr.sI (Fr.rf _ _) (by unfold Wm12_takesTurns; omega)) (f12_takesTurns_141 (F := F) (fun _ _ _ h => (ih _ _ _ h)) F _ _ _ _ _ h)
        · rcases g_if h with ⟨hq, h⟩ | ⟨hq, h⟩
          · exact Fr.trans (Fr.rf _ _) (ih _ _ _ h)
          · rcases g_if h with ⟨hq, h⟩ | ⟨hq, h⟩
            · rcases g_if h with ⟨hq, h⟩ | ⟨hq, h⟩
              · have ⟨hg, h⟩ := g_gd h
                have hb := inB_lt hg
                exact Fr.trans (Fr.sI (Fr.sI (Fr.rf _ _) (by unfold Wm12_takesTurns; omega)) (by unfold Wm12_takesTurns; omega)) (ih _ _ _ h)
              · exact Fr.trans (Fr.rf _ _) (ih _ _ _ h)
            · exact Fr.trans (Fr.rf _ _) (ih _ _ _ h)
set_option maxHeartbeats 1000000 in
theorem f12_takesTurns_67 {F : Nat} {r : Mem} : ∀ (n : Nat) (x1 : Int32) (x2 : Int32) (σ : Mem), m12_takesTurns_67 F n x1 x2 σ = some r → Fr (Wm12_takesTurns) σ r := by
  intro n
  induction n with
  | zero => intro x1 x2 σ h; unfold m12_takesTurns_67 at h; cases h
  | succ n ih =>
    intro x1 x2 σ h
    unfold m12_takesTurns_67 at h
    rcases g_if h with ⟨hq, h⟩ | ⟨hq, h⟩
    · exact Fr.trans (Fr.rf _ _) (f12_takesTurns_87 (F := F) F _ _ _ h)
    · have ⟨hg, h⟩ := g_gd h
      have hb := inB_lt hg
      exact Fr.trans (Fr.sI (Fr.rf _ _) (by unfold Wm12_takesTurns; omega)) (ih _ _ _ h)
set_option maxHeartbeats 1000000 in
theorem f12_takesTurns_29 {F : Nat} {r : Mem} : ∀ (n : Nat) (x1 : Int32) (x2 : Int32) (σ : Mem), m12_takesTurns_29 F n x1 x2 σ = some r → Fr (Wm12_takesTurns) σ r := by
  intro n
  induction n with
  | zero => intro x1 x2 σ h; unfold m12_takesTurns_29 at h; cases h
  | succ n ih =>
    intro x1 x2 σ h
    unfold m12_takesTurns_29 at h
    have ⟨hg, h⟩ := g_gd h
    have hb := inB_lt hg
    rcases g_if h with ⟨hq, h⟩ | ⟨hq, h⟩
    · exact Fr.trans (Fr.rf _ _) (f12_takesTurns_67 (F := F) F _ _ _ h)
    · have ⟨_, hc1, h⟩ := b_some h
      have qhc1 := f12_willsStrike hc1
      rcases g_if h with ⟨hq, h⟩ | ⟨hq, h⟩
      · have ⟨hg, h⟩ := g_gd h
        have hb := inB_lt hg
        exact Fr.trans (Fr.sI (Fr.trans (Fr.rf _ _) (Fr.mono qhc1 (fun c hw => by unfold Wm12_willsStrike at hw; unfold Wm12_takesTurns; omega))) (by unfold Wm12_takesTurns; omega)) (ih _ _ _ h)
      · have ⟨hg, h⟩ := g_gd h
        have hb := inB_lt hg
        exact Fr.trans (Fr.sI (Fr.trans (Fr.rf _ _) (Fr.mono qhc1 (fun c hw => by unfold Wm12_willsStrike at hw; unfold Wm12_takesTurns; omega))) (by unfold Wm12_takesTurns; omega)) (ih _ _ _ h)
set_option maxHeartbeats 1000000 in
theorem f12_takesTurns {F : Nat} {σ : Mem} {r : Mem} (h : m12_takesTurns F  σ = some r) : Fr (Wm12_takesTurns) σ r := by
  unfold m12_takesTurns at h
  have ⟨_, hc1, h⟩ := b_some h
  have ⟨hg, h⟩ := g_gd h
  have hb := inB_lt hg
  rcases g_if h with ⟨hq, h⟩ | ⟨hq, h⟩
  · exact Fr.trans (Fr.sI (Fr.rf _ _) (by unfold Wm12_takesTurns; omega)) (f12_takesTurns_29 (F := F) F _ _ _ h)
  · exact Fr.trans (Fr.sI (Fr.rf _ _) (by unfold Wm12_takesTurns; omega)) (f12_takesTurns_29 (F := F) F _ _ _ h)
def Wm12_heats (c : Nat) : Prop := c = 493
set_option maxHeartbeats 1000000 in
theorem f12_heats {F : Nat} {i1 : Int32} {i2 : Int32} {σ : Mem} {r : Mem} (h : m12_heats F i1 i2 σ = some r) : Fr (Wm12_heats) σ r := by
  unfold m12_heats at h
  rcases g_if h with ⟨hq, h⟩ | ⟨hq, h⟩
  · have ⟨hg, h⟩ := g_gd h
    have hb := inB_lt hg
    have ⟨hg, h⟩ := g_gd h
    have hb := inB_lt hg
    have ⟨hg, h⟩ := g_gd h
    have hb := inB_lt hg
    have ⟨hg, h⟩ := g_gd h
    have hb := inB_lt hg
    have ⟨hg, h⟩ := g_gd h
    have hb := inB_lt hg
    rcases g_if h with ⟨hq, h⟩ | ⟨hq, h⟩
    · have ⟨hg, h⟩ := g_gd h
      have hb := inB_lt hg
      rcases g_if h with ⟨hq, h⟩ | ⟨hq, h⟩
      · have ⟨hg, h⟩ := g_gd h
        have hb := inB_lt hg
        have ⟨hg, h⟩ := g_gd h
        have hb := inB_lt hg
        have ⟨_, hc1, h⟩ := b_some h
        have ⟨hg, h⟩ := g_gd h
        have hb := inB_lt hg
        have e := Option.some.inj h
        subst e
        exact (Fr.sI (Fr.sI (Fr.sI (Fr.sI (Fr.rf _ _) (by unfold Wm12_heats; omega)) (by unfold Wm12_heats; omega)) (by unfold Wm12_heats; omega)) (by unfold Wm12_heats; omega))
      · have e := Option.some.inj h
        subst e
        exact (Fr.sI (Fr.sI (Fr.rf _ _) (by unfold Wm12_heats; omega)) (by unfold Wm12_heats; omega))
    · have e := Option.some.inj h
      subst e
      exact (Fr.sI (Fr.rf _ _) (by unfold Wm12_heats; omega))
  · have e := Option.some.inj h
    subst e
    exact (Fr.rf _ _)
def Wm12_strikes (c : Nat) : Prop := c = 493 ∨ c = 496
set_option maxHeartbeats 1000000 in
theorem f12_strikes_70 {F : Nat} {i1 : Int32} {i2 : Int32} {i3 : Int32} {r : Mem} : ∀ (x4 : Int32) (σ : Mem), m12_strikes_70 F i1 i2 i3 x4 σ = some r → Fr (Wm12_strikes) σ r := by
  intro x4 σ h
  unfold m12_strikes_70 at h
  have ⟨_, hc1, h⟩ := b_some h
  rcases g_if h with ⟨hq, h⟩ | ⟨hq, h⟩
  · have ⟨hg, h⟩ := g_gd h
    have hb := inB_lt hg
    have ⟨hg, h⟩ := g_gd h
    have hb := inB_lt hg
    have ⟨hg, h⟩ := g_gd h
    have hb := inB_lt hg
    have ⟨hg, h⟩ := g_gd h
    have hb := inB_lt hg
    have ⟨hg, h⟩ := g_gd h
    have hb := inB_lt hg
    have ⟨hg, h⟩ := g_gd h
    have hb := inB_lt hg
    have ⟨_, hc2, h⟩ := b_some h
    have ⟨hg, h⟩ := g_gd h
    have hb := inB_lt hg
    have e := Option.some.inj h
    subst e
    exact (Fr.sI (Fr.sI (Fr.sI (Fr.sI (Fr.rf _ _) (by unfold Wm12_strikes; omega)) (by unfold Wm12_strikes; omega)) (by unfold Wm12_strikes; omega)) (by unfold Wm12_strikes; omega))
  · have e := Option.some.inj h
    subst e
    exact (Fr.rf _ _)
set_option maxHeartbeats 1000000 in
theorem f12_strikes_23 {F : Nat} {i1 : Int32} {i2 : Int32} {i3 : Int32} {r : Mem} : ∀ (x4 : Int32) (σ : Mem), m12_strikes_23 F i1 i2 i3 x4 σ = some r → Fr (Wm12_strikes) σ r := by
  intro x4 σ h
  unfold m12_strikes_23 at h
  rcases g_if h with ⟨hq, h⟩ | ⟨hq, h⟩
  · rcases g_if h with ⟨hq, h⟩ | ⟨hq, h⟩
    · have ⟨hg, h⟩ := g_gd h
      have hb := inB_lt hg
      have ⟨hg, h⟩ := g_gd h
      have hb := inB_lt hg
      exact Fr.trans (Fr.sI (Fr.rf _ _) (by unfold Wm12_strikes; omega)) (f12_strikes_70 (F := F) _ _ h)
    · have ⟨hg, h⟩ := g_gd h
      have hb := inB_lt hg
      have ⟨hg, h⟩ := g_gd h
      have hb := inB_lt hg
      exact Fr.trans (Fr.sI (Fr.rf _ _) (by unfold Wm12_strikes; omega)) (f12_strikes_70 (F := F) _ _ h)
  · have e := Option.some.inj h
    subst e
    exact (Fr.rf _ _)
set_option maxHeartbeats 1000000 in
theorem f12_strikes {F : Nat} {i1 : Int32} {i2 : Int32} {i3 : Int32} {σ : Mem} {r : Mem} (h : m12_strikes F i1 i2 i3 σ = some r) : Fr (Wm12_strikes) σ r := by
  unfold m12_strikes at h
  rcases g_if h with ⟨hq, h⟩ | ⟨hq, h⟩
  · exact Fr.trans (Fr.rf _ _) (f12_strikes_23 (F := F) _ _ h)
  · have ⟨hg, h⟩ := g_gd h
    have hb := inB_lt hg
    have ⟨hg, h⟩ := g_gd h
    have hb := inB_lt hg
    exact Fr.trans (Fr.sI (Fr.rf _ _) (by unfold Wm12_strikes; omega)) (f12_strikes_23 (F := F) _ _ h)
def Wm12_goesOn (c : Nat) : Prop := c = 493 ∨ c = 496
set_option maxHeartbeats 1000000 in
theorem f12_goesOn_123 {F : Nat} {i1 : Int32} {r : Mem} : ∀ (x2 : Int32) (x4 : Int32) (s1 : Int32) (s2 : Int32) (σ : Mem), m12_goesOn_123 F i1 x2 x4 s1 s2 σ = some r → Fr (Wm12_goesOn) σ r := by
  intro x2 x4 s1 s2 σ h
  unfold m12_goesOn_123 at h
  have ⟨hg, h⟩ := g_gd h
  have hb := inB_lt hg
  have ⟨hg, h⟩ := g_gd h
  have hb := inB_lt hg
  rcases g_if h with ⟨hq, h⟩ | ⟨hq, h⟩
  · have e := Option.some.inj h
    subst e
    exact (Fr.sI (Fr.rf _ _) (by unfold Wm12_goesOn; omega))
  · have ⟨_, hc1, h⟩ := b_some h
    have qhc1 := f12_strikes hc1
    have e := Option.some.inj h
    subst e
    exact (Fr.trans (Fr.sI (Fr.rf _ _) (by unfold Wm12_goesOn; omega)) (Fr.mono qhc1 (fun c hw => by unfold Wm12_strikes at hw; unfold Wm12_goesOn; omega)))
set_option maxHeartbeats 1000000 in
theorem f12_goesOn_56 {F : Nat} {i1 : Int32} {r : Mem} : ∀ (x2 : Int32) (x3 : Int32) (σ : Mem), m12_goesOn_56 F i1 x2 x3 σ = some r → Fr (Wm12_goesOn) σ r := by
  intro x2 x3 σ h
  unfold m12_goesOn_56 at h
  rcases g_if h with ⟨hq, h⟩ | ⟨hq, h⟩
  · have ⟨hg, h⟩ := g_gd h
    have hb := inB_lt hg
    rcases g_if h with ⟨hq, h⟩ | ⟨hq, h⟩
    · have ⟨_, hc1, h⟩ := b_some h
      have qhc1 := f12_heats hc1
      have e := Option.some.inj h
      subst e
      exact (Fr.trans (Fr.rf _ _) (Fr.mono qhc1 (fun c hw => by unfold Wm12_heats at hw; unfold Wm12_goesOn; omega)))
    · have ⟨_, hc1, h⟩ := b_some h
      have ⟨hg, h⟩ := g_gd h
      have hb := inB_lt hg
      have ⟨hg, h⟩ := g_gd h
      have hb := inB_lt hg
      rcases g_if h with ⟨hq, h⟩ | ⟨hq, h⟩
      · have ⟨hg, h⟩ := g_gd h
        have hb := inB_lt hg
        have ⟨hg, h⟩ := g_gd h
        have hb := inB_lt hg
        exact Fr.trans (Fr.rf _ _) (f12_goesOn_123 (F := F) _ _ _ _ _ h)
      · exact Fr.trans (Fr.rf _ _) (f12_goesOn_123 (F := F) _ _ _ _ _ h)
  · have e := Option.some.inj h
    subst e
    exact (Fr.rf _ _)
set_option maxHeartbeats 1000000 in
theorem f12_goesOn_55 {F : Nat} {i1 : Int32} {r : Mem} {k56 : Int32 → Int32 → Mem → Option (Mem)} (hk56 : ∀ (x2 : Int32) (x3 : Int32) (σ : Mem), k56 x2 x3 σ = some r → Fr (Wm12_goesOn) σ r) : ∀ (x2 : Int32) (x3 : Int32) (s1 : Int32) (s2 : Int32) (σ : Mem), m12_goesOn_55 F i1 k56 x2 x3 s1 s2 σ = some r → Fr (Wm12_goesOn) σ r := by
  intro x2 x3 s1 s2 σ h
  unfold m12_goesOn_55 at h
  have ⟨hg, h⟩ := g_gd h
  have hb := inB_lt hg
  exact Fr.trans (Fr.sI (Fr.rf _ _) (by unfold Wm12_goesOn; omega)) (hk56 _ _ _ h)
set_option maxHeartbeats 1000000 in
theorem f12_goesOn_54 {F : Nat} {i1 : Int32} {r : Mem} {k55 : Int32 → Int32 → Int32 → Int32 → Mem → Option (Mem)} (hk55 : ∀ (x2 : Int32) (x3 : Int32) (s1 : Int32) (s2 : Int32) (σ : Mem), k55 x2 x3 s1 s2 σ = some r → Fr (Wm12_goesOn) σ r) : ∀ (x2 : Int32) (x3 : Int32) (s1 : Int32) (σ : Mem), m12_goesOn_54 F i1 k55 x2 x3 s1 σ = some r → Fr (Wm12_goesOn) σ r := by
  intro x2 x3 s1 σ h
  unfold m12_goesOn_54 at h
  exact Fr.trans (Fr.rf _ _) (hk55 _ _ _ _ _ h)
set_option maxHeartbeats 1000000 in
theorem f12_goesOn {F : Nat} {i1 : Int32} {σ : Mem} {r : Mem} (h : m12_goesOn F i1 σ = some r) : Fr (Wm12_goesOn) σ r := by
  unfold m12_goesOn at h
  have ⟨_, hc1, h⟩ := b_some h
  rcases g_if h with ⟨hq, h⟩ | ⟨hq, h⟩
  · rcases g_if h with ⟨hq, h⟩ | ⟨hq, h⟩
    · exact Fr.trans (Fr.rf _ _) (f12_goesOn_54 (F := F) (fun _ _ _ _ _ h => (f12_goesOn_55 (F := F) (fun _ _ _ h => (f12_goesOn_56 (F := F) _ _ _ h)) _ _ _ _ _ h)) _ _ _ _ h)
    · have ⟨hg, h⟩ := g_gd h
      have hb := inB_lt hg
      rcases g_if h with ⟨hq, h⟩ | ⟨hq, h⟩
      · have ⟨hg, h⟩ := g_gd h
        have hb := inB_lt hg
        exact Fr.trans (Fr.rf _ _) (f12_goesOn_55 (F := F) (fun _ _ _ h => (f12_goesOn_56 (F := F) _ _ _ h)) _ _ _ _ _ h)
      · exact Fr.trans (Fr.rf _ _) (f12_goesOn_54 (F := F) (fun _ _ _ _ _ h => (f12_goesOn_55 (F := F) (fun _ _ _ h => (f12_goesOn_56 (F := F) _ _ _ h)) _ _ _ _ _ h)) _ _ _ _ h)
  · exact Fr.trans (Fr.rf _ _) (f12_goesOn_56 (F := F) _ _ _ h)
def Wm12_wears (c : Nat) : Prop := c = 483 ∨ c = 493
set_option maxHeartbeats 1000000 in
theorem f12_wears_52 {F : Nat} {r : Mem} : ∀ (n : Nat) (x1 : Int32) (σ : Mem), m12_wears_52 F n x1 σ = some r → Fr (Wm12_wears) σ r := by
  intro n
  induction n with
  | zero => intro x1 σ h; unfold m12_wears_52 at h; cases h
  | succ n ih =>
    intro x1 σ h
    unfold m12_wears_52 at h
    have ⟨hg, h⟩ := g_gd h
    have hb := inB_lt hg
    rcases g_if h with ⟨hq, h⟩ | ⟨hq, h⟩
    · have e := Option.some.inj h
      subst e
      exact (Fr.rf _ _)
    · have ⟨hg, h⟩ := g_gd h
      have hb := inB_lt hg
      rcases g_if h with ⟨hq, h⟩ | ⟨hq, h⟩
      · exact Fr.trans (Fr.sI (Fr.rf _ _) (by unfold Wm12_wears; omega)) (ih _ _ h)
      · exact Fr.trans (Fr.sI (Fr.rf _ _) (by unfold Wm12_wears; omega)) (ih _ _ h)
set_option maxHeartbeats 1000000 in
theorem f12_wears_2 {F : Nat} {r : Mem} : ∀ (n : Nat) (x1 : Int32) (σ : Mem), m12_wears_2 F n x1 σ = some r → Fr (Wm12_wears) σ r := by
  intro n
  induction n with
  | zero => intro x1 σ h; unfold m12_wears_2 at h; cases h
  | succ n ih =>
    intro x1 σ h
    unfold m12_wears_2 at h
    rcases g_if h with ⟨hq, h⟩ | ⟨hq, h⟩
    · exact Fr.trans (Fr.rf _ _) (f12_wears_52 (F := F) F _ _ h)
    · have ⟨hg, h⟩ := g_gd h
      have hb := inB_lt hg
      rcases g_if h with ⟨hq, h⟩ | ⟨hq, h⟩
      · exact Fr.trans (Fr.rf _ _) (ih _ _ h)
      · have ⟨hg, h⟩ := g_gd h
        have hb := inB_lt hg
        rcases g_if h with ⟨hq, h⟩ | ⟨hq, h⟩
        · exact Fr.trans (Fr.rf _ _) (ih _ _ h)
        · have ⟨hg, h⟩ := g_gd h
          have hb := inB_lt hg
          have ⟨hg, h⟩ := g_gd h
          have hb := inB_lt hg
          exact Fr.trans (Fr.sI (Fr.rf _ _) (by unfold Wm12_wears; omega)) (ih _ _ h)
set_option maxHeartbeats 1000000 in
theorem f12_wears {F : Nat} {σ : Mem} {r : Mem} (h : m12_wears F  σ = some r) : Fr (Wm12_wears) σ r := by
  unfold m12_wears at h
  exact Fr.trans (Fr.rf _ _) (f12_wears_2 (F := F) F _ _ h)
def Wm12_passes (c : Nat) : Prop := c = 483 ∨ (491 ≤ c ∧ c ≤ 496)
set_option maxHeartbeats 1000000 in
theorem f12_passes_8 {F : Nat} {r : Int32 × Mem} : ∀ (n : Nat) (x1 : Int32) (x2 : Int32) (σ : Mem), m12_passes_8 F n x1 x2 σ = some r → Fr (Wm12_passes) σ r.2 := by
  intro n
  induction n with
  | zero => intro x1 x2 σ h; unfold m12_passes_8 at h; cases h
  | succ n ih =>
    intro x1 x2 σ h
    unfold m12_passes_8 at h
    have ⟨hg, h⟩ := g_gd h
    have hb := inB_lt hg
    rcases g_if h with ⟨hq, h⟩ | ⟨hq, h⟩
    · rcases g_if h with ⟨hq, h⟩ | ⟨hq, h⟩
      · have ⟨_, hc1, h⟩ := b_some h
        have qhc1 := f12_wears hc1
        have ⟨hg, h⟩ := g_gd h
        have hb := inB_lt hg
        have ⟨hg, h⟩ := g_gd h
        have hb := inB_lt hg
        have e := Option.some.inj h
        subst e
        exact (Fr.sI (Fr.trans (Fr.rf _ _) (Fr.mono qhc1 (fun c hw => by unfold Wm12_wears at hw; unfold Wm12_passes; omega))) (by unfold Wm12_passes; omega))
      · have e := Option.some.inj h
        subst e
        exact (Fr.rf _ _)
    · have ⟨hg, h⟩ := g_gd h
      have hb := inB_lt hg
      have ⟨_, hc1, h⟩ := b_some h
      have qhc1 := f12_goesOn hc1
      have ⟨hg, h⟩ := g_gd h
      have hb := inB_lt hg
      exact Fr.trans (Fr.trans (Fr.sI (Fr.rf _ _) (by unfold Wm12_passes; omega)) (Fr.mono qhc1 (fun c hw => by unfold Wm12_goesOn at hw; unfold Wm12_passes; omega))) (ih _ _ _ h)
set_option maxHeartbeats 1000000 in
theorem f12_passes {F : Nat} {σ : Mem} {r : Int32 × Mem} (h : m12_passes F  σ = some r) : Fr (Wm12_passes) σ r.2 := by
  unfold m12_passes at h
  have ⟨_, hc1, h⟩ := b_some h
  have qhc1 := f12_takesTurns hc1
  exact Fr.trans (Fr.trans (Fr.rf _ _) (Fr.mono qhc1 (fun c hw => by unfold Wm12_takesTurns at hw; unfold Wm12_passes; omega))) (f12_passes_8 (F := F) F _ _ _ h)
def Wm12_keepsAct (c : Nat) : Prop := c = 483 ∨ c = 497
set_option maxHeartbeats 1000000 in
theorem f12_keepsAct_52 {F : Nat} {r : Mem} : ∀ (n : Nat) (x1 : Int32) (σ : Mem), m12_keepsAct_52 F n x1 σ = some r → Fr (Wm12_keepsAct) σ r := by
  intro n
  induction n with
  | zero => intro x1 σ h; unfold m12_keepsAct_52 at h; cases h
  | succ n ih =>
    intro x1 σ h
    unfold m12_keepsAct_52 at h
    rcases g_if h with ⟨hq, h⟩ | ⟨hq, h⟩
    · have e := Option.some.inj h
      subst e
      exact (Fr.sI (Fr.rf _ _) (by unfold Wm12_keepsAct; omega))
    · have ⟨hg, h⟩ := g_gd h
      have hb := inB_lt hg
      have ⟨hg, h⟩ := g_gd h
      have hb := inB_lt hg
      exact Fr.trans (Fr.sI (Fr.rf _ _) (by unfold Wm12_keepsAct; omega)) (ih _ _ h)
set_option maxHeartbeats 1000000 in
theorem f12_keepsAct_12 {F : Nat} {r : Mem} {k52 : Int32 → Mem → Option (Mem)} (hk52 : ∀ (x1 : Int32) (σ : Mem), k52 x1 σ = some r → Fr (Wm12_keepsAct) σ r) : ∀ (n : Nat) (x1 : Int32) (σ : Mem), m12_keepsAct_12 F k52 n x1 σ = some r → Fr (Wm12_keepsAct) σ r := by
  intro n
  induction n with
  | zero => intro x1 σ h; unfold m12_keepsAct_12 at h; cases h
  | succ n ih =>
    intro x1 σ h
    unfold m12_keepsAct_12 at h
    rcases g_if h with ⟨hq, h⟩ | ⟨hq, h⟩
    · exact Fr.trans (Fr.sI (Fr.rf _ _) (by unfold Wm12_keepsAct; omega)) (hk52 _ _ h)
    · have ⟨hg, h⟩ := g_gd h
      have hb := inB_lt hg
      have ⟨hg, h⟩ := g_gd h
      have hb := inB_lt hg
      exact Fr.trans (Fr.sI (Fr.rf _ _) (by unfold Wm12_keepsAct; omega)) (ih _ _ h)
set_option maxHeartbeats 1000000 in
theorem f12_keepsAct {F : Nat} {σ : Mem} {r : Mem} (h : m12_keepsAct F  σ = some r) : Fr (Wm12_keepsAct) σ r := by
  unfold m12_keepsAct at h
  rcases g_if h with ⟨hq, h⟩ | ⟨hq, h⟩
  · exact Fr.trans (Fr.rf _ _) (f12_keepsAct_12 (F := F) (fun _ _ h => (f12_keepsAct_52 (F := F) F _ _ h)) F _ _ h)
  · exact Fr.trans (Fr.rf _ _) (f12_keepsAct_52 (F := F) F _ _ h)
def Wm12_undo (c : Nat) : Prop := c = 483 ∨ c = 493
set_option maxHeartbeats 1000000 in
theorem f12_undo_21 {F : Nat} {r : Int32 × Mem} : ∀ (n : Nat) (x1 : Int32) (σ : Mem), m12_undo_21 F n x1 σ = some r → Fr (Wm12_undo) σ r.2 := by
  intro n
  induction n with
  | zero => intro x1 σ h; unfold m12_undo_21 at h; cases h
  | succ n ih =>
    intro x1 σ h
    unfold m12_undo_21 at h
    rcases g_if h with ⟨hq, h⟩ | ⟨hq, h⟩
    · have e := Option.some.inj h
      subst e
      exact (Fr.rf _ _)
    · have ⟨hg, h⟩ := g_gd h
      have hb := inB_lt hg
      have ⟨hg, h⟩ := g_gd h
      have hb := inB_lt hg
      exact Fr.trans (Fr.sI (Fr.rf _ _) (by unfold Wm12_undo; omega)) (ih _ _ h)
set_option maxHeartbeats 1000000 in
theorem f12_undo {F : Nat} {σ : Mem} {r : Int32 × Mem} (h : m12_undo F  σ = some r) : Fr (Wm12_undo) σ r.2 := by
  unfold m12_undo at h
  rcases g_if h with ⟨hq, h⟩ | ⟨hq, h⟩
  · have e := Option.some.inj h
    subst e
    exact (Fr.rf _ _)
  · exact Fr.trans (Fr.sI (Fr.rf _ _) (by unfold Wm12_undo; omega)) (f12_undo_21 (F := F) F _ _ h)
def Wm12_moment (c : Nat) : Prop := c = 483 ∨ (491 ≤ c ∧ c ≤ 497)
set_option maxHeartbeats 1000000 in
theorem f12_moment {F : Nat} {σ : Mem} {r : Int32 × Mem} (h : m12_moment F  σ = some r) : Fr (Wm12_moment) σ r.2 := by
  unfold m12_moment at h
  have ⟨_, hc1, h⟩ := b_some h
  rcases g_if h with ⟨hq, h⟩ | ⟨hq, h⟩
  · have e := Option.some.inj h
    subst e
    exact (Fr.rf _ _)
  · have ⟨hg, h⟩ := g_gd h
    have hb := inB_lt hg
    rcases g_if h with ⟨hq, h⟩ | ⟨hq, h⟩
    · have e := Option.some.inj h
      subst e
      exact (Fr.rf _ _)
    · have ⟨_, hc2, h⟩ := b_some h
      have qhc2 := f12_keepsAct hc2
      have ⟨_, hc3, h⟩ := b_some h
      have qhc3 := f12_passes hc3
      have e := Option.some.inj h
      subst e
      exact (Fr.trans (Fr.trans (Fr.rf _ _) (Fr.mono qhc2 (fun c hw => by unfold Wm12_keepsAct at hw; unfold Wm12_moment; omega))) (Fr.mono qhc3 (fun c hw => by unfold Wm12_passes at hw; unfold Wm12_moment; omega)))
def Wm12_quench (c : Nat) : Prop := c = 483 ∨ c = 493 ∨ c = 497
set_option maxHeartbeats 1000000 in
theorem f12_quench {F : Nat} {i1 : Int32} {σ : Mem} {r : Int32 × Mem} (h : m12_quench F i1 σ = some r) : Fr (Wm12_quench) σ r.2 := by
  unfold m12_quench at h
  have ⟨_, hc1, h⟩ := b_some h
  rcases g_if h with ⟨hq, h⟩ | ⟨hq, h⟩
  · have e := Option.some.inj h
    subst e
    exact (Fr.rf _ _)
  · have ⟨_, hc2, h⟩ := b_some h
    rcases g_if h with ⟨hq, h⟩ | ⟨hq, h⟩
    · have e := Option.some.inj h
      subst e
      exact (Fr.rf _ _)
    · have ⟨_, hc3, h⟩ := b_some h
      have qhc3 := f12_keepsAct hc3
      have ⟨_, hc4, h⟩ := b_some h
      have ⟨hg, h⟩ := g_gd h
      have hb := inB_lt hg
      have e := Option.some.inj h
      subst e
      exact (Fr.sI (Fr.trans (Fr.rf _ _) (Fr.mono qhc3 (fun c hw => by unfold Wm12_keepsAct at hw; unfold Wm12_quench; omega))) (by unfold Wm12_quench; omega))
def Wm12_mend (c : Nat) : Prop := c = 483 ∨ c = 493 ∨ c = 497
set_option maxHeartbeats 1000000 in
theorem f12_mend {F : Nat} {i1 : Int32} {σ : Mem} {r : Int32 × Mem} (h : m12_mend F i1 σ = some r) : Fr (Wm12_mend) σ r.2 := by
  unfold m12_mend at h
  have ⟨_, hc1, h⟩ := b_some h
  rcases g_if h with ⟨hq, h⟩ | ⟨hq, h⟩
  · have e := Option.some.inj h
    subst e
    exact (Fr.rf _ _)
  · have ⟨_, hc2, h⟩ := b_some h
    rcases g_if h with ⟨hq, h⟩ | ⟨hq, h⟩
    · have e := Option.some.inj h
      subst e
      exact (Fr.rf _ _)
    · have ⟨hg, h⟩ := g_gd h
      have hb := inB_lt hg
      rcases g_if h with ⟨hq, h⟩ | ⟨hq, h⟩
      · have e := Option.some.inj h
        subst e
        exact (Fr.rf _ _)
      · have ⟨_, hc3, h⟩ := b_some h
        have qhc3 := f12_keepsAct hc3
        have ⟨hg, h⟩ := g_gd h
        have hb := inB_lt hg
        have ⟨hg, h⟩ := g_gd h
        have hb := inB_lt hg
        have ⟨hg, h⟩ := g_gd h
        have hb := inB_lt hg
        have e := Option.some.inj h
        subst e
        exact (Fr.sI (Fr.trans (Fr.rf _ _) (Fr.mono qhc3 (fun c hw => by unfold Wm12_keepsAct at hw; unfold Wm12_mend; omega))) (by unfold Wm12_mend; omega))
def Wm12_putsBehind (c : Nat) : Prop := c = 493
set_option maxHeartbeats 1000000 in
theorem f12_putsBehind_4 {F : Nat} {i1 : Int32} {r : Mem} : ∀ (n : Nat) (x2 : Int32) (x3 : Int32) (σ : Mem), m12_putsBehind_4 F i1 n x2 x3 σ = some r → Fr (Wm12_putsBehind) σ r := by
  intro n
  induction n with
  | zero => intro x2 x3 σ h; unfold m12_putsBehind_4 at h; cases h
  | succ n ih =>
    intro x2 x3 σ h
    unfold m12_putsBehind_4 at h
    have ⟨hg, h⟩ := g_gd h
    have hb := inB_lt hg
    rcases g_if h with ⟨hq, h⟩ | ⟨hq, h⟩
    · have ⟨hg, h⟩ := g_gd h
      have hb := inB_lt hg
      have e := Option.some.inj h
      subst e
      exact (Fr.sI (Fr.rf _ _) (by unfold Wm12_putsBehind; omega))
    · have ⟨_, hc1, h⟩ := b_some h
      rcases g_if h with ⟨hq, h⟩ | ⟨hq, h⟩
      · exact Fr.trans (Fr.rf _ _) (ih _ _ _ h)
      · have ⟨_, hc2, h⟩ := b_some h
        exact Fr.trans (Fr.rf _ _) (ih _ _ _ h)
set_option maxHeartbeats 1000000 in
theorem f12_putsBehind {F : Nat} {i1 : Int32} {σ : Mem} {r : Mem} (h : m12_putsBehind F i1 σ = some r) : Fr (Wm12_putsBehind) σ r := by
  unfold m12_putsBehind at h
  exact Fr.trans (Fr.rf _ _) (f12_putsBehind_4 (F := F) F _ _ _ h)
def Wm12_aside (c : Nat) : Prop := c = 483 ∨ c = 493 ∨ c = 497
set_option maxHeartbeats 1000000 in
theorem f12_aside {F : Nat} {i1 : Int32} {σ : Mem} {r : Int32 × Mem} (h : m12_aside F i1 σ = some r) : Fr (Wm12_aside) σ r.2 := by
  unfold m12_aside at h
  have ⟨_, hc1, h⟩ := b_some h
  rcases g_if h with ⟨hq, h⟩ | ⟨hq, h⟩
  · have e := Option.some.inj h
    subst e
    exact (Fr.rf _ _)
  · have ⟨_, hc2, h⟩ := b_some h
    rcases g_if h with ⟨hq, h⟩ | ⟨hq, h⟩
    · have ⟨_, hc3, h⟩ := b_some h
      have qhc3 := f12_keepsAct hc3
      have ⟨_, hc4, h⟩ := b_some h
      have ⟨_, hc5, h⟩ := b_some h
      have qhc5 := f12_putsBehind hc5
      have ⟨hg, h⟩ := g_gd h
      have hb := inB_lt hg
      have ⟨_, hc6, h⟩ := b_some h
      have e := Option.some.inj h
      subst e
      exact (Fr.sI (Fr.trans (Fr.trans (Fr.rf _ _) (Fr.mono qhc3 (fun c hw => by unfold Wm12_keepsAct at hw; unfold Wm12_aside; omega))) (Fr.mono qhc5 (fun c hw => by unfold Wm12_putsBehind at hw; unfold Wm12_aside; omega))) (by unfold Wm12_aside; omega))
    · have e := Option.some.inj h
      subst e
      exact (Fr.rf _ _)
def Wm12_keeps (c : Nat) : Prop := c = 483 ∨ c = 498
set_option maxHeartbeats 1000000 in
theorem f12_keeps_2 {F : Nat} {r : Mem} : ∀ (n : Nat) (x1 : Int32) (σ : Mem), m12_keeps_2 F n x1 σ = some r → Fr (Wm12_keeps) σ r := by
  intro n
  induction n with
  | zero => intro x1 σ h; unfold m12_keeps_2 at h; cases h
  | succ n ih =>
    intro x1 σ h
    unfold m12_keeps_2 at h
    rcases g_if h with ⟨hq, h⟩ | ⟨hq, h⟩
    · have e := Option.some.inj h
      subst e
      exact (Fr.sI (Fr.rf _ _) (by unfold Wm12_keeps; omega))
    · have ⟨hg, h⟩ := g_gd h
      have hb := inB_lt hg
      have ⟨hg, h⟩ := g_gd h
      have hb := inB_lt hg
      exact Fr.trans (Fr.sI (Fr.rf _ _) (by unfold Wm12_keeps; omega)) (ih _ _ h)
set_option maxHeartbeats 1000000 in
theorem f12_keeps {F : Nat} {σ : Mem} {r : Mem} (h : m12_keeps F  σ = some r) : Fr (Wm12_keeps) σ r := by
  unfold m12_keeps at h
  exact Fr.trans (Fr.rf _ _) (f12_keeps_2 (F := F) F _ _ h)
def Wm12_laysBack (c : Nat) : Prop := c = 483 ∨ c = 493
set_option maxHeartbeats 1000000 in
theorem f12_laysBack_2 {F : Nat} {r : Mem} : ∀ (n : Nat) (x1 : Int32) (σ : Mem), m12_laysBack_2 F n x1 σ = some r → Fr (Wm12_laysBack) σ r := by
  intro n
  induction n with
  | zero => intro x1 σ h; unfold m12_laysBack_2 at h; cases h
  | succ n ih =>
    intro x1 σ h
    unfold m12_laysBack_2 at h
    rcases g_if h with ⟨hq, h⟩ | ⟨hq, h⟩
    · have e := Option.some.inj h
      subst e
      exact (Fr.sI (Fr.rf _ _) (by unfold Wm12_laysBack; omega))
    · have ⟨hg, h⟩ := g_gd h
      have hb := inB_lt hg
      have ⟨hg, h⟩ := g_gd h
      have hb := inB_lt hg
      exact Fr.trans (Fr.sI (Fr.rf _ _) (by unfold Wm12_laysBack; omega)) (ih _ _ h)
set_option maxHeartbeats 1000000 in
theorem f12_laysBack {F : Nat} {σ : Mem} {r : Mem} (h : m12_laysBack F  σ = some r) : Fr (Wm12_laysBack) σ r := by
  unfold m12_laysBack at h
  exact Fr.trans (Fr.rf _ _) (f12_laysBack_2 (F := F) F _ _ h)
def Wm12_ahead (c : Nat) : Prop := c = 483 ∨ (491 ≤ c ∧ c ≤ 496) ∨ c = 498
set_option maxHeartbeats 1000000 in
theorem f12_ahead_108 {F : Nat} {i1 : Int32} {i2 : Int32} {i3 : Int32} {r : Int32 × Mem} : ∀ (s0 : Int32) (σ : Mem), m12_ahead_108 F i1 i2 i3 s0 σ = some r → Fr (Wm12_ahead) σ r.2 := by
  intro s0 σ h
  unfold m12_ahead_108 at h
  have ⟨_, hc1, h⟩ := b_some h
  have qhc1 := f12_laysBack hc1
  have e := Option.some.inj h
  subst e
  exact (Fr.trans (Fr.rf _ _) (Fr.mono qhc1 (fun c hw => by unfold Wm12_laysBack at hw; unfold Wm12_ahead; omega)))
set_option maxHeartbeats 1000000 in
theorem f12_ahead_41 {F : Nat} {i1 : Int32} {i2 : Int32} {i3 : Int32} {r : Int32 × Mem} : ∀ (n : Nat) (x4 : Int32) (σ : Mem), m12_ahead_41 F i1 i2 i3 n x4 σ = some r → Fr (Wm12_ahead) σ r.2 := by
  intro n
  induction n with
  | zero => intro x4 σ h; unfold m12_ahead_41 at h; cases h
  | succ n ih =>
    intro x4 σ h
    unfold m12_ahead_41 at h
    rcases g_if h with ⟨hq, h⟩ | ⟨hq, h⟩
    · have ⟨_, hc1, h⟩ := b_some h
      rcases g_if h with ⟨hq, h⟩ | ⟨hq, h⟩
      · have ⟨_, hc2, h⟩ := b_some h
        exact Fr.trans (Fr.rf _ _) (f12_ahead_108 (F := F) _ _ h)
      · rcases g_if h with ⟨hq, h⟩ | ⟨hq, h⟩
        · have ⟨_, hc2, h⟩ := b_some h
          exact Fr.trans (Fr.rf _ _) (f12_ahead_108 (F := F) _ _ h)
        · rcases g_if h with ⟨hq, h⟩ | ⟨hq, h⟩
          · have ⟨_, hc2, h⟩ := b_some h
            exact Fr.trans (Fr.rf _ _) (f12_ahead_108 (F := F) _ _ h)
          · exact Fr.trans (Fr.rf _ _) (f12_ahead_108 (F := F) _ _ h)
    · have ⟨_, hc1, h⟩ := b_some h
      have qhc1 := f12_passes hc1
      exact Fr.trans (Fr.trans (Fr.rf _ _) (Fr.mono qhc1 (fun c hw => by unfold Wm12_passes at hw; unfold Wm12_ahead; omega))) (ih _ _ h)
set_option maxHeartbeats 1000000 in
theorem f12_ahead {F : Nat} {i1 : Int32} {i2 : Int32} {i3 : Int32} {σ : Mem} {r : Int32 × Mem} (h : m12_ahead F i1 i2 i3 σ = some r) : Fr (Wm12_ahead) σ r.2 := by
  unfold m12_ahead at h
  have ⟨_, hc1, h⟩ := b_some h
  rcases g_if h with ⟨hq, h⟩ | ⟨hq, h⟩
  · have e := Option.some.inj h
    subst e
    exact (Fr.rf _ _)
  · have ⟨_, hc2, h⟩ := b_some h
    rcases g_if h with ⟨hq, h⟩ | ⟨hq, h⟩
    · have e := Option.some.inj h
      subst e
      exact (Fr.rf _ _)
    · have ⟨_, hc3, h⟩ := b_some h
      rcases g_if h with ⟨hq, h⟩ | ⟨hq, h⟩
      · have e := Option.some.inj h
        subst e
        exact (Fr.rf _ _)
      · have ⟨_, hc4, h⟩ := b_some h
        have qhc4 := f12_keeps hc4
        exact Fr.trans (Fr.trans (Fr.rf _ _) (Fr.mono qhc4 (fun c hw => by unfold Wm12_keeps at hw; unfold Wm12_ahead; omega))) (f12_ahead_41 (F := F) F _ _ h)
def Wm12_ready (c : Nat) : Prop := c = 483 ∨ (491 ≤ c ∧ c ≤ 496) ∨ c = 498
set_option maxHeartbeats 1000000 in
theorem f12_ready_43 {F : Nat} {i1 : Int32} {r : Int32 × Mem} : ∀ (σ : Mem), m12_ready_43 F i1 σ = some r → Fr (Wm12_ready) σ r.2 := by
  intro σ h
  unfold m12_ready_43 at h
  have ⟨_, hc1, h⟩ := b_some h
  have ⟨_, hc2, h⟩ := b_some h
  have qhc2 := f12_laysBack hc2
  rcases g_if h with ⟨hq, h⟩ | ⟨hq, h⟩
  · have e := Option.some.inj h
    subst e
    exact (Fr.trans (Fr.rf _ _) (Fr.mono qhc2 (fun c hw => by unfold Wm12_laysBack at hw; unfold Wm12_ready; omega)))
  · have e := Option.some.inj h
    subst e
    exact (Fr.trans (Fr.rf _ _) (Fr.mono qhc2 (fun c hw => by unfold Wm12_laysBack at hw; unfold Wm12_ready; omega)))
set_option maxHeartbeats 1000000 in
theorem f12_ready_16 {F : Nat} {i1 : Int32} {r : Int32 × Mem} : ∀ (n : Nat) (x2 : Int32) (σ : Mem), m12_ready_16 F i1 n x2 σ = some r → Fr (Wm12_ready) σ r.2 := by
  intro n
  induction n with
  | zero => intro x2 σ h; unfold m12_ready_16 at h; cases h
  | succ n ih =>
    intro x2 σ h
    unfold m12_ready_16 at h
    rcases g_if h with ⟨hq, h⟩ | ⟨hq, h⟩
    · exact Fr.trans (Fr.rf _ _) (f12_ready_43 (F := F) _ h)
    · have ⟨_, hc1, h⟩ := b_some h
      rcases g_if h with ⟨hq, h⟩ | ⟨hq, h⟩
      · exact Fr.trans (Fr.rf _ _) (f12_ready_43 (F := F) _ h)
      · have ⟨_, hc2, h⟩ := b_some h
        have qhc2 := f12_passes hc2
        exact Fr.trans (Fr.trans (Fr.rf _ _) (Fr.mono qhc2 (fun c hw => by unfold Wm12_passes at hw; unfold Wm12_ready; omega))) (ih _ _ h)
set_option maxHeartbeats 1000000 in
theorem f12_ready {F : Nat} {i1 : Int32} {σ : Mem} {r : Int32 × Mem} (h : m12_ready F i1 σ = some r) : Fr (Wm12_ready) σ r.2 := by
  unfold m12_ready at h
  have ⟨_, hc1, h⟩ := b_some h
  rcases g_if h with ⟨hq, h⟩ | ⟨hq, h⟩
  · have e := Option.some.inj h
    subst e
    exact (Fr.rf _ _)
  · have ⟨_, hc2, h⟩ := b_some h
    have qhc2 := f12_keeps hc2
    exact Fr.trans (Fr.trans (Fr.rf _ _) (Fr.mono qhc2 (fun c hw => by unfold Wm12_keeps at hw; unfold Wm12_ready; omega))) (f12_ready_16 (F := F) F _ _ h)
def Wm12_momentsLeft (c : Nat) : Prop := c = 483 ∨ (491 ≤ c ∧ c ≤ 496) ∨ c = 498
set_option maxHeartbeats 1000000 in
theorem f12_momentsLeft_31 {F : Nat} {r : Int32 × Mem} : ∀ (x1 : Int32) (σ : Mem), m12_momentsLeft_31 F x1 σ = some r → Fr (Wm12_momentsLeft) σ r.2 := by
  intro x1 σ h
  unfold m12_momentsLeft_31 at h
  have ⟨_, hc1, h⟩ := b_some h
  have qhc1 := f12_laysBack hc1
  have e := Option.some.inj h
  subst e
  exact (Fr.trans (Fr.rf _ _) (Fr.mono qhc1 (fun c hw => by unfold Wm12_laysBack at hw; unfold Wm12_momentsLeft; omega)))
set_option maxHeartbeats 1000000 in
theorem f12_momentsLeft_6 {F : Nat} {r : Int32 × Mem} : ∀ (n : Nat) (x1 : Int32) (σ : Mem), m12_momentsLeft_6 F n x1 σ = some r → Fr (Wm12_momentsLeft) σ r.2 := by
  intro n
  induction n with
  | zero => intro x1 σ h; unfold m12_momentsLeft_6 at h; cases h
  | succ n ih =>
    intro x1 σ h
    unfold m12_momentsLeft_6 at h
    rcases g_if h with ⟨hq, h⟩ | ⟨hq, h⟩
    · exact Fr.trans (Fr.rf _ _) (f12_momentsLeft_31 (F := F) _ _ h)
    · have ⟨_, hc1, h⟩ := b_some h
      rcases g_if h with ⟨hq, h⟩ | ⟨hq, h⟩
      · have ⟨_, hc2, h⟩ := b_some h
        have qhc2 := f12_passes hc2
        exact Fr.trans (Fr.trans (Fr.rf _ _) (Fr.mono qhc2 (fun c hw => by unfold Wm12_passes at hw; unfold Wm12_momentsLeft; omega))) (ih _ _ h)
      · exact Fr.trans (Fr.rf _ _) (f12_momentsLeft_31 (F := F) _ _ h)
set_option maxHeartbeats 1000000 in
theorem f12_momentsLeft {F : Nat} {σ : Mem} {r : Int32 × Mem} (h : m12_momentsLeft F  σ = some r) : Fr (Wm12_momentsLeft) σ r.2 := by
  unfold m12_momentsLeft at h
  have ⟨_, hc1, h⟩ := b_some h
  have qhc1 := f12_keeps hc1
  exact Fr.trans (Fr.trans (Fr.rf _ _) (Fr.mono qhc1 (fun c hw => by unfold Wm12_keeps at hw; unfold Wm12_momentsLeft; omega))) (f12_momentsLeft_6 (F := F) F _ _ h)
def Wm12_all (c : Nat) : Prop := c = 483 ∨ (491 ≤ c ∧ c ≤ 496) ∨ c = 498
set_option maxHeartbeats 1000000 in
theorem f12_all {F : Nat} {σ : Mem} {r : Int32 × Mem} (h : m12_all F  σ = some r) : Fr (Wm12_all) σ r.2 := by
  unfold m12_all at h
  have ⟨_, hc1, h⟩ := b_some h
  rcases g_if h with ⟨hq, h⟩ | ⟨hq, h⟩
  · have e := Option.some.inj h
    subst e
    exact (Fr.rf _ _)
  · have ⟨_, hc2, h⟩ := b_some h
    have qhc2 := f12_momentsLeft hc2
    rcases g_if h with ⟨hq, h⟩ | ⟨hq, h⟩
    · have ⟨hg, h⟩ := g_gd h
      have hb := inB_lt hg
      have e := Option.some.inj h
      subst e
      exact (Fr.trans (Fr.rf _ _) (Fr.mono qhc2 (fun c hw => by unfold Wm12_momentsLeft at hw; unfold Wm12_all; omega)))
    · have e := Option.some.inj h
      subst e
      exact (Fr.trans (Fr.rf _ _) (Fr.mono qhc2 (fun c hw => by unfold Wm12_momentsLeft at hw; unfold Wm12_all; omega)))
def Wm12_blowsBy (c : Nat) : Prop := c = 483 ∨ (491 ≤ c ∧ c ≤ 496) ∨ c = 498
set_option maxHeartbeats 1000000 in
theorem f12_blowsBy_9 {F : Nat} {i1 : Int32} {i2 : Int32} {r : Int32 × Mem} : ∀ (n : Nat) (x3 : Int32) (x4 : Int32) (σ : Mem), m12_blowsBy_9 F i1 i2 n x3 x4 σ = some r → Fr (Wm12_blowsBy) σ r.2 := by
  intro n
  induction n with
  | zero => intro x3 x4 σ h; unfold m12_blowsBy_9 at h; cases h
  | succ n ih =>
    intro x3 x4 σ h
    unfold m12_blowsBy_9 at h
    rcases g_if h with ⟨hq, h⟩ | ⟨hq, h⟩
    · have ⟨_, hc1, h⟩ := b_some h
      have qhc1 := f12_laysBack hc1
      have e := Option.some.inj h
      subst e
      exact (Fr.trans (Fr.sI (Fr.rf _ _) (by unfold Wm12_blowsBy; omega)) (Fr.mono qhc1 (fun c hw => by unfold Wm12_laysBack at hw; unfold Wm12_blowsBy; omega)))
    · have ⟨_, hc1, h⟩ := b_some h
      have ⟨_, hc2, h⟩ := b_some h
      have qhc2 := f12_passes hc2
      exact Fr.trans (Fr.trans (Fr.sI (Fr.rf _ _) (by unfold Wm12_blowsBy; omega)) (Fr.mono qhc2 (fun c hw => by unfold Wm12_passes at hw; unfold Wm12_blowsBy; omega))) (ih _ _ _ h)
set_option maxHeartbeats 1000000 in
theorem f12_blowsBy {F : Nat} {i1 : Int32} {i2 : Int32} {σ : Mem} {r : Int32 × Mem} (h : m12_blowsBy F i1 i2 σ = some r) : Fr (Wm12_blowsBy) σ r.2 := by
  unfold m12_blowsBy at h
  have ⟨_, hc1, h⟩ := b_some h
  have qhc1 := f12_keeps hc1
  exact Fr.trans (Fr.trans (Fr.rf _ _) (Fr.mono qhc1 (fun c hw => by unfold Wm12_keeps at hw; unfold Wm12_blowsBy; omega))) (f12_blowsBy_9 (F := F) F _ _ _ h)
def Wm12_rota (c : Nat) : Prop := c = 483 ∨ (491 ≤ c ∧ c ≤ 496) ∨ c = 498
set_option maxHeartbeats 1000000 in
theorem f12_rota_41 {F : Nat} {i1 : Int32} {i2 : Int32} {r : Int32 × Mem} : ∀ (n : Nat) (x3 : Int32) (x4 : Int32) (x5 : Int32) (σ : Mem), m12_rota_41 F i1 i2 n x3 x4 x5 σ = some r → Fr (Wm12_rota) σ r.2 := by
  intro n
  induction n with
  | zero => intro x3 x4 x5 σ h; unfold m12_rota_41 at h; cases h
  | succ n ih =>
    intro x3 x4 x5 σ h
    unfold m12_rota_41 at h
    have ⟨_, hc1, h⟩ := b_some h
    rcases g_if h with ⟨hq, h⟩ | ⟨hq, h⟩
    · rcases g_if h with ⟨hq, h⟩ | ⟨hq, h⟩
      · have e := Option.some.inj h
        subst e
        exact (Fr.rf _ _)
      · rcases g_if h with ⟨hq, h⟩ | ⟨hq, h⟩
        · have ⟨_, hc2, h⟩ := b_some h
          have e := Option.some.inj h
          subst e
          exact (Fr.rf _ _)
        · have e := Option.some.inj h
          subst e
          exact (Fr.rf _ _)
    · have ⟨_, hc2, h⟩ := b_some h
      have qhc2 := f12_blowsBy hc2
      rcases g_if h with ⟨hq, h⟩ | ⟨hq, h⟩
      · exact Fr.trans (Fr.trans (Fr.rf _ _) (Fr.mono qhc2 (fun c hw => by unfold Wm12_blowsBy at hw; unfold Wm12_rota; omega))) (ih _ _ _ _ h)
      · rcases g_if h with ⟨hq, h⟩ | ⟨hq, h⟩
        · exact Fr.trans (Fr.trans (Fr.rf _ _) (Fr.mono qhc2 (fun c hw => by unfold Wm12_blowsBy at hw; unfold Wm12_rota; omega))) (ih _ _ _ _ h)
        · exact Fr.trans (Fr.trans (Fr.rf _ _) (Fr.mono qhc2 (fun c hw => by unfold Wm12_blowsBy at hw; unfold Wm12_rota; omega))) (ih _ _ _ _ h)
set_option maxHeartbeats 1000000 in
theorem f12_rota {F : Nat} {i1 : Int32} {i2 : Int32} {σ : Mem} {r : Int32 × Mem} (h : m12_rota F i1 i2 σ = some r) : Fr (Wm12_rota) σ r.2 := by
  unfold m12_rota at h
  have ⟨_, hc1, h⟩ := b_some h
  rcases g_if h with ⟨hq, h⟩ | ⟨hq, h⟩
  · have e := Option.some.inj h
    subst e
    exact (Fr.rf _ _)
  · have ⟨_, hc2, h⟩ := b_some h
    rcases g_if h with ⟨hq, h⟩ | ⟨hq, h⟩
    · have e := Option.some.inj h
      subst e
      exact (Fr.rf _ _)
    · have ⟨_, hc3, h⟩ := b_some h
      rcases g_if h with ⟨hq, h⟩ | ⟨hq, h⟩
      · have e := Option.some.inj h
        subst e
        exact (Fr.rf _ _)
      · exact Fr.trans (Fr.rf _ _) (f12_rota_41 (F := F) F _ _ _ _ h)
def Wm12_heatsThen (c : Nat) : Prop := c = 483 ∨ (491 ≤ c ∧ c ≤ 496)
set_option maxHeartbeats 1000000 in
theorem f12_heatsThen_58 {F : Nat} {i1 : Int32} {r : Int32 × Mem} : ∀ (n : Nat) (x3 : Int32) (x4 : Int32) (σ : Mem), m12_heatsThen_58 F i1 n x3 x4 σ = some r → Fr (Wm12_heatsThen) σ r.2 := by
  intro n
  induction n with
  | zero => intro x3 x4 σ h; unfold m12_heatsThen_58 at h; cases h
  | succ n ih =>
    intro x3 x4 σ h
    unfold m12_heatsThen_58 at h
    rcases g_if h with ⟨hq, h⟩ | ⟨hq, h⟩
    · have e := Option.some.inj h
      subst e
      exact (Fr.rf _ _)
    · have ⟨_, hc1, h⟩ := b_some h
      exact Fr.trans (Fr.rf _ _) (ih _ _ _ h)
set_option maxHeartbeats 1000000 in
theorem f12_heatsThen_4 {F : Nat} {i1 : Int32} {r : Int32 × Mem} : ∀ (n : Nat) (x2 : Int32) (x3 : Int32) (σ : Mem), m12_heatsThen_4 F i1 n x2 x3 σ = some r → Fr (Wm12_heatsThen) σ r.2 := by
  intro n
  induction n with
  | zero => intro x2 x3 σ h; unfold m12_heatsThen_4 at h; cases h
  | succ n ih =>
    intro x2 x3 σ h
    unfold m12_heatsThen_4 at h
    have ⟨hg, h⟩ := g_gd h
    have hb := inB_lt hg
    rcases g_if h with ⟨hq, h⟩ | ⟨hq, h⟩
    · have ⟨_, hc1, h⟩ := b_some h
      have qhc1 := f12_passes hc1
      have ⟨hg, h⟩ := g_gd h
      have hb := inB_lt hg
      exact Fr.trans (Fr.trans (Fr.rf _ _) (Fr.mono qhc1 (fun c hw => by unfold Wm12_passes at hw; unfold Wm12_heatsThen; omega))) (f12_heatsThen_58 (F := F) F _ _ _ h)
    · have ⟨hg, h⟩ := g_gd h
      have hb := inB_lt hg
      exact Fr.trans (Fr.sI (Fr.rf _ _) (by unfold Wm12_heatsThen; omega)) (ih _ _ _ h)
set_option maxHeartbeats 1000000 in
theorem f12_heatsThen {F : Nat} {i1 : Int32} {σ : Mem} {r : Int32 × Mem} (h : m12_heatsThen F i1 σ = some r) : Fr (Wm12_heatsThen) σ r.2 := by
  unfold m12_heatsThen at h
  exact Fr.trans (Fr.rf _ _) (f12_heatsThen_4 (F := F) F _ _ _ h)
def Wm12_roundNow (c : Nat) : Prop := c = 483 ∨ (491 ≤ c ∧ c ≤ 496) ∨ c = 499
set_option maxHeartbeats 1000000 in
theorem f12_roundNow_106 {F : Nat} {r : Int32 × Mem} {k88 : Int32 → Int32 → Int32 → Mem → Option (Int32 × Mem)} (hk88 : ∀ (x1 : Int32) (x2 : Int32) (x3 : Int32) (σ : Mem), k88 x1 x2 x3 σ = some r → Fr (Wm12_roundNow) σ r.2) : ∀ (n : Nat) (x1 : Int32) (x2 : Int32) (x3 : Int32) (x4 : Int32) (σ : Mem), m12_roundNow_106 F k88 n x1 x2 x3 x4 σ = some r → Fr (Wm12_roundNow) σ r.2 := by
  intro n
  induction n with
  | zero => intro x1 x2 x3 x4 σ h; unfold m12_roundNow_106 at h; cases h
  | succ n ih =>
    intro x1 x2 x3 x4 σ h
    unfold m12_roundNow_106 at h
    have ⟨hg, h⟩ := g_gd h
    have hb := inB_lt hg
    rcases g_if h with ⟨hq, h⟩ | ⟨hq, h⟩
    · exact Fr.trans (Fr.rf _ _) (hk88 _ _ _ _ h)
    · have ⟨hg, h⟩ := g_gd h
      have hb := inB_lt hg
      have ⟨hg, h⟩ := g_gd h
      have hb := inB_lt hg
      have ⟨hg, h⟩ := g_gd h
      have hb := inB_lt hg
      exact Fr.trans (Fr.sI (Fr.rf _ _) (by unfold Wm12_roundNow; omega)) (ih _ _ _ _ _ h)
set_option maxHeartbeats 1000000 in
theorem f12_roundNow_97 {F : Nat} {r : Int32 × Mem} {k88 : Int32 → Int32 → Int32 → Mem → Option (Int32 × Mem)} (hk88 : ∀ (x1 : Int32) (x2 : Int32) (x3 : Int32) (σ : Mem), k88 x1 x2 x3 σ = some r → Fr (Wm12_roundNow) σ r.2) : ∀ (x1 : Int32) (x2 : Int32) (x3 : Int32) (σ : Mem), m12_roundNow_97 F k88 x1 x2 x3 σ = some r → Fr (Wm12_roundNow) σ r.2 := by
  intro x1 x2 x3 σ h
  unfold m12_roundNow_97 at h
  have ⟨_, hc1, h⟩ := b_some h
  have qhc1 := f12_heatsThen hc1
  exact Fr.trans (Fr.trans (Fr.rf _ _) (Fr.mono qhc1 (fun c hw => by unfold Wm12_heatsThen at hw; unfold Wm12_roundNow; omega))) (f12_roundNow_106 (F := F) (fun _ _ _ _ h => (hk88 _ _ _ _ h)) F _ _ _ _ _ h)
set_option maxHeartbeats 1000000 in
theorem f12_roundNow_88 {F : Nat} {r : Int32 × Mem} : ∀ (n : Nat) (x1 : Int32) (x2 : Int32) (x3 : Int32) (σ : Mem), m12_roundNow_88 F n x1 x2 x3 σ = some r → Fr (Wm12_roundNow) σ r.2 := by
  intro n
  induction n with
  | zero => intro x1 x2 x3 σ h; unfold m12_roundNow_88 at h; cases h
  | succ n ih =>
    intro x1 x2 x3 σ h
    unfold m12_roundNow_88 at h
    rcases g_if h with ⟨hq, h⟩ | ⟨hq, h⟩
    · exact Fr.trans (Fr.rf _ _) (f12_roundNow_97 (F := F) (fun _ _ _ _ h => (ih _ _ _ _ h)) _ _ _ _ h)
    · rcases g_if h with ⟨hq, h⟩ | ⟨hq, h⟩
      · have e := Option.some.inj h
        subst e
        exact (Fr.rf _ _)
      · exact Fr.trans (Fr.rf _ _) (f12_roundNow_97 (F := F) (fun _ _ _ _ h => (ih _ _ _ _ h)) _ _ _ _ h)
set_option maxHeartbeats 1000000 in
theorem f12_roundNow_68 {F : Nat} {r : Int32 × Mem} : ∀ (n : Nat) (x1 : Int32) (x2 : Int32) (x3 : Int32) (x4 : Int32) (σ : Mem), m12_roundNow_68 F n x1 x2 x3 x4 σ = some r → Fr (Wm12_roundNow) σ r.2 := by
  intro n
  induction n with
  | zero => intro x1 x2 x3 x4 σ h; unfold m12_roundNow_68 at h; cases h
  | succ n ih =>
    intro x1 x2 x3 x4 σ h
    unfold m12_roundNow_68 at h
    rcases g_if h with ⟨hq, h⟩ | ⟨hq, h⟩
    · exact Fr.trans (Fr.rf _ _) (f12_roundNow_88 (F := F) F _ _ _ _ h)
    · have ⟨hg, h⟩ := g_gd h
      have hb := inB_lt hg
      exact Fr.trans (Fr.sI (Fr.rf _ _) (by unfold Wm12_roundNow; omega)) (ih _ _ _ _ _ h)
set_option maxHeartbeats 1000000 in
theorem f12_roundNow_39 {F : Nat} {r : Int32 × Mem} : ∀ (n : Nat) (x1 : Int32) (x2 : Int32) (σ : Mem), m12_roundNow_39 F n x1 x2 σ = some r → Fr (Wm12_roundNow) σ r.2 := by
  intro n
  induction n with
  | zero => intro x1 x2 σ h; unfold m12_roundNow_39 at h; cases h
  | succ n ih =>
    intro x1 x2 σ h
    unfold m12_roundNow_39 at h
    rcases g_if h with ⟨hq, h⟩ | ⟨hq, h⟩
    · exact Fr.trans (Fr.rf _ _) (f12_roundNow_68 (F := F) F _ _ _ _ _ h)
    · have ⟨_, hc1, h⟩ := b_some h
      have qhc1 := f12_heatsThen hc1
      have ⟨_, hc2, h⟩ := b_some h
      have qhc2 := f12_heatsThen hc2
      have ⟨_, hc3, h⟩ := b_some h
      have qhc3 := f12_heatsThen hc3
      exact Fr.trans (Fr.trans (Fr.trans (Fr.trans (Fr.rf _ _) (Fr.mono qhc1 (fun c hw => by unfold Wm12_heatsThen at hw; unfold Wm12_roundNow; omega))) (Fr.mono qhc2 (fun c hw => by unfold Wm12_heatsThen at hw; unfold Wm12_roundNow; omega))) (Fr.mono qhc3 (fun c hw => by unfold Wm12_heatsThen at hw; unfold Wm12_roundNow; omega))) (ih _ _ _ h)
set_option maxHeartbeats 1000000 in
theorem f12_roundNow_11 {F : Nat} {r : Int32 × Mem} : ∀ (n : Nat) (x1 : Int32) (x2 : Int32) (σ : Mem), m12_roundNow_11 F n x1 x2 σ = some r → Fr (Wm12_roundNow) σ r.2 := by
  intro n
  induction n with
  | zero => intro x1 x2 σ h; unfold m12_roundNow_11 at h; cases h
  | succ n ih =>
    intro x1 x2 σ h
    unfold m12_roundNow_11 at h
    rcases g_if h with ⟨hq, h⟩ | ⟨hq, h⟩
    · have ⟨_, hc1, h⟩ := b_some h
      have qhc1 := f12_heatsThen hc1
      exact Fr.trans (Fr.trans (Fr.rf _ _) (Fr.mono qhc1 (fun c hw => by unfold Wm12_heatsThen at hw; unfold Wm12_roundNow; omega))) (f12_roundNow_39 (F := F) F _ _ _ h)
    · have ⟨_, hc1, h⟩ := b_some h
      exact Fr.trans (Fr.rf _ _) (ih _ _ _ h)
set_option maxHeartbeats 1000000 in
theorem f12_roundNow {F : Nat} {σ : Mem} {r : Int32 × Mem} (h : m12_roundNow F  σ = some r) : Fr (Wm12_roundNow) σ r.2 := by
  unfold m12_roundNow at h
  have ⟨hg, h⟩ := g_gd h
  have hb := inB_lt hg
  exact Fr.trans (Fr.rf _ _) (f12_roundNow_11 (F := F) F _ _ _ h)
def Wm12_round (c : Nat) : Prop := c = 483 ∨ (491 ≤ c ∧ c ≤ 496) ∨ (498 ≤ c ∧ c ≤ 499)
set_option maxHeartbeats 1000000 in
theorem f12_round {F : Nat} {i1 : Int32} {σ : Mem} {r : Int32 × Mem} (h : m12_round F i1 σ = some r) : Fr (Wm12_round) σ r.2 := by
  unfold m12_round at h
  have ⟨_, hc1, h⟩ := b_some h
  rcases g_if h with ⟨hq, h⟩ | ⟨hq, h⟩
  · have e := Option.some.inj h
    subst e
    exact (Fr.rf _ _)
  · have ⟨_, hc2, h⟩ := b_some h
    rcases g_if h with ⟨hq, h⟩ | ⟨hq, h⟩
    · have e := Option.some.inj h
      subst e
      exact (Fr.rf _ _)
    · have ⟨_, hc3, h⟩ := b_some h
      have qhc3 := f12_keeps hc3
      have ⟨_, hc4, h⟩ := b_some h
      have qhc4 := f12_roundNow hc4
      have ⟨_, hc5, h⟩ := b_some h
      have qhc5 := f12_laysBack hc5
      rcases g_if h with ⟨hq, h⟩ | ⟨hq, h⟩
      · have e := Option.some.inj h
        subst e
        exact (Fr.trans (Fr.sI (Fr.trans (Fr.sI (Fr.trans (Fr.rf _ _) (Fr.mono qhc3 (fun c hw => by unfold Wm12_keeps at hw; unfold Wm12_round; omega))) (by unfold Wm12_round; omega)) (Fr.mono qhc4 (fun c hw => by unfold Wm12_roundNow at hw; unfold Wm12_round; omega))) (by unfold Wm12_round; omega)) (Fr.mono qhc5 (fun c hw => by unfold Wm12_laysBack at hw; unfold Wm12_round; omega)))
      · have ⟨hg, h⟩ := g_gd h
        have hb := inB_lt hg
        rcases g_if h with ⟨hq, h⟩ | ⟨hq, h⟩
        · have ⟨hg, h⟩ := g_gd h
          have hb := inB_lt hg
          have e := Option.some.inj h
          subst e
          exact (Fr.trans (Fr.sI (Fr.trans (Fr.sI (Fr.trans (Fr.rf _ _) (Fr.mono qhc3 (fun c hw => by unfold Wm12_keeps at hw; unfold Wm12_round; omega))) (by unfold Wm12_round; omega)) (Fr.mono qhc4 (fun c hw => by unfold Wm12_roundNow at hw; unfold Wm12_round; omega))) (by unfold Wm12_round; omega)) (Fr.mono qhc5 (fun c hw => by unfold Wm12_laysBack at hw; unfold Wm12_round; omega)))
        · have e := Option.some.inj h
          subst e
          exact (Fr.trans (Fr.sI (Fr.trans (Fr.sI (Fr.trans (Fr.rf _ _) (Fr.mono qhc3 (fun c hw => by unfold Wm12_keeps at hw; unfold Wm12_round; omega))) (by unfold Wm12_round; omega)) (Fr.mono qhc4 (fun c hw => by unfold Wm12_roundNow at hw; unfold Wm12_round; omega))) (by unfold Wm12_round; omega)) (Fr.mono qhc5 (fun c hw => by unfold Wm12_laysBack at hw; unfold Wm12_round; omega)))
def Wm12_countsBeside (c : Nat) : Prop := c = 483 ∨ c = 500
set_option maxHeartbeats 1000000 in
theorem f12_countsBeside_140 {F : Nat} {i1 : Int32} {r : Mem} : ∀ (n : Nat) (x5 : Int32) (σ : Mem), m12_countsBeside_140 F i1 n x5 σ = some r → Fr (Wm12_countsBeside) σ r := by
  intro n
  induction n with
  | zero => intro x5 σ h; unfold m12_countsBeside_140 at h; cases h
  | succ n ih =>
    intro x5 σ h
    unfold m12_countsBeside_140 at h
    have ⟨hg, h⟩ := g_gd h
    have hb := inB_lt hg
    rcases g_if h with ⟨hq, h⟩ | ⟨hq, h⟩
    · have e := Option.some.inj h
      subst e
      exact (Fr.rf _ _)
    · have ⟨_, hc1, h⟩ := b_some h
      have ⟨hg, h⟩ := g_gd h
      have hb := inB_lt hg
      exact Fr.trans (Fr.sI (Fr.rf _ _) (by unfold Wm12_countsBeside; omega)) (ih _ _ h)
set_option maxHeartbeats 1000000 in
theorem f12_countsBeside_126 {F : Nat} {i1 : Int32} {r : Mem} : ∀ (x3 : Int32) (x4 : Int32) (σ : Mem), m12_countsBeside_126 F i1 x3 x4 σ = some r → Fr (Wm12_countsBeside) σ r := by
  intro x3 x4 σ h
  unfold m12_countsBeside_126 at h
  exact Fr.trans (Fr.sI (Fr.sI (Fr.rf _ _) (by unfold Wm12_countsBeside; omega)) (by unfold Wm12_countsBeside; omega)) (f12_countsBeside_140 (F := F) F _ _ h)
set_option maxHeartbeats 1000000 in
theorem f12_countsBeside_10 {F : Nat} {i1 : Int32} {r : Mem} : ∀ (n : Nat) (x2 : Int32) (x3 : Int32) (x4 : Int32) (x5 : Int32) (σ : Mem), m12_countsBeside_10 F i1 n x2 x3 x4 x5 σ = some r → Fr (Wm12_countsBeside) σ r := by
  intro n
  induction n with
  | zero => intro x2 x3 x4 x5 σ h; unfold m12_countsBeside_10 at h; cases h
  | succ n ih =>
    intro x2 x3 x4 x5 σ h
    unfold m12_countsBeside_10 at h
    have ⟨hg, h⟩ := g_gd h
    have hb := inB_lt hg
    rcases g_if h with ⟨hq, h⟩ | ⟨hq, h⟩
    · rcases g_if h with ⟨hq, h⟩ | ⟨hq, h⟩
      · have e := Option.some.inj h
        subst e
        exact (Fr.rf _ _)
      · rcases g_if h with ⟨hq, h⟩ | ⟨hq, h⟩
        · rcases g_if h with ⟨hq, h⟩ | ⟨hq, h⟩
          · exact Fr.trans (Fr.rf _ _) (f12_countsBeside_126 (F := F) _ _ _ h)
          · have e := Option.some.inj h
            subst e
            exact (Fr.rf _ _)
        · exact Fr.trans (Fr.rf _ _) (f12_countsBeside_126 (F := F) _ _ _ h)
    · have ⟨_, hc1, h⟩ := b_some h
      rcases g_if h with ⟨hq, h⟩ | ⟨hq, h⟩
      · have ⟨_, hc2, h⟩ := b_some h
        rcases g_if h with ⟨hq, h⟩ | ⟨hq, h⟩
        · have e := Option.some.inj h
          subst e
          exact (Fr.rf _ _)
        · have ⟨_, hc3, h⟩ := b_some h
          rcases g_if h with ⟨hq, h⟩ | ⟨hq, h⟩
          · have e := Option.some.inj h
            subst e
            exact (Fr.rf _ _)
          · have ⟨_, hc4, h⟩ := b_some h
            rcases g_if h with ⟨hq, h⟩ | ⟨hq, h⟩
            · have ⟨_, hc5, h⟩ := b_some h
              have ⟨_, hc6, h⟩ := b_some h
              exact Fr.trans (Fr.rf _ _) (ih _ _ _ _ _ h)
            · have e := Option.some.inj h
              subst e
              exact (Fr.rf _ _)
      · exact Fr.trans (Fr.rf _ _) (ih _ _ _ _ _ h)
set_option maxHeartbeats 1000000 in
theorem f12_countsBeside {F : Nat} {i1 : Int32} {σ : Mem} {r : Mem} (h : m12_countsBeside F i1 σ = some r) : Fr (Wm12_countsBeside) σ r := by
  unfold m12_countsBeside at h
  exact Fr.trans (Fr.rf _ _) (f12_countsBeside_10 (F := F) F _ _ _ _ _ h)
def Wm12_beside (c : Nat) : Prop := c = 483 ∨ c = 500
set_option maxHeartbeats 1000000 in
theorem f12_beside_54 {F : Nat} {i1 : Int32} {r : Int32 × Mem} : ∀ (n : Nat) (x2 : Int32) (σ : Mem), m12_beside_54 F i1 n x2 σ = some r → Fr (Wm12_beside) σ r.2 := by
  intro n
  induction n with
  | zero => intro x2 σ h; unfold m12_beside_54 at h; cases h
  | succ n ih =>
    intro x2 σ h
    unfold m12_beside_54 at h
    have ⟨hg, h⟩ := g_gd h
    have hb := inB_lt hg
    have ⟨_, hc1, h⟩ := b_some h
    rcases g_if h with ⟨hq, h⟩ | ⟨hq, h⟩
    · rcases g_if h with ⟨hq, h⟩ | ⟨hq, h⟩
      · have ⟨hg, h⟩ := g_gd h
        have hb := inB_lt hg
        rcases g_if h with ⟨hq, h⟩ | ⟨hq, h⟩
        · have e := Option.some.inj h
          subst e
          exact (Fr.rf _ _)
        · have ⟨hg, h⟩ := g_gd h
          have hb := inB_lt hg
          have e := Option.some.inj h
          subst e
          exact (Fr.rf _ _)
      · rcases g_if h with ⟨hq, h⟩ | ⟨hq, h⟩
        · have e := Option.some.inj h
          subst e
          exact (Fr.rf _ _)
        · have e := Option.some.inj h
          subst e
          exact (Fr.rf _ _)
    · have ⟨_, hc2, h⟩ := b_some h
      have qhc2 := f12_countsBeside hc2
      exact Fr.trans (Fr.trans (Fr.rf _ _) (Fr.mono qhc2 (fun c hw => by unfold Wm12_countsBeside at hw; unfold Wm12_beside; omega))) (ih _ _ h)
set_option maxHeartbeats 1000000 in
theorem f12_beside_34 {F : Nat} {i1 : Int32} {r : Int32 × Mem} : ∀ (n : Nat) (x2 : Int32) (σ : Mem), m12_beside_34 F i1 n x2 σ = some r → Fr (Wm12_beside) σ r.2 := by
  intro n
  induction n with
  | zero => intro x2 σ h; unfold m12_beside_34 at h; cases h
  | succ n ih =>
    intro x2 σ h
    unfold m12_beside_34 at h
    rcases g_if h with ⟨hq, h⟩ | ⟨hq, h⟩
    · exact Fr.trans (Fr.rf _ _) (f12_beside_54 (F := F) F _ _ h)
    · have ⟨hg, h⟩ := g_gd h
      have hb := inB_lt hg
      exact Fr.trans (Fr.sI (Fr.rf _ _) (by unfold Wm12_beside; omega)) (ih _ _ h)
set_option maxHeartbeats 1000000 in
theorem f12_beside {F : Nat} {i1 : Int32} {σ : Mem} {r : Int32 × Mem} (h : m12_beside F i1 σ = some r) : Fr (Wm12_beside) σ r.2 := by
  unfold m12_beside at h
  have ⟨_, hc1, h⟩ := b_some h
  rcases g_if h with ⟨hq, h⟩ | ⟨hq, h⟩
  · have e := Option.some.inj h
    subst e
    exact (Fr.rf _ _)
  · have ⟨_, hc2, h⟩ := b_some h
    rcases g_if h with ⟨hq, h⟩ | ⟨hq, h⟩
    · have e := Option.some.inj h
      subst e
      exact (Fr.rf _ _)
    · exact Fr.trans (Fr.sI (Fr.sI (Fr.rf _ _) (by unfold Wm12_beside; omega)) (by unfold Wm12_beside; omega)) (f12_beside_34 (F := F) F _ _ h)
def Wm12_othersBlows (c : Nat) : Prop := c = 483 ∨ (491 ≤ c ∧ c ≤ 496) ∨ c = 498
set_option maxHeartbeats 1000000 in
theorem f12_othersBlows_23 {F : Nat} {i1 : Int32} {i2 : Int32} {r : Int32 × Mem} {k9 : Int32 → Int32 → Mem → Option (Int32 × Mem)} (hk9 : ∀ (x3 : Int32) (x4 : Int32) (σ : Mem), k9 x3 x4 σ = some r → Fr (Wm12_othersBlows) σ r.2) : ∀ (n : Nat) (x3 : Int32) (x4 : Int32) (x5 : Int32) (σ : Mem), m12_othersBlows_23 F i1 i2 k9 n x3 x4 x5 σ = some r → Fr (Wm12_othersBlows) σ r.2 := by
  intro n
  induction n with
  | zero => intro x3 x4 x5 σ h; unfold m12_othersBlows_23 at h; cases h
  | succ n ih =>
    intro x3 x4 x5 σ h
    unfold m12_othersBlows_23 at h
    have ⟨hg, h⟩ := g_gd h
    have hb := inB_lt hg
    rcases g_if h with ⟨hq, h⟩ | ⟨hq, h⟩
    · exact Fr.trans (Fr.rf _ _) (hk9 _ _ _ h)
    · rcases g_if h with ⟨hq, h⟩ | ⟨hq, h⟩
      · exact Fr.trans (Fr.rf _ _) (ih _ _ _ _ h)
      · have ⟨hg, h⟩ := g_gd h
        have hb := inB_lt hg
        exact Fr.trans (Fr.rf _ _) (ih _ _ _ _ h)
set_option maxHeartbeats 1000000 in
theorem f12_othersBlows_9 {F : Nat} {i1 : Int32} {i2 : Int32} {r : Int32 × Mem} : ∀ (n : Nat) (x3 : Int32) (x4 : Int32) (σ : Mem), m12_othersBlows_9 F i1 i2 n x3 x4 σ = some r → Fr (Wm12_othersBlows) σ r.2 := by
  intro n
  induction n with
  | zero => intro x3 x4 σ h; unfold m12_othersBlows_9 at h; cases h
  | succ n ih =>
    intro x3 x4 σ h
    unfold m12_othersBlows_9 at h
    rcases g_if h with ⟨hq, h⟩ | ⟨hq, h⟩
    · have ⟨_, hc1, h⟩ := b_some h
      have qhc1 := f12_laysBack hc1
      have e := Option.some.inj h
      subst e
      exact (Fr.trans (Fr.rf _ _) (Fr.mono qhc1 (fun c hw => by unfold Wm12_laysBack at hw; unfold Wm12_othersBlows; omega)))
    · have ⟨_, hc1, h⟩ := b_some h
      have qhc1 := f12_passes hc1
      exact Fr.trans (Fr.trans (Fr.rf _ _) (Fr.mono qhc1 (fun c hw => by unfold Wm12_passes at hw; unfold Wm12_othersBlows; omega))) (f12_othersBlows_23 (F := F) (fun _ _ _ h => (ih _ _ _ h)) F _ _ _ _ h)
set_option maxHeartbeats 1000000 in
theorem f12_othersBlows {F : Nat} {i1 : Int32} {i2 : Int32} {σ : Mem} {r : Int32 × Mem} (h : m12_othersBlows F i1 i2 σ = some r) : Fr (Wm12_othersBlows) σ r.2 := by
  unfold m12_othersBlows at h
  have ⟨_, hc1, h⟩ := b_some h
  have qhc1 := f12_keeps hc1
  exact Fr.trans (Fr.trans (Fr.rf _ _) (Fr.mono qhc1 (fun c hw => by unfold Wm12_keeps at hw; unfold Wm12_othersBlows; omega))) (f12_othersBlows_9 (F := F) F _ _ _ h)
def Wm12_worth (c : Nat) : Prop := c = 483 ∨ (491 ≤ c ∧ c ≤ 496) ∨ c = 498
set_option maxHeartbeats 1000000 in
theorem f12_worth {F : Nat} {i1 : Int32} {i2 : Int32} {σ : Mem} {r : Int32 × Mem} (h : m12_worth F i1 i2 σ = some r) : Fr (Wm12_worth) σ r.2 := by
  unfold m12_worth at h
  have ⟨_, hc1, h⟩ := b_some h
  rcases g_if h with ⟨hq, h⟩ | ⟨hq, h⟩
  · have e := Option.some.inj h
    subst e
    exact (Fr.rf _ _)
  · have ⟨_, hc2, h⟩ := b_some h
    rcases g_if h with ⟨hq, h⟩ | ⟨hq, h⟩
    · have e := Option.some.inj h
      subst e
      exact (Fr.rf _ _)
    · have ⟨_, hc3, h⟩ := b_some h
      have qhc3 := f12_othersBlows hc3
      have ⟨_, hc4, h⟩ := b_some h
      have qhc4 := f12_othersBlows hc4
      have e := Option.some.inj h
      subst e
      exact (Fr.sI (Fr.trans (Fr.sI (Fr.trans (Fr.rf _ _) (Fr.mono qhc3 (fun c hw => by unfold Wm12_othersBlows at hw; unfold Wm12_worth; omega))) (by unfold Wm12_worth; omega)) (Fr.mono qhc4 (fun c hw => by unfold Wm12_othersBlows at hw; unfold Wm12_worth; omega))) (by unfold Wm12_worth; omega))
def Wm12_splits (c : Nat) : Prop := c = 483 ∨ (491 ≤ c ∧ c ≤ 496) ∨ c = 498
set_option maxHeartbeats 1000000 in
theorem f12_splits_127 {F : Nat} {i1 : Int32} {i2 : Int32} {r : Int32 × Mem} : ∀ (x3 : Int32) (x4 : Int32) (σ : Mem), m12_splits_127 F i1 i2 x3 x4 σ = some r → Fr (Wm12_splits) σ r.2 := by
  intro x3 x4 σ h
  unfold m12_splits_127 at h
  have ⟨_, hc1, h⟩ := b_some h
  have qhc1 := f12_laysBack hc1
  rcases g_if h with ⟨hq, h⟩ | ⟨hq, h⟩
  · have e := Option.some.inj h
    subst e
    exact (Fr.trans (Fr.rf _ _) (Fr.mono qhc1 (fun c hw => by unfold Wm12_laysBack at hw; unfold Wm12_splits; omega)))
  · have e := Option.some.inj h
    subst e
    exact (Fr.trans (Fr.rf _ _) (Fr.mono qhc1 (fun c hw => by unfold Wm12_laysBack at hw; unfold Wm12_splits; omega)))
set_option maxHeartbeats 1000000 in
theorem f12_splits_66 {F : Nat} {i1 : Int32} {i2 : Int32} {r : Int32 × Mem} : ∀ (n : Nat) (x3 : Int32) (x4 : Int32) (x5 : Int32) (σ : Mem), m12_splits_66 F i1 i2 n x3 x4 x5 σ = some r → Fr (Wm12_splits) σ r.2 := by
  intro n
  induction n with
  | zero => intro x3 x4 x5 σ h; unfold m12_splits_66 at h; cases h
  | succ n ih =>
    intro x3 x4 x5 σ h
    unfold m12_splits_66 at h
    rcases g_if h with ⟨hq, h⟩ | ⟨hq, h⟩
    · exact Fr.trans (Fr.rf _ _) (f12_splits_127 (F := F) _ _ _ h)
    · rcases g_if h with ⟨hq, h⟩ | ⟨hq, h⟩
      · exact Fr.trans (Fr.rf _ _) (f12_splits_127 (F := F) _ _ _ h)
      · have ⟨_, hc1, h⟩ := b_some h
        have qhc1 := f12_passes hc1
        have ⟨hg, h⟩ := g_gd h
        have hb := inB_lt hg
        have ⟨hg, h⟩ := g_gd h
        have hb := inB_lt hg
        rcases g_if h with ⟨hq, h⟩ | ⟨hq, h⟩
        · have ⟨hg, h⟩ := g_gd h
          have hb := inB_lt hg
          have ⟨hg, h⟩ := g_gd h
          have hb := inB_lt hg
          exact Fr.trans (Fr.trans (Fr.rf _ _) (Fr.mono qhc1 (fun c hw => by unfold Wm12_passes at hw; unfold Wm12_splits; omega))) (ih _ _ _ _ h)
        · exact Fr.trans (Fr.trans (Fr.rf _ _) (Fr.mono qhc1 (fun c hw => by unfold Wm12_passes at hw; unfold Wm12_splits; omega))) (ih _ _ _ _ h)
set_option maxHeartbeats 1000000 in
theorem f12_splits {F : Nat} {i1 : Int32} {i2 : Int32} {σ : Mem} {r : Int32 × Mem} (h : m12_splits F i1 i2 σ = some r) : Fr (Wm12_splits) σ r.2 := by
  unfold m12_splits at h
  have ⟨_, hc1, h⟩ := b_some h
  rcases g_if h with ⟨hq, h⟩ | ⟨hq, h⟩
  · have e := Option.some.inj h
    subst e
    exact (Fr.rf _ _)
  · have ⟨_, hc2, h⟩ := b_some h
    rcases g_if h with ⟨hq, h⟩ | ⟨hq, h⟩
    · have e := Option.some.inj h
      subst e
      exact (Fr.rf _ _)
    · have ⟨_, hc3, h⟩ := b_some h
      rcases g_if h with ⟨hq, h⟩ | ⟨hq, h⟩
      · have e := Option.some.inj h
        subst e
        exact (Fr.rf _ _)
      · have ⟨hg, h⟩ := g_gd h
        have hb := inB_lt hg
        have ⟨hg, h⟩ := g_gd h
        have hb := inB_lt hg
        rcases g_if h with ⟨hq, h⟩ | ⟨hq, h⟩
        · have ⟨_, hc4, h⟩ := b_some h
          have qhc4 := f12_keeps hc4
          exact Fr.trans (Fr.trans (Fr.rf _ _) (Fr.mono qhc4 (fun c hw => by unfold Wm12_keeps at hw; unfold Wm12_splits; omega))) (f12_splits_66 (F := F) F _ _ _ _ h)
        · have e := Option.some.inj h
          subst e
          exact (Fr.rf _ _)
def Wm12_laysOrder (c : Nat) : Prop := c = 502
set_option maxHeartbeats 1000000 in
theorem f12_laysOrder_59 {F : Nat} {i1 : Int32} {i2 : Int32} {r : Mem} {k45 : Int32 → Int32 → Int32 → Int32 → Int32 → Mem → Option (Mem)} (hk45 : ∀ (x3 : Int32) (x4 : Int32) (x5 : Int32) (x6 : Int32) (x7 : Int32) (σ : Mem), k45 x3 x4 x5 x6 x7 σ = some r → Fr (Wm12_laysOrder) σ r) : ∀ (x3 : Int32) (x4 : Int32) (x5 : Int32) (x6 : Int32) (x7 : Int32) (σ : Mem), m12_laysOrder_59 F i1 i2 k45 x3 x4 x5 x6 x7 σ = some r → Fr (Wm12_laysOrder) σ r := by
  intro x3 x4 x5 x6 x7 σ h
  unfold m12_laysOrder_59 at h
  have ⟨_, hc1, h⟩ := b_some h
  rcases g_if h with ⟨hq, h⟩ | ⟨hq, h⟩
  · exact Fr.trans (Fr.rf _ _) (hk45 _ _ _ _ _ _ h)
  · exact Fr.trans (Fr.rf _ _) (hk45 _ _ _ _ _ _ h)
set_option maxHeartbeats 1000000 in
theorem f12_laysOrder_45 {F : Nat} {i1 : Int32} {i2 : Int32} {r : Mem} {k8 : Int32 → Int32 → Int32 → Mem → Option (Mem)} (hk8 : ∀ (x3 : Int32) (x4 : Int32) (x5 : Int32) (σ : Mem), k8 x3 x4 x5 σ = some r → Fr (Wm12_laysOrder) σ r) : ∀ (n : Nat) (x3 : Int32) (x4 : Int32) (x5 : Int32) (x6 : Int32) (x7 : Int32) (σ : Mem), m12_laysOrder_45 F i1 i2 k8 n x3 x4 x5 x6 x7 σ = some r → Fr (Wm12_laysOrder) σ r := by
  intro n
  induction n with
  | zero => intro x3 x4 x5 x6 x7 σ h; unfold m12_laysOrder_45 at h; cases h
  | succ n ih =>
    intro x3 x4 x5 x6 x7 σ h
    unfold m12_laysOrder_45 at h
    have ⟨_, hc1, h⟩ := b_some h
    rcases g_if h with ⟨hq, h⟩ | ⟨hq, h⟩
    · rcases g_if h with ⟨hq, h⟩ | ⟨hq, h⟩
      · have ⟨hg, h⟩ := g_gd h
        have hb := inB_lt hg
        have ⟨hg, h⟩ := g_gd h
        have hb := inB_lt hg
        exact Fr.trans (Fr.sI (Fr.rf _ _) (by unfold Wm12_laysOrder; omega)) (hk8 _ _ _ _ h)
      · exact Fr.trans (Fr.rf _ _) (f12_laysOrder_59 (F := F) (fun _ _ _ _ _ _ h => (ih _ _ _ _ _ _ h)) _ _ _ _ _ _ h)
    · exact Fr.trans (Fr.rf _ _) (f12_laysOrder_59 (F := F) (fun _ _ _ _ _ _ h => (ih _ _ _ _ _ _ h)) _ _ _ _ _ _ h)
set_option maxHeartbeats 1000000 in
theorem f12_laysOrder_8 {F : Nat} {i1 : Int32} {i2 : Int32} {r : Mem} : ∀ (n : Nat) (x3 : Int32) (x4 : Int32) (x5 : Int32) (σ : Mem), m12_laysOrder_8 F i1 i2 n x3 x4 x5 σ = some r → Fr (Wm12_laysOrder) σ r := by
  intro n
  induction n with
  | zero => intro x3 x4 x5 σ h; unfold m12_laysOrder_8 at h; cases h
  | succ n ih =>
    intro x3 x4 x5 σ h
    unfold m12_laysOrder_8 at h
    rcases g_if h with ⟨hq, h⟩ | ⟨hq, h⟩
    · have e := Option.some.inj h
      subst e
      exact (Fr.rf _ _)
    · have ⟨_, hc1, h⟩ := b_some h
      have ⟨hg, h⟩ := g_gd h
      have ⟨_, hc2, h⟩ := b_some h
      have ⟨hg, h⟩ := g_gd h
      exact Fr.trans (Fr.rf _ _) (f12_laysOrder_45 (F := F) (fun _ _ _ _ h => (ih _ _ _ _ h)) F _ _ _ _ _ _ h)
set_option maxHeartbeats 1000000 in
theorem f12_laysOrder {F : Nat} {i1 : Int32} {i2 : Int32} {σ : Mem} {r : Mem} (h : m12_laysOrder F i1 i2 σ = some r) : Fr (Wm12_laysOrder) σ r := by
  unfold m12_laysOrder at h
  exact Fr.trans (Fr.rf _ _) (f12_laysOrder_8 (F := F) F _ _ _ _ h)
def Wm12_momentsBy (c : Nat) : Prop := c = 483 ∨ (491 ≤ c ∧ c ≤ 496) ∨ c = 498
set_option maxHeartbeats 1000000 in
theorem f12_momentsBy_96 {F : Nat} {i1 : Int32} {i2 : Int32} {r : Int32 × Mem} : ∀ (x3 : Int32) (σ : Mem), m12_momentsBy_96 F i1 i2 x3 σ = some r → Fr (Wm12_momentsBy) σ r.2 := by
  intro x3 σ h
  unfold m12_momentsBy_96 at h
  have ⟨_, hc1, h⟩ := b_some h
  have qhc1 := f12_laysBack hc1
  have e := Option.some.inj h
  subst e
  exact (Fr.trans (Fr.rf _ _) (Fr.mono qhc1 (fun c hw => by unfold Wm12_laysBack at hw; unfold Wm12_momentsBy; omega)))
set_option maxHeartbeats 1000000 in
theorem f12_momentsBy_85 {F : Nat} {i1 : Int32} {i2 : Int32} {r : Int32 × Mem} {k62 : Int32 → Int32 → Mem → Option (Int32 × Mem)} (hk62 : ∀ (x3 : Int32) (x4 : Int32) (σ : Mem), k62 x3 x4 σ = some r → Fr (Wm12_momentsBy) σ r.2) : ∀ (x3 : Int32) (x4 : Int32) (σ : Mem), m12_momentsBy_85 F i1 i2 k62 x3 x4 σ = some r → Fr (Wm12_momentsBy) σ r.2 := by
  intro x3 x4 σ h
  unfold m12_momentsBy_85 at h
  have ⟨_, hc1, h⟩ := b_some h
  have qhc1 := f12_passes hc1
  exact Fr.trans (Fr.trans (Fr.rf _ _) (Fr.mono qhc1 (fun c hw => by unfold Wm12_passes at hw; unfold Wm12_momentsBy; omega))) (hk62 _ _ _ h)
set_option maxHeartbeats 1000000 in
theorem f12_momentsBy_62 {F : Nat} {i1 : Int32} {i2 : Int32} {r : Int32 × Mem} : ∀ (n : Nat) (x3 : Int32) (x4 : Int32) (σ : Mem), m12_momentsBy_62 F i1 i2 n x3 x4 σ = some r → Fr (Wm12_momentsBy) σ r.2 := by
  intro n
  induction n with
  | zero => intro x3 x4 σ h; unfold m12_momentsBy_62 at h; cases h
  | succ n ih =>
    intro x3 x4 σ h
    unfold m12_momentsBy_62 at h
    rcases g_if h with ⟨hq, h⟩ | ⟨hq, h⟩
    · exact Fr.trans (Fr.rf _ _) (f12_momentsBy_96 (F := F) _ _ h)
    · rcases g_if h with ⟨hq, h⟩ | ⟨hq, h⟩
      · exact Fr.trans (Fr.rf _ _) (f12_momentsBy_96 (F := F) _ _ h)
      · have ⟨_, hc1, h⟩ := b_some h
        rcases g_if h with ⟨hq, h⟩ | ⟨hq, h⟩
        · exact Fr.trans (Fr.rf _ _) (f12_momentsBy_85 (F := F) (fun _ _ _ h => (ih _ _ _ h)) _ _ _ h)
        · exact Fr.trans (Fr.rf _ _) (f12_momentsBy_85 (F := F) (fun _ _ _ h => (ih _ _ _ h)) _ _ _ h)
set_option maxHeartbeats 1000000 in
theorem f12_momentsBy_36 {F : Nat} {i1 : Int32} {i2 : Int32} {r : Int32 × Mem} : ∀ (n : Nat) (x3 : Int32) (x4 : Int32) (σ : Mem), m12_momentsBy_36 F i1 i2 n x3 x4 σ = some r → Fr (Wm12_momentsBy) σ r.2 := by
  intro n
  induction n with
  | zero => intro x3 x4 σ h; unfold m12_momentsBy_36 at h; cases h
  | succ n ih =>
    intro x3 x4 σ h
    unfold m12_momentsBy_36 at h
    rcases g_if h with ⟨hq, h⟩ | ⟨hq, h⟩
    · exact Fr.trans (Fr.rf _ _) (f12_momentsBy_62 (F := F) F _ _ _ h)
    · have ⟨hg, h⟩ := g_gd h
      have hb := inB_lt hg
      have ⟨_, hc1, h⟩ := b_some h
      have qhc1 := f12_putsBehind hc1
      exact Fr.trans (Fr.trans (Fr.rf _ _) (Fr.mono qhc1 (fun c hw => by unfold Wm12_putsBehind at hw; unfold Wm12_momentsBy; omega))) (ih _ _ _ h)
set_option maxHeartbeats 1000000 in
theorem f12_momentsBy {F : Nat} {i1 : Int32} {i2 : Int32} {σ : Mem} {r : Int32 × Mem} (h : m12_momentsBy F i1 i2 σ = some r) : Fr (Wm12_momentsBy) σ r.2 := by
  unfold m12_momentsBy at h
  have ⟨_, hc1, h⟩ := b_some h
  have qhc1 := f12_keeps hc1
  have ⟨hg, h⟩ := g_gd h
  have hb := inB_lt hg
  have ⟨_, hc2, h⟩ := b_some h
  rcases g_if h with ⟨hq, h⟩ | ⟨hq, h⟩
  · exact Fr.trans (Fr.trans (Fr.rf _ _) (Fr.mono qhc1 (fun c hw => by unfold Wm12_keeps at hw; unfold Wm12_momentsBy; omega))) (f12_momentsBy_36 (F := F) F _ _ _ h)
  · have ⟨hg, h⟩ := g_gd h
    have hb := inB_lt hg
    exact Fr.trans (Fr.sI (Fr.trans (Fr.rf _ _) (Fr.mono qhc1 (fun c hw => by unfold Wm12_keeps at hw; unfold Wm12_momentsBy; omega))) (by unfold Wm12_momentsBy; omega)) (f12_momentsBy_36 (F := F) F _ _ _ h)
def Wm12_order (c : Nat) : Prop := c = 483 ∨ (491 ≤ c ∧ c ≤ 496) ∨ c = 498 ∨ (501 ≤ c ∧ c ≤ 503)
set_option maxHeartbeats 1000000 in
theorem f12_order_153 {F : Nat} {i1 : Int32} {i2 : Int32} {r : Int32 × Mem} {k102 : Int32 → Int32 → Int32 → Mem → Option (Int32 × Mem)} (hk102 : ∀ (x3 : Int32) (x4 : Int32) (x5 : Int32) (σ : Mem), k102 x3 x4 x5 σ = some r → Fr (Wm12_order) σ r.2) : ∀ (n : Nat) (x3 : Int32) (x4 : Int32) (x5 : Int32) (x7 : Int32) (σ : Mem), m12_order_153 F i1 i2 k102 n x3 x4 x5 x7 σ = some r → Fr (Wm12_order) σ r.2 := by
  intro n
  induction n with
  | zero => intro x3 x4 x5 x7 σ h; unfold m12_order_153 at h; cases h
  | succ n ih =>
    intro x3 x4 x5 x7 σ h
    unfold m12_order_153 at h
    rcases g_if h with ⟨hq, h⟩ | ⟨hq, h⟩
    · exact Fr.trans (Fr.rf _ _) (hk102 _ _ _ _ h)
    · have ⟨hg, h⟩ := g_gd h
      have hb := inB_lt hg
      have ⟨hg, h⟩ := g_gd h
      have hb := inB_lt hg
      exact Fr.trans (Fr.sI (Fr.rf _ _) (by unfold Wm12_order; omega)) (ih _ _ _ _ _ h)
set_option maxHeartbeats 1000000 in
theorem f12_order_102 {F : Nat} {i1 : Int32} {i2 : Int32} {r : Int32 × Mem} : ∀ (n : Nat) (x3 : Int32) (x4 : Int32) (x5 : Int32) (σ : Mem), m12_order_102 F i1 i2 n x3 x4 x5 σ = some r → Fr (Wm12_order) σ r.2 := by
  intro n
  induction n with
  | zero => intro x3 x4 x5 σ h; unfold m12_order_102 at h; cases h
  | succ n ih =>
    intro x3 x4 x5 σ h
    unfold m12_order_102 at h
    have ⟨_, hc1, h⟩ := b_some h
    rcases g_if h with ⟨hq, h⟩ | ⟨hq, h⟩
    · rcases g_if h with ⟨hq, h⟩ | ⟨hq, h⟩
      · have e := Option.some.inj h
        subst e
        exact (Fr.rf _ _)
      · rcases g_if h with ⟨hq, h⟩ | ⟨hq, h⟩
        · rcases g_if h with ⟨hq, h⟩ | ⟨hq, h⟩
          · have ⟨hg, h⟩ := g_gd h
            have hb := inB_lt hg
            have e := Option.some.inj h
            subst e
            exact (Fr.rf _ _)
          · have ⟨hg, h⟩ := g_gd h
            have hb := inB_lt hg
            have e := Option.some.inj h
            subst e
            exact (Fr.rf _ _)
        · have e := Option.some.inj h
          subst e
          exact (Fr.rf _ _)
    · have ⟨_, hc2, h⟩ := b_some h
      have qhc2 := f12_laysOrder hc2
      have ⟨_, hc3, h⟩ := b_some h
      have qhc3 := f12_momentsBy hc3
      rcases g_if h with ⟨hq, h⟩ | ⟨hq, h⟩
      · exact Fr.trans (Fr.trans (Fr.trans (Fr.rf _ _) (Fr.mono qhc2 (fun c hw => by unfold Wm12_laysOrder at hw; unfold Wm12_order; omega))) (Fr.mono qhc3 (fun c hw => by unfold Wm12_momentsBy at hw; unfold Wm12_order; omega))) (ih _ _ _ _ h)
      · rcases g_if h with ⟨hq, h⟩ | ⟨hq, h⟩
        · exact Fr.trans (Fr.trans (Fr.trans (Fr.rf _ _) (Fr.mono qhc2 (fun c hw => by unfold Wm12_laysOrder at hw; unfold Wm12_order; omega))) (Fr.mono qhc3 (fun c hw => by unfold Wm12_momentsBy at hw; unfold Wm12_order; omega))) (f12_order_153 (F := F) (fun _ _ _ _ h => (ih _ _ _ _ h)) F _ _ _ _ _ h)
        · rcases g_if h with ⟨hq, h⟩ | ⟨hq, h⟩
          · exact Fr.trans (Fr.trans (Fr.trans (Fr.rf _ _) (Fr.mono qhc2 (fun c hw => by unfold Wm12_laysOrder at hw; unfold Wm12_order; omega))) (Fr.mono qhc3 (fun c hw => by unfold Wm12_momentsBy at hw; unfold Wm12_order; omega))) (f12_order_153 (F := F) (fun _ _ _ _ h => (ih _ _ _ _ h)) F _ _ _ _ _ h)
          · exact Fr.trans (Fr.trans (Fr.trans (Fr.rf _ _) (Fr.mono qhc2 (fun c hw => by unfold Wm12_laysOrder at hw; unfold Wm12_order; omega))) (Fr.mono qhc3 (fun c hw => by unfold Wm12_momentsBy at hw; unfold Wm12_order; omega))) (ih _ _ _ _ h)
set_option maxHeartbeats 1000000 in
theorem f12_order_27 {F : Nat} {i1 : Int32} {i2 : Int32} {r : Int32 × Mem} : ∀ (n : Nat) (x3 : Int32) (x4 : Int32) (σ : Mem), m12_order_27 F i1 i2 n x3 x4 σ = some r → Fr (Wm12_order) σ r.2 := by
  intro n
  induction n with
  | zero => intro x3 x4 σ h; unfold m12_order_27 at h; cases h
  | succ n ih =>
    intro x3 x4 σ h
    unfold m12_order_27 at h
    have ⟨hg, h⟩ := g_gd h
    have hb := inB_lt hg
    rcases g_if h with ⟨hq, h⟩ | ⟨hq, h⟩
    · rcases g_if h with ⟨hq, h⟩ | ⟨hq, h⟩
      · rcases g_if h with ⟨hq, h⟩ | ⟨hq, h⟩
        · rcases g_if h with ⟨hq, h⟩ | ⟨hq, h⟩
          · have ⟨hg, h⟩ := g_gd h
            have hb := inB_lt hg
            have e := Option.some.inj h
            subst e
            exact (Fr.rf _ _)
          · have e := Option.some.inj h
            subst e
            exact (Fr.rf _ _)
        · exact Fr.trans (Fr.rf _ _) (f12_order_102 (F := F) F _ _ _ _ h)
      · have e := Option.some.inj h
        subst e
        exact (Fr.rf _ _)
    · have ⟨_, hc1, h⟩ := b_some h
      rcases g_if h with ⟨hq, h⟩ | ⟨hq, h⟩
      · exact Fr.trans (Fr.rf _ _) (ih _ _ _ h)
      · have ⟨hg, h⟩ := g_gd h
        have hb := inB_lt hg
        exact Fr.trans (Fr.sI (Fr.rf _ _) (by unfold Wm12_order; omega)) (ih _ _ _ h)
set_option maxHeartbeats 1000000 in
theorem f12_order {F : Nat} {i1 : Int32} {i2 : Int32} {σ : Mem} {r : Int32 × Mem} (h : m12_order F i1 i2 σ = some r) : Fr (Wm12_order) σ r.2 := by
  unfold m12_order at h
  have ⟨_, hc1, h⟩ := b_some h
  rcases g_if h with ⟨hq, h⟩ | ⟨hq, h⟩
  · have e := Option.some.inj h
    subst e
    exact (Fr.rf _ _)
  · have ⟨_, hc2, h⟩ := b_some h
    rcases g_if h with ⟨hq, h⟩ | ⟨hq, h⟩
    · have e := Option.some.inj h
      subst e
      exact (Fr.rf _ _)
    · exact Fr.trans (Fr.rf _ _) (f12_order_27 (F := F) F _ _ _ h)
def Wm12_note (c : Nat) : Prop := c = 493
set_option maxHeartbeats 1000000 in
theorem f12_note {F : Nat} {i1 : Int32} {i2 : Int32} {i3 : Int32} {σ : Mem} {r : Int32 × Mem} (h : m12_note F i1 i2 i3 σ = some r) : Fr (Wm12_note) σ r.2 := by
  unfold m12_note at h
  rcases g_if h with ⟨hq, h⟩ | ⟨hq, h⟩
  · have ⟨hg, h⟩ := g_gd h
    have hb := inB_lt hg
    have e := Option.some.inj h
    subst e
    exact (Fr.sI (Fr.rf _ _) (by unfold Wm12_note; omega))
  · have ⟨_, hc1, h⟩ := b_some h
    rcases g_if h with ⟨hq, h⟩ | ⟨hq, h⟩
    · have e := Option.some.inj h
      subst e
      exact (Fr.rf _ _)
    · have ⟨_, hc2, h⟩ := b_some h
      rcases g_if h with ⟨hq, h⟩ | ⟨hq, h⟩
      · have e := Option.some.inj h
        subst e
        exact (Fr.rf _ _)
      · have ⟨_, hc3, h⟩ := b_some h
        rcases g_if h with ⟨hq, h⟩ | ⟨hq, h⟩
        · have e := Option.some.inj h
          subst e
          exact (Fr.rf _ _)
        · have ⟨_, hc4, h⟩ := b_some h
          rcases g_if h with ⟨hq, h⟩ | ⟨hq, h⟩
          · have e := Option.some.inj h
            subst e
            exact (Fr.rf _ _)
          · have ⟨hg, h⟩ := g_gd h
            have hb := inB_lt hg
            rcases g_if h with ⟨hq, h⟩ | ⟨hq, h⟩
            · have e := Option.some.inj h
              subst e
              exact (Fr.rf _ _)
            · have ⟨hg, h⟩ := g_gd h
              have hb := inB_lt hg
              have ⟨hg, h⟩ := g_gd h
              have hb := inB_lt hg
              have ⟨hg, h⟩ := g_gd h
              have hb := inB_lt hg
              have ⟨hg, h⟩ := g_gd h
              have hb := inB_lt hg
              have ⟨hg, h⟩ := g_gd h
              have hb := inB_lt hg
              have ⟨hg, h⟩ := g_gd h
              have hb := inB_lt hg
              have ⟨hg, h⟩ := g_gd h
              have hb := inB_lt hg
              have e := Option.some.inj h
              subst e
              exact (Fr.sI (Fr.sI (Fr.sI (Fr.sI (Fr.rf _ _) (by unfold Wm12_note; omega)) (by unfold Wm12_note; omega)) (by unfold Wm12_note; omega)) (by unfold Wm12_note; omega))
def Wm12_begins (c : Nat) : Prop := c = 493
set_option maxHeartbeats 1000000 in
theorem f12_begins_123 {F : Nat} {r : Mem} : ∀ (n : Nat) (x1 : Int32) (σ : Mem), m12_begins_123 F n x1 σ = some r → Fr (Wm12_begins) σ r := by
  intro n
  induction n with
  | zero => intro x1 σ h; unfold m12_begins_123 at h; cases h
  | succ n ih =>
    intro x1 σ h
    unfold m12_begins_123 at h
    rcases g_if h with ⟨hq, h⟩ | ⟨hq, h⟩
    · have e := Option.some.inj h
      subst e
      exact (Fr.rf _ _)
    · have ⟨hg, h⟩ := g_gd h
      have hb := inB_lt hg
      have ⟨hg, h⟩ := g_gd h
      have hb := inB_lt hg
      exact Fr.trans (Fr.sI (Fr.rf _ _) (by unfold Wm12_begins; omega)) (ih _ _ h)
set_option maxHeartbeats 1000000 in
theorem f12_begins_61 {F : Nat} {r : Mem} : ∀ (n : Nat) (x1 : Int32) (σ : Mem), m12_begins_61 F n x1 σ = some r → Fr (Wm12_begins) σ r := by
  intro n
  induction n with
  | zero => intro x1 σ h; unfold m12_begins_61 at h; cases h
  | succ n ih =>
    intro x1 σ h
    unfold m12_begins_61 at h
    have ⟨hg, h⟩ := g_gd h
    have hb := inB_lt hg
    rcases g_if h with ⟨hq, h⟩ | ⟨hq, h⟩
    · exact Fr.trans (Fr.rf _ _) (f12_begins_123 (F := F) F _ _ h)
    · have ⟨hg, h⟩ := g_gd h
      have hb := inB_lt hg
      have ⟨hg, h⟩ := g_gd h
      have hb := inB_lt hg
      have ⟨hg, h⟩ := g_gd h
      have hb := inB_lt hg
      have ⟨hg, h⟩ := g_gd h
      have hb := inB_lt hg
      exact Fr.trans (Fr.sI (Fr.sI (Fr.sI (Fr.rf _ _) (by unfold Wm12_begins; omega)) (by unfold Wm12_begins; omega)) (by unfold Wm12_begins; omega)) (ih _ _ h)
set_option maxHeartbeats 1000000 in
theorem f12_begins_21 {F : Nat} {r : Mem} {k9 : Int32 → Mem → Option (Mem)} (hk9 : ∀ (x1 : Int32) (σ : Mem), k9 x1 σ = some r → Fr (Wm12_begins) σ r) : ∀ (n : Nat) (x1 : Int32) (x2 : Int32) (σ : Mem), m12_begins_21 F k9 n x1 x2 σ = some r → Fr (Wm12_begins) σ r := by
  intro n
  induction n with
  | zero => intro x1 x2 σ h; unfold m12_begins_21 at h; cases h
  | succ n ih =>
    intro x1 x2 σ h
    unfold m12_begins_21 at h
    rcases g_if h with ⟨hq, h⟩ | ⟨hq, h⟩
    · exact Fr.trans (Fr.rf _ _) (hk9 _ _ h)
    · rcases g_if h with ⟨hq, h⟩ | ⟨hq, h⟩
      · exact Fr.trans (Fr.rf _ _) (ih _ _ _ h)
      · have ⟨hg, h⟩ := g_gd h
        have hb := inB_lt hg
        exact Fr.trans (Fr.sI (Fr.rf _ _) (by unfold Wm12_begins; omega)) (ih _ _ _ h)
set_option maxHeartbeats 1000000 in
theorem f12_begins_9 {F : Nat} {r : Mem} : ∀ (n : Nat) (x1 : Int32) (σ : Mem), m12_begins_9 F n x1 σ = some r → Fr (Wm12_begins) σ r := by
  intro n
  induction n with
  | zero => intro x1 σ h; unfold m12_begins_9 at h; cases h
  | succ n ih =>
    intro x1 σ h
    unfold m12_begins_9 at h
    have ⟨hg, h⟩ := g_gd h
    have hb := inB_lt hg
    rcases g_if h with ⟨hq, h⟩ | ⟨hq, h⟩
    · exact Fr.trans (Fr.rf _ _) (f12_begins_61 (F := F) F _ _ h)
    · exact Fr.trans (Fr.rf _ _) (f12_begins_21 (F := F) (fun _ _ h => (ih _ _ h)) F _ _ _ h)
set_option maxHeartbeats 1000000 in
theorem f12_begins {F : Nat} {σ : Mem} {r : Mem} (h : m12_begins F  σ = some r) : Fr (Wm12_begins) σ r := by
  unfold m12_begins at h
  have ⟨hg, h⟩ := g_gd h
  have hb := inB_lt hg
  exact Fr.trans (Fr.sI (Fr.rf _ _) (by unfold Wm12_begins; omega)) (f12_begins_9 (F := F) F _ _ h)
def Wm12_gathersRules (c : Nat) : Prop := c = 483 ∨ (491 ≤ c ∧ c ≤ 496) ∨ c = 498 ∨ (504 ≤ c ∧ c ≤ 505)
set_option maxHeartbeats 1000000 in
theorem f12_gathersRules_116 {F : Nat} {i1 : Int32} {r : Mem} {k40 : Int32 → Int32 → Int32 → Mem → Option (Mem)} (hk40 : ∀ (x2 : Int32) (x3 : Int32) (x4 : Int32) (σ : Mem), k40 x2 x3 x4 σ = some r → Fr (Wm12_gathersRules) σ r) : ∀ (x2 : Int32) (x3 : Int32) (x4 : Int32) (σ : Mem), m12_gathersRules_116 F i1 k40 x2 x3 x4 σ = some r → Fr (Wm12_gathersRules) σ r := by
  intro x2 x3 x4 σ h
  unfold m12_gathersRules_116 at h
  have ⟨_, hc1, h⟩ := b_some h
  have qhc1 := f12_passes hc1
  exact Fr.trans (Fr.trans (Fr.rf _ _) (Fr.mono qhc1 (fun c hw => by unfold Wm12_passes at hw; unfold Wm12_gathersRules; omega))) (hk40 _ _ _ _ h)
set_option maxHeartbeats 1000000 in
theorem f12_gathersRules_77 {F : Nat} {i1 : Int32} {r : Mem} {k40 : Int32 → Int32 → Int32 → Mem → Option (Mem)} (hk40 : ∀ (x2 : Int32) (x3 : Int32) (x4 : Int32) (σ : Mem), k40 x2 x3 x4 σ = some r → Fr (Wm12_gathersRules) σ r) : ∀ (n : Nat) (x2 : Int32) (x3 : Int32) (x4 : Int32) (x5 : Int32) (σ : Mem), m12_gathersRules_77 F i1 k40 n x2 x3 x4 x5 σ = some r → Fr (Wm12_gathersRules) σ r := by
  intro n
  induction n with
  | zero => intro x2 x3 x4 x5 σ h; unfold m12_gathersRules_77 at h; cases h
  | succ n ih =>
    intro x2 x3 x4 x5 σ h
    unfold m12_gathersRules_77 at h
    rcases g_if h with ⟨hq, h⟩ | ⟨hq, h⟩
    · exact Fr.trans (Fr.rf _ _) (f12_gathersRules_116 (F := F) (fun _ _ _ _ h => (hk40 _ _ _ _ h)) _ _ _ _ h)
    · rcases g_if h with ⟨hq, h⟩ | ⟨hq, h⟩
      · have ⟨hg, h⟩ := g_gd h
        have hb := inB_lt hg
        have ⟨hg, h⟩ := g_gd h
        have hb := inB_lt hg
        exact Fr.trans (Fr.sI (Fr.rf _ _) (by unfold Wm12_gathersRules; omega)) (ih _ _ _ _ _ h)
      · exact Fr.trans (Fr.rf _ _) (f12_gathersRules_116 (F := F) (fun _ _ _ _ h => (hk40 _ _ _ _ h)) _ _ _ _ h)
set_option maxHeartbeats 1000000 in
theorem f12_gathersRules_40 {F : Nat} {i1 : Int32} {r : Mem} {k11 : Int32 → Int32 → Mem → Option (Mem)} (hk11 : ∀ (x2 : Int32) (x3 : Int32) (σ : Mem), k11 x2 x3 σ = some r → Fr (Wm12_gathersRules) σ r) : ∀ (n : Nat) (x2 : Int32) (x3 : Int32) (x4 : Int32) (σ : Mem), m12_gathersRules_40 F i1 k11 n x2 x3 x4 σ = some r → Fr (Wm12_gathersRules) σ r := by
  intro n
  induction n with
  | zero => intro x2 x3 x4 σ h; unfold m12_gathersRules_40 at h; cases h
  | succ n ih =>
    intro x2 x3 x4 σ h
    unfold m12_gathersRules_40 at h
    rcases g_if h with ⟨hq, h⟩ | ⟨hq, h⟩
    · have ⟨_, hc1, h⟩ := b_some h
      have qhc1 := f12_laysBack hc1
      exact Fr.trans (Fr.trans (Fr.rf _ _) (Fr.mono qhc1 (fun c hw => by unfold Wm12_laysBack at hw; unfold Wm12_gathersRules; omega))) (hk11 _ _ _ h)
    · have ⟨hg, h⟩ := g_gd h
      have hb := inB_lt hg
      rcases g_if h with ⟨hq, h⟩ | ⟨hq, h⟩
      · have ⟨hg, h⟩ := g_gd h
        have hb := inB_lt hg
        exact Fr.trans (Fr.sI (Fr.rf _ _) (by unfold Wm12_gathersRules; omega)) (f12_gathersRules_77 (F := F) (fun _ _ _ _ h => (ih _ _ _ _ h)) F _ _ _ _ _ h)
      · have ⟨_, hc1, h⟩ := b_some h
        rcases g_if h with ⟨hq, h⟩ | ⟨hq, h⟩
        · have ⟨hg, h⟩ := g_gd h
          have hb := inB_lt hg
          exact Fr.trans (Fr.sI (Fr.rf _ _) (by unfold Wm12_gathersRules; omega)) (f12_gathersRules_77 (F := F) (fun _ _ _ _ h => (ih _ _ _ _ h)) F _ _ _ _ _ h)
        · have ⟨hg, h⟩ := g_gd h
          have hb := inB_lt hg
          exact Fr.trans (Fr.sI (Fr.rf _ _) (by unfold Wm12_gathersRules; omega)) (f12_gathersRules_77 (F := F) (fun _ _ _ _ h => (ih _ _ _ _ h)) F _ _ _ _ _ h)
set_option maxHeartbeats 1000000 in
theorem f12_gathersRules_11 {F : Nat} {i1 : Int32} {r : Mem} : ∀ (n : Nat) (x2 : Int32) (x3 : Int32) (σ : Mem), m12_gathersRules_11 F i1 n x2 x3 σ = some r → Fr (Wm12_gathersRules) σ r := by
  intro n
  induction n with
  | zero => intro x2 x3 σ h; unfold m12_gathersRules_11 at h; cases h
  | succ n ih =>
    intro x2 x3 σ h
    unfold m12_gathersRules_11 at h
    rcases g_if h with ⟨hq, h⟩ | ⟨hq, h⟩
    · have e := Option.some.inj h
      subst e
      exact (Fr.sI (Fr.rf _ _) (by unfold Wm12_gathersRules; omega))
    · have ⟨_, hc1, h⟩ := b_some h
      have qhc1 := f12_begins hc1
      have ⟨hg, h⟩ := g_gd h
      have hb := inB_lt hg
      exact Fr.trans (Fr.sI (Fr.trans (Fr.sI (Fr.rf _ _) (by unfold Wm12_gathersRules; omega)) (Fr.mono qhc1 (fun c hw => by unfold Wm12_begins at hw; unfold Wm12_gathersRules; omega))) (by unfold Wm12_gathersRules; omega)) (f12_gathersRules_40 (F := F) (fun _ _ _ h => (ih _ _ _ h)) F _ _ _ _ h)
set_option maxHeartbeats 1000000 in
theorem f12_gathersRules {F : Nat} {i1 : Int32} {σ : Mem} {r : Mem} (h : m12_gathersRules F i1 σ = some r) : Fr (Wm12_gathersRules) σ r := by
  unfold m12_gathersRules at h
  have ⟨_, hc1, h⟩ := b_some h
  have qhc1 := f12_keeps hc1
  exact Fr.trans (Fr.trans (Fr.rf _ _) (Fr.mono qhc1 (fun c hw => by unfold Wm12_keeps at hw; unfold Wm12_gathersRules; omega))) (f12_gathersRules_11 (F := F) F _ _ _ h)
def Wm12_ruled (c : Nat) : Prop := c = 483 ∨ (491 ≤ c ∧ c ≤ 496) ∨ c = 498 ∨ (504 ≤ c ∧ c ≤ 505)
set_option maxHeartbeats 1000000 in
theorem f12_ruled_36 {F : Nat} {i1 : Int32} {r : Int32 × Mem} : ∀ (n : Nat) (x2 : Int32) (x3 : Int32) (x4 : Int32) (σ : Mem), m12_ruled_36 F i1 n x2 x3 x4 σ = some r → Fr (Wm12_ruled) σ r.2 := by
  intro n
  induction n with
  | zero => intro x2 x3 x4 σ h; unfold m12_ruled_36 at h; cases h
  | succ n ih =>
    intro x2 x3 x4 σ h
    unfold m12_ruled_36 at h
    rcases g_if h with ⟨hq, h⟩ | ⟨hq, h⟩
    · rcases g_if h with ⟨hq, h⟩ | ⟨hq, h⟩
      · have e := Option.some.inj h
        subst e
        exact (Fr.rf _ _)
      · have e := Option.some.inj h
        subst e
        exact (Fr.rf _ _)
    · have ⟨hg, h⟩ := g_gd h
      have hb := inB_lt hg
      rcases g_if h with ⟨hq, h⟩ | ⟨hq, h⟩
      · exact Fr.trans (Fr.rf _ _) (ih _ _ _ _ h)
      · exact Fr.trans (Fr.rf _ _) (ih _ _ _ _ h)
set_option maxHeartbeats 1000000 in
theorem f12_ruled {F : Nat} {i1 : Int32} {σ : Mem} {r : Int32 × Mem} (h : m12_ruled F i1 σ = some r) : Fr (Wm12_ruled) σ r.2 := by
  unfold m12_ruled at h
  have ⟨_, hc1, h⟩ := b_some h
  rcases g_if h with ⟨hq, h⟩ | ⟨hq, h⟩
  · have e := Option.some.inj h
    subst e
    exact (Fr.rf _ _)
  · have ⟨_, hc2, h⟩ := b_some h
    rcases g_if h with ⟨hq, h⟩ | ⟨hq, h⟩
    · have e := Option.some.inj h
      subst e
      exact (Fr.rf _ _)
    · have ⟨_, hc3, h⟩ := b_some h
      have qhc3 := f12_gathersRules hc3
      exact Fr.trans (Fr.trans (Fr.rf _ _) (Fr.mono qhc3 (fun c hw => by unfold Wm12_gathersRules at hw; unfold Wm12_ruled; omega))) (f12_ruled_36 (F := F) F _ _ _ _ h)
def Wm12_look (c : Nat) : Prop := c = 483 ∨ (491 ≤ c ∧ c ≤ 496) ∨ c = 498 ∨ (504 ≤ c ∧ c ≤ 505)
set_option maxHeartbeats 1000000 in
theorem f12_look_41 {F : Nat} {i1 : Int32} {i2 : Int32} {r : Int32 × Mem} : ∀ (n : Nat) (x3 : Int32) (x4 : Int32) (σ : Mem), m12_look_41 F i1 i2 n x3 x4 σ = some r → Fr (Wm12_look) σ r.2 := by
  intro n
  induction n with
  | zero => intro x3 x4 σ h; unfold m12_look_41 at h; cases h
  | succ n ih =>
    intro x3 x4 σ h
    unfold m12_look_41 at h
    rcases g_if h with ⟨hq, h⟩ | ⟨hq, h⟩
    · have ⟨_, hc1, h⟩ := b_some h
      rcases g_if h with ⟨hq, h⟩ | ⟨hq, h⟩
      · have e := Option.some.inj h
        subst e
        exact (Fr.rf _ _)
      · rcases g_if h with ⟨hq, h⟩ | ⟨hq, h⟩
        · have e := Option.some.inj h
          subst e
          exact (Fr.rf _ _)
        · have ⟨_, hc2, h⟩ := b_some h
          have e := Option.some.inj h
          subst e
          exact (Fr.rf _ _)
    · have ⟨_, hc1, h⟩ := b_some h
      have ⟨_, hc2, h⟩ := b_some h
      rcases g_if h with ⟨hq, h⟩ | ⟨hq, h⟩
      · exact Fr.trans (Fr.rf _ _) (ih _ _ _ h)
      · exact Fr.trans (Fr.rf _ _) (ih _ _ _ h)
set_option maxHeartbeats 1000000 in
theorem f12_look {F : Nat} {i1 : Int32} {i2 : Int32} {σ : Mem} {r : Int32 × Mem} (h : m12_look F i1 i2 σ = some r) : Fr (Wm12_look) σ r.2 := by
  unfold m12_look at h
  have ⟨_, hc1, h⟩ := b_some h
  rcases g_if h with ⟨hq, h⟩ | ⟨hq, h⟩
  · have e := Option.some.inj h
    subst e
    exact (Fr.rf _ _)
  · have ⟨_, hc2, h⟩ := b_some h
    rcases g_if h with ⟨hq, h⟩ | ⟨hq, h⟩
    · have e := Option.some.inj h
      subst e
      exact (Fr.rf _ _)
    · have ⟨_, hc3, h⟩ := b_some h
      rcases g_if h with ⟨hq, h⟩ | ⟨hq, h⟩
      · have e := Option.some.inj h
        subst e
        exact (Fr.rf _ _)
      · have ⟨_, hc4, h⟩ := b_some h
        have qhc4 := f12_gathersRules hc4
        exact Fr.trans (Fr.trans (Fr.rf _ _) (Fr.mono qhc4 (fun c hw => by unfold Wm12_gathersRules at hw; unfold Wm12_look; omega))) (f12_look_41 (F := F) F _ _ _ h)
def Wm12_second (c : Nat) : Prop := c = 483 ∨ (491 ≤ c ∧ c ≤ 496) ∨ c = 498
set_option maxHeartbeats 1000000 in
theorem f12_second_45 {F : Nat} {r : Int32 × Mem} : ∀ (x2 : Int32) (s0 : Int32) (σ : Mem), m12_second_45 F x2 s0 σ = some r → Fr (Wm12_second) σ r.2 := by
  intro x2 s0 σ h
  unfold m12_second_45 at h
  rcases g_if h with ⟨hq, h⟩ | ⟨hq, h⟩
  · have e := Option.some.inj h
    subst e
    exact (Fr.rf _ _)
  · have e := Option.some.inj h
    subst e
    exact (Fr.rf _ _)
set_option maxHeartbeats 1000000 in
theorem f12_second {F : Nat} {σ : Mem} {r : Int32 × Mem} (h : m12_second F  σ = some r) : Fr (Wm12_second) σ r.2 := by
  unfold m12_second at h
  have ⟨_, hc1, h⟩ := b_some h
  rcases g_if h with ⟨hq, h⟩ | ⟨hq, h⟩
  · have e := Option.some.inj h
    subst e
    exact (Fr.rf _ _)
  · have ⟨_, hc2, h⟩ := b_some h
    have qhc2 := f12_momentsLeft hc2
    have ⟨_, hc3, h⟩ := b_some h
    have qhc3 := f12_momentsLeft hc3
    rcases g_if h with ⟨hq, h⟩ | ⟨hq, h⟩
    · exact Fr.trans (Fr.sI (Fr.trans (Fr.sI (Fr.trans (Fr.rf _ _) (Fr.mono qhc2 (fun c hw => by unfold Wm12_momentsLeft at hw; unfold Wm12_second; omega))) (by unfold Wm12_second; omega)) (Fr.mono qhc3 (fun c hw => by unfold Wm12_momentsLeft at hw; unfold Wm12_second; omega))) (by unfold Wm12_second; omega)) (f12_second_45 (F := F) _ _ _ h)
    · exact Fr.trans (Fr.sI (Fr.trans (Fr.sI (Fr.trans (Fr.rf _ _) (Fr.mono qhc2 (fun c hw => by unfold Wm12_momentsLeft at hw; unfold Wm12_second; omega))) (by unfold Wm12_second; omega)) (Fr.mono qhc3 (fun c hw => by unfold Wm12_momentsLeft at hw; unfold Wm12_second; omega))) (by unfold Wm12_second; omega)) (f12_second_45 (F := F) _ _ _ h)
def Wm12_seed (c : Nat) : Prop := c = 483
set_option maxHeartbeats 1000000 in
theorem f12_seed {F : Nat} {i1 : Int32} {σ : Mem} {r : Int32 × Mem} (h : m12_seed F i1 σ = some r) : Fr (Wm12_seed) σ r.2 := by
  unfold m12_seed at h
  rcases g_if h with ⟨hq, h⟩ | ⟨hq, h⟩
  · have e := Option.some.inj h
    subst e
    exact (Fr.sI (Fr.rf _ _) (by unfold Wm12_seed; omega))
  · have e := Option.some.inj h
    subst e
    exact (Fr.rf _ _)
def Wm12_draw (c : Nat) : Prop := c = 483
set_option maxHeartbeats 1000000 in
theorem f12_draw {F : Nat} {i1 : Int32} {σ : Mem} {r : Int32 × Mem} (h : m12_draw F i1 σ = some r) : Fr (Wm12_draw) σ r.2 := by
  unfold m12_draw at h
  have ⟨hg, h⟩ := g_gd h
  have e := Option.some.inj h
  subst e
  exact (Fr.sL (Fr.rf _ _) (by unfold Wm12_draw; omega))
def Wm12_days (c : Nat) : Prop := c = 483 ∨ (491 ≤ c ∧ c ≤ 496) ∨ c = 498
set_option maxHeartbeats 1000000 in
theorem f12_days_116 {F : Nat} {i1 : Int32} {i2 : Int32} {i3 : Int32} {i4 : Int32} {r : Int32 × Mem} {k94 : Int32 → Int32 → Int32 → Int32 → Int32 → Mem → Option (Int32 × Mem)} (hk94 : ∀ (x5 : Int32) (x6 : Int32) (x7 : Int32) (x8 : Int32) (x9 : Int32) (σ : Mem), k94 x5 x6 x7 x8 x9 σ = some r → Fr (Wm12_days) σ r.2) : ∀ (x5 : Int32) (x6 : Int32) (x7 : Int32) (x8 : Int32) (x9 : Int32) (s1 : Int32) (σ : Mem), m12_days_116 F i1 i2 i3 i4 k94 x5 x6 x7 x8 x9 s1 σ = some r → Fr (Wm12_days) σ r.2 := by
  intro x5 x6 x7 x8 x9 s1 σ h
  unfold m12_days_116 at h
  have ⟨hg, h⟩ := g_gd h
  have ⟨_, hc1, h⟩ := b_some h
  have qhc1 := f12_passes hc1
  exact Fr.trans (Fr.trans (Fr.sI (Fr.rf _ _) (by unfold Wm12_days; omega)) (Fr.mono qhc1 (fun c hw => by unfold Wm12_passes at hw; unfold Wm12_days; omega))) (hk94 _ _ _ _ _ _ h)
set_option maxHeartbeats 1000000 in
theorem f12_days_94 {F : Nat} {i1 : Int32} {i2 : Int32} {i3 : Int32} {i4 : Int32} {r : Int32 × Mem} {k78 : Int32 → Int32 → Int32 → Mem → Option (Int32 × Mem)} (hk78 : ∀ (x5 : Int32) (x6 : Int32) (x7 : Int32) (σ : Mem), k78 x5 x6 x7 σ = some r → Fr (Wm12_days) σ r.2) : ∀ (n : Nat) (x5 : Int32) (x6 : Int32) (x7 : Int32) (x8 : Int32) (x9 : Int32) (σ : Mem), m12_days_94 F i1 i2 i3 i4 k78 n x5 x6 x7 x8 x9 σ = some r → Fr (Wm12_days) σ r.2 := by
  intro n
  induction n with
  | zero => intro x5 x6 x7 x8 x9 σ h; unfold m12_days_94 at h; cases h
  | succ n ih =>
    intro x5 x6 x7 x8 x9 σ h
    unfold m12_days_94 at h
    rcases g_if h with ⟨hq, h⟩ | ⟨hq, h⟩
    · have ⟨_, hc1, h⟩ := b_some h
      have ⟨_, hc2, h⟩ := b_some h
      have qhc2 := f12_laysBack hc2
      exact Fr.trans (Fr.trans (Fr.rf _ _) (Fr.mono qhc2 (fun c hw => by unfold Wm12_laysBack at hw; unfold Wm12_days; omega))) (hk78 _ _ _ _ h)
    · have ⟨_, hc1, h⟩ := b_some h
      have qhc1 := f12_draw hc1
      rcases g_if h with ⟨hq, h⟩ | ⟨hq, h⟩
      · exact Fr.trans (Fr.trans (Fr.rf _ _) (Fr.mono qhc1 (fun c hw => by unfold Wm12_draw at hw; unfold Wm12_days; omega))) (f12_days_116 (F := F) (fun _ _ _ _ _ _ h => (ih _ _ _ _ _ _ h)) _ _ _ _ _ _ _ h)
      · exact Fr.trans (Fr.trans (Fr.rf _ _) (Fr.mono qhc1 (fun c hw => by unfold Wm12_draw at hw; unfold Wm12_days; omega))) (f12_days_116 (F := F) (fun _ _ _ _ _ _ h => (ih _ _ _ _ _ _ h)) _ _ _ _ _ _ _ h)
set_option maxHeartbeats 1000000 in
theorem f12_days_78 {F : Nat} {i1 : Int32} {i2 : Int32} {i3 : Int32} {i4 : Int32} {r : Int32 × Mem} : ∀ (n : Nat) (x5 : Int32) (x6 : Int32) (x7 : Int32) (σ : Mem), m12_days_78 F i1 i2 i3 i4 n x5 x6 x7 σ = some r → Fr (Wm12_days) σ r.2 := by
  intro n
  induction n with
  | zero => intro x5 x6 x7 σ h; unfold m12_days_78 at h; cases h
  | succ n ih =>
    intro x5 x6 x7 σ h
    unfold m12_days_78 at h
    rcases g_if h with ⟨hq, h⟩ | ⟨hq, h⟩
    · rcases g_if h with ⟨hq, h⟩ | ⟨hq, h⟩
      · have e := Option.some.inj h
        subst e
        exact (Fr.sI (Fr.rf _ _) (by unfold Wm12_days; omega))
      · have e := Option.some.inj h
        subst e
        exact (Fr.sI (Fr.rf _ _) (by unfold Wm12_days; omega))
    · have ⟨_, hc1, h⟩ := b_some h
      exact Fr.trans (Fr.rf _ _) (f12_days_94 (F := F) (fun _ _ _ _ h => (ih _ _ _ _ h)) F _ _ _ _ _ _ h)
set_option maxHeartbeats 1000000 in
theorem f12_days {F : Nat} {i1 : Int32} {i2 : Int32} {i3 : Int32} {i4 : Int32} {σ : Mem} {r : Int32 × Mem} (h : m12_days F i1 i2 i3 i4 σ = some r) : Fr (Wm12_days) σ r.2 := by
  unfold m12_days at h
  have ⟨_, hc1, h⟩ := b_some h
  rcases g_if h with ⟨hq, h⟩ | ⟨hq, h⟩
  · have e := Option.some.inj h
    subst e
    exact (Fr.rf _ _)
  · have ⟨_, hc2, h⟩ := b_some h
    rcases g_if h with ⟨hq, h⟩ | ⟨hq, h⟩
    · have e := Option.some.inj h
      subst e
      exact (Fr.rf _ _)
    · have ⟨_, hc3, h⟩ := b_some h
      rcases g_if h with ⟨hq, h⟩ | ⟨hq, h⟩
      · have e := Option.some.inj h
        subst e
        exact (Fr.rf _ _)
      · have ⟨_, hc4, h⟩ := b_some h
        rcases g_if h with ⟨hq, h⟩ | ⟨hq, h⟩
        · have e := Option.some.inj h
          subst e
          exact (Fr.rf _ _)
        · have ⟨_, hc5, h⟩ := b_some h
          rcases g_if h with ⟨hq, h⟩ | ⟨hq, h⟩
          · have e := Option.some.inj h
            subst e
            exact (Fr.rf _ _)
          · have ⟨_, hc6, h⟩ := b_some h
            have qhc6 := f12_keeps hc6
            exact Fr.trans (Fr.trans (Fr.sL (Fr.rf _ _) (by unfold Wm12_days; omega)) (Fr.mono qhc6 (fun c hw => by unfold Wm12_keeps at hw; unfold Wm12_days; omega))) (f12_days_78 (F := F) F _ _ _ _ h)
def Wm12_image (c : Nat) : Prop := (506 ≤ c ∧ c ≤ 509)
set_option maxHeartbeats 1000000 in
theorem f12_image_43 {F : Nat} {i1 : Int32} {r : Int32 × Mem} : ∀ (n : Nat) (x2 : Int32) (σ : Mem), m12_image_43 F i1 n x2 σ = some r → Fr (Wm12_image) σ r.2 := by
  intro n
  induction n with
  | zero => intro x2 σ h; unfold m12_image_43 at h; cases h
  | succ n ih =>
    intro x2 σ h
    unfold m12_image_43 at h
    rcases g_if h with ⟨hq, h⟩ | ⟨hq, h⟩
    · have ⟨hg, h⟩ := g_gd h
      have hb := inB_lt hg
      have e := Option.some.inj h
      subst e
      exact (Fr.rf _ _)
    · have ⟨hg, h⟩ := g_gd h
      have hb := inB_lt hg
      have ⟨hg, h⟩ := g_gd h
      have hb := inB_lt hg
      exact Fr.trans (Fr.sI (Fr.rf _ _) (by unfold Wm12_image; omega)) (ih _ _ h)
set_option maxHeartbeats 1000000 in
theorem f12_image {F : Nat} {i1 : Int32} {σ : Mem} {r : Int32 × Mem} (h : m12_image F i1 σ = some r) : Fr (Wm12_image) σ r.2 := by
  unfold m12_image at h
  have ⟨_, hc1, h⟩ := b_some h
  rcases g_if h with ⟨hq, h⟩ | ⟨hq, h⟩
  · have e := Option.some.inj h
    subst e
    exact (Fr.rf _ _)
  · have ⟨hg, h⟩ := g_gd h
    have hb := inB_lt hg
    have ⟨hg, h⟩ := g_gd h
    have hb := inB_lt hg
    have ⟨hg, h⟩ := g_gd h
    have hb := inB_lt hg
    exact Fr.trans (Fr.sI (Fr.sI (Fr.sI (Fr.rf _ _) (by unfold Wm12_image; omega)) (by unfold Wm12_image; omega)) (by unfold Wm12_image; omega)) (f12_image_43 (F := F) F _ _ h)
def Wm12_back (c : Nat) : Prop := c = 483 ∨ c = 493
set_option maxHeartbeats 1000000 in
theorem f12_back_50 {F : Nat} {i1 : Int32} {r : Int32 × Mem} : ∀ (n : Nat) (x2 : Int32) (σ : Mem), m12_back_50 F i1 n x2 σ = some r → Fr (Wm12_back) σ r.2 := by
  intro n
  induction n with
  | zero => intro x2 σ h; unfold m12_back_50 at h; cases h
  | succ n ih =>
    intro x2 σ h
    unfold m12_back_50 at h
    rcases g_if h with ⟨hq, h⟩ | ⟨hq, h⟩
    · have ⟨hg, h⟩ := g_gd h
      have hb := inB_lt hg
      have e := Option.some.inj h
      subst e
      exact (Fr.rf _ _)
    · have ⟨hg, h⟩ := g_gd h
      have hb := inB_lt hg
      have ⟨hg, h⟩ := g_gd h
      have hb := inB_lt hg
      exact Fr.trans (Fr.sI (Fr.rf _ _) (by unfold Wm12_back; omega)) (ih _ _ h)
set_option maxHeartbeats 1000000 in
theorem f12_back {F : Nat} {i1 : Int32} {σ : Mem} {r : Int32 × Mem} (h : m12_back F i1 σ = some r) : Fr (Wm12_back) σ r.2 := by
  unfold m12_back at h
  have ⟨_, hc1, h⟩ := b_some h
  rcases g_if h with ⟨hq, h⟩ | ⟨hq, h⟩
  · have e := Option.some.inj h
    subst e
    exact (Fr.rf _ _)
  · have ⟨hg, h⟩ := g_gd h
    have hb := inB_lt hg
    rcases g_if h with ⟨hq, h⟩ | ⟨hq, h⟩
    · have e := Option.some.inj h
      subst e
      exact (Fr.rf _ _)
    · have ⟨hg, h⟩ := g_gd h
      have hb := inB_lt hg
      have ⟨hg, h⟩ := g_gd h
      have hb := inB_lt hg
      exact Fr.trans (Fr.sI (Fr.sI (Fr.sI (Fr.rf _ _) (by unfold Wm12_back; omega)) (by unfold Wm12_back; omega)) (by unfold Wm12_back; omega)) (f12_back_50 (F := F) F _ _ h)
