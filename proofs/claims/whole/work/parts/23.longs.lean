/-! may a method write the reference's own long field -/
def Sg (W : Nat → Prop) (σ σ' : Mem) : Prop := ¬ W 45 → gL σ' 483 = gL σ 483
theorem Sg.rf (W : Nat → Prop) (σ : Mem) : Sg W σ σ := fun _ => rfl
theorem Sg.trans {W : Nat → Prop} {σ σ1 σ2 : Mem} (h : Sg W σ σ1) (g : Sg W σ1 σ2) : Sg W σ σ2 := fun hj => (g hj).trans (h hj)
theorem Sg.mono {W V : Nat → Prop} {σ σ1 : Mem} (h : Sg W σ σ1) (m : ∀ j, W j → V j) : Sg V σ σ1 := fun hj => h (fun q => hj (m 45 q))
theorem Sg.sI {W : Nat → Prop} {σ σ1 : Mem} {c j : Nat} {v : Int32} (h : Sg W σ σ1) : Sg W σ (sI σ1 c j v) := h
theorem Sg.ne {W : Nat → Prop} {σ σ1 : Mem} {c j : Nat} {v : Int64} (h : Sg W σ σ1) (hc : 483 ≠ c) : Sg W σ (sL σ1 c j v) := fun hj => by
  rw [← h hj]
  funext j'
  exact if_neg (fun q => hc q.1)
theorem Sg.at {W : Nat → Prop} {σ σ1 : Mem} {c j : Nat} {v : Int64} (_ : Sg W σ σ1) (hc : W 45) : Sg W σ (sL σ1 c j v) := fun hj => absurd hc hj
def Ym12_four (c : Nat) : Prop := False
set_option maxHeartbeats 1000000 in
theorem f12_four_g3 {F : Nat} {i1 : Int32} {r : Mem} : ∀ (n : Nat) (x2 : Int32) (σ : Mem), m12_four_3 F i1 n x2 σ = some r → Sg (Ym12_four) σ r := by
  intro n
  induction n with
  | zero => intro x2 σ h; unfold m12_four_3 at h; cases h
  | succ n ih =>
    intro x2 σ h
    unfold m12_four_3 at h
    rcases g_if h with ⟨hq, h⟩ | ⟨hq, h⟩
    · have e := Option.some.inj h
      subst e
      exact (Sg.rf _ _)
    · have ⟨hg, h⟩ := g_gd h
      have hb := inB_lt hg
      exact Sg.trans (Sg.sI (Sg.sI (Sg.rf _ _))) (ih _ _ h)
set_option maxHeartbeats 1000000 in
theorem f12_four_g {F : Nat} {i1 : Int32} {σ : Mem} {r : Mem} (h : m12_four F i1 σ = some r) : Sg (Ym12_four) σ r := by
  unfold m12_four at h
  exact Sg.trans (Sg.rf _ _) (f12_four_g3 (F := F) F _ _ h)
def Ym12_feed (c : Nat) : Prop := False
set_option maxHeartbeats 1000000 in
theorem f12_feed_g {F : Nat} {i1 : Int32} {i2 : Int32} {i3 : Int32} {i4 : Int32} {i5 : Int32} {σ : Mem} {r : Int32 × Mem} (h : m12_feed F i1 i2 i3 i4 i5 σ = some r) : Sg (Ym12_feed) σ r.2 := by
  unfold m12_feed at h
  rcases g_if h with ⟨hq, h⟩ | ⟨hq, h⟩
  · have ⟨_, hc1, h⟩ := b_some h
    have qhc1 := f12_four_g hc1
    have ⟨_, hc2, h⟩ := b_some h
    have qhc2 := f12_four_g hc2
    have ⟨_, hc3, h⟩ := b_some h
    have qhc3 := f12_four_g hc3
    have ⟨_, hc4, h⟩ := b_some h
    have qhc4 := f12_four_g hc4
    have ⟨_, hc5, h⟩ := b_some h
    have qhc5 := f12_four_g hc5
    have e := Option.some.inj h
    subst e
    exact (Sg.trans (Sg.trans (Sg.trans (Sg.trans (Sg.trans (Sg.rf _ _) (Sg.mono qhc1 (fun c hw => by unfold Ym12_four at hw; unfold Ym12_feed; first | exact hw.elim | omega))) (Sg.mono qhc2 (fun c hw => by unfold Ym12_four at hw; unfold Ym12_feed; first | exact hw.elim | omega))) (Sg.mono qhc3 (fun c hw => by unfold Ym12_four at hw; unfold Ym12_feed; first | exact hw.elim | omega))) (Sg.mono qhc4 (fun c hw => by unfold Ym12_four at hw; unfold Ym12_feed; first | exact hw.elim | omega))) (Sg.mono qhc5 (fun c hw => by unfold Ym12_four at hw; unfold Ym12_feed; first | exact hw.elim | omega)))
  · have e := Option.some.inj h
    subst e
    exact (Sg.rf _ _)
def Ym12_end (c : Nat) : Prop := False
set_option maxHeartbeats 1000000 in
theorem f12_end_g {F : Nat} {i1 : Int32} {σ : Mem} {r : Int32 × Mem} (h : m12_end F i1 σ = some r) : Sg (Ym12_end) σ r.2 := by
  unfold m12_end at h
  rcases g_if h with ⟨hq, h⟩ | ⟨hq, h⟩
  · have e := Option.some.inj h
    subst e
    exact (Sg.rf _ _)
  · rcases g_if h with ⟨hq, h⟩ | ⟨hq, h⟩
    · have e := Option.some.inj h
      subst e
      exact (Sg.sI (Sg.rf _ _))
    · have e := Option.some.inj h
      subst e
      exact (Sg.rf _ _)
def Ym12_fails (c : Nat) : Prop := False
set_option maxHeartbeats 1000000 in
theorem f12_fails_g {F : Nat} {i1 : Int32} {i2 : Int32} {σ : Mem} {r : Int32 × Mem} (h : m12_fails F i1 i2 σ = some r) : Sg (Ym12_fails) σ r.2 := by
  unfold m12_fails at h
  rcases g_if h with ⟨hq, h⟩ | ⟨hq, h⟩
  · have e := Option.some.inj h
    subst e
    exact (Sg.sI (Sg.rf _ _))
  · have e := Option.some.inj h
    subst e
    exact (Sg.rf _ _)
def Ym12_see (c : Nat) : Prop := False
set_option maxHeartbeats 1000000 in
theorem f12_see_g38 {F : Nat} {r : Int32 × Mem} : ∀ (σ : Mem), m12_see_38 F σ = some r → Sg (Ym12_see) σ r.2 := by
  intro σ h
  unfold m12_see_38 at h
  rcases g_if h with ⟨hq, h⟩ | ⟨hq, h⟩
  · have e := Option.some.inj h
    subst e
    exact (Sg.rf _ _)
  · have ⟨hg, h⟩ := g_gd h
    have hb := inB_lt hg
    have e := Option.some.inj h
    subst e
    exact (Sg.rf _ _)
set_option maxHeartbeats 1000000 in
theorem f12_see_g0 {F : Nat} {r : Int32 × Mem} : ∀ (n : Nat) (σ : Mem), m12_see_0 F n σ = some r → Sg (Ym12_see) σ r.2 := by
  intro n
  induction n with
  | zero => intro σ h; unfold m12_see_0 at h; cases h
  | succ n ih =>
    intro σ h
    unfold m12_see_0 at h
    rcases g_if h with ⟨hq, h⟩ | ⟨hq, h⟩
    · exact Sg.trans (Sg.rf _ _) (f12_see_g38 (F := F) _ h)
    · have ⟨hg, h⟩ := g_gd h
      have hb := inB_lt hg
      rcases g_if h with ⟨hq, h⟩ | ⟨hq, h⟩
      · exact Sg.trans (Sg.sI (Sg.rf _ _)) (ih _ h)
      · exact Sg.trans (Sg.rf _ _) (f12_see_g38 (F := F) _ h)
set_option maxHeartbeats 1000000 in
theorem f12_see_g {F : Nat} {σ : Mem} {r : Int32 × Mem} (h : m12_see F  σ = some r) : Sg (Ym12_see) σ r.2 := by
  unfold m12_see at h
  exact (f12_see_g0 (F := F) F _ h)
def Ym12_isWord (c : Nat) : Prop := False
set_option maxHeartbeats 1000000 in
theorem f12_isWord_g10 {F : Nat} {j1 : Int64} {r : Int32 × Mem} : ∀ (n : Nat) (x3 : Int64) (x5 : Int32) (σ : Mem), m12_isWord_10 F j1 n x3 x5 σ = some r → Sg (Ym12_isWord) σ r.2 := by
  intro n
  induction n with
  | zero => intro x3 x5 σ h; unfold m12_isWord_10 at h; cases h
  | succ n ih =>
    intro x3 x5 σ h
    unfold m12_isWord_10 at h
    have ⟨_, hc1, h⟩ := b_some h
    rcases g_if h with ⟨hq, h⟩ | ⟨hq, h⟩
    · rcases g_if h with ⟨hq, h⟩ | ⟨hq, h⟩
      · have e := Option.some.inj h
        subst e
        exact (Sg.rf _ _)
      · rcases g_if h with ⟨hq, h⟩ | ⟨hq, h⟩
        · have e := Option.some.inj h
          subst e
          exact (Sg.rf _ _)
        · rcases g_if h with ⟨hq, h⟩ | ⟨hq, h⟩
          · have e := Option.some.inj h
            subst e
            exact (Sg.rf _ _)
          · have e := Option.some.inj h
            subst e
            exact (Sg.rf _ _)
    · rcases g_if h with ⟨hq, h⟩ | ⟨hq, h⟩
      · exact Sg.trans (Sg.rf _ _) (ih _ _ _ h)
      · have ⟨hg, h⟩ := g_gd h
        have hb := inB_lt hg
        exact Sg.trans (Sg.rf _ _) (ih _ _ _ h)
set_option maxHeartbeats 1000000 in
theorem f12_isWord_g {F : Nat} {j1 : Int64} {σ : Mem} {r : Int32 × Mem} (h : m12_isWord F j1 σ = some r) : Sg (Ym12_isWord) σ r.2 := by
  unfold m12_isWord at h
  have ⟨_, hc1, h⟩ := b_some h
  have qhc1 := f12_see_g hc1
  exact Sg.trans (Sg.trans (Sg.rf _ _) (Sg.mono qhc1 (fun c hw => by unfold Ym12_see at hw; unfold Ym12_isWord; first | exact hw.elim | omega))) (f12_isWord_g10 (F := F) F _ _ _ h)
def Ym12_passWord (c : Nat) : Prop := False
set_option maxHeartbeats 1000000 in
theorem f12_passWord_g0 {F : Nat} {r : Mem} : ∀ (n : Nat) (σ : Mem), m12_passWord_0 F n σ = some r → Sg (Ym12_passWord) σ r := by
  intro n
  induction n with
  | zero => intro σ h; unfold m12_passWord_0 at h; cases h
  | succ n ih =>
    intro σ h
    unfold m12_passWord_0 at h
    have ⟨_, hc1, h⟩ := b_some h
    rcases g_if h with ⟨hq, h⟩ | ⟨hq, h⟩
    · have e := Option.some.inj h
      subst e
      exact (Sg.rf _ _)
    · exact Sg.trans (Sg.sI (Sg.rf _ _)) (ih _ h)
set_option maxHeartbeats 1000000 in
theorem f12_passWord_g {F : Nat} {σ : Mem} {r : Mem} (h : m12_passWord F  σ = some r) : Sg (Ym12_passWord) σ r := by
  unfold m12_passWord at h
  exact (f12_passWord_g0 (F := F) F _ h)
def Ym12_takesWord (c : Nat) : Prop := False
set_option maxHeartbeats 1000000 in
theorem f12_takesWord_g {F : Nat} {j1 : Int64} {σ : Mem} {r : Int32 × Mem} (h : m12_takesWord F j1 σ = some r) : Sg (Ym12_takesWord) σ r.2 := by
  unfold m12_takesWord at h
  have ⟨_, hc1, h⟩ := b_some h
  have qhc1 := f12_isWord_g hc1
  rcases g_if h with ⟨hq, h⟩ | ⟨hq, h⟩
  · have e := Option.some.inj h
    subst e
    exact (Sg.trans (Sg.rf _ _) (Sg.mono qhc1 (fun c hw => by unfold Ym12_isWord at hw; unfold Ym12_takesWord; first | exact hw.elim | omega)))
  · have ⟨_, hc2, h⟩ := b_some h
    have qhc2 := f12_passWord_g hc2
    have e := Option.some.inj h
    subst e
    exact (Sg.trans (Sg.trans (Sg.rf _ _) (Sg.mono qhc1 (fun c hw => by unfold Ym12_isWord at hw; unfold Ym12_takesWord; first | exact hw.elim | omega))) (Sg.mono qhc2 (fun c hw => by unfold Ym12_passWord at hw; unfold Ym12_takesWord; first | exact hw.elim | omega)))
def Ym12_numberHere (c : Nat) : Prop := False
set_option maxHeartbeats 1000000 in
theorem f12_numberHere_g117 {F : Nat} {i1 : Int32} {i2 : Int32} {r : Int32 × Mem} : ∀ (x3 : Int32) (σ : Mem), m12_numberHere_117 F i1 i2 x3 σ = some r → Sg (Ym12_numberHere) σ r.2 := by
  intro x3 σ h
  unfold m12_numberHere_117 at h
  have ⟨_, hc1, h⟩ := b_some h
  have qhc1 := f12_fails_g hc1
  rcases g_if h with ⟨hq, h⟩ | ⟨hq, h⟩
  · have e := Option.some.inj h
    subst e
    exact (Sg.trans (Sg.rf _ _) (Sg.mono qhc1 (fun c hw => by unfold Ym12_fails at hw; unfold Ym12_numberHere; first | exact hw.elim | omega)))
  · have e := Option.some.inj h
    subst e
    exact (Sg.trans (Sg.rf _ _) (Sg.mono qhc1 (fun c hw => by unfold Ym12_fails at hw; unfold Ym12_numberHere; first | exact hw.elim | omega)))
set_option maxHeartbeats 1000000 in
theorem f12_numberHere_g34 {F : Nat} {i1 : Int32} {i2 : Int32} {r : Int32 × Mem} : ∀ (n : Nat) (x3 : Int32) (x4 : Int32) (σ : Mem), m12_numberHere_34 F i1 i2 n x3 x4 σ = some r → Sg (Ym12_numberHere) σ r.2 := by
  intro n
  induction n with
  | zero => intro x3 x4 σ h; unfold m12_numberHere_34 at h; cases h
  | succ n ih =>
    intro x3 x4 σ h
    unfold m12_numberHere_34 at h
    have ⟨_, hc1, h⟩ := b_some h
    rcases g_if h with ⟨hq, h⟩ | ⟨hq, h⟩
    · rcases g_if h with ⟨hq, h⟩ | ⟨hq, h⟩
      · exact Sg.trans (Sg.sI (Sg.rf _ _)) (f12_numberHere_g117 (F := F) _ _ h)
      · have ⟨_, hc2, h⟩ := b_some h
        rcases g_if h with ⟨hq, h⟩ | ⟨hq, h⟩
        · exact Sg.trans (Sg.sI (Sg.rf _ _)) (f12_numberHere_g117 (F := F) _ _ h)
        · have e := Option.some.inj h
          subst e
          exact (Sg.sI (Sg.rf _ _))
    · rcases g_if h with ⟨hq, h⟩ | ⟨hq, h⟩
      · exact Sg.trans (Sg.sI (Sg.rf _ _)) (ih _ _ _ h)
      · have ⟨hg, h⟩ := g_gd h
        have hb := inB_lt hg
        exact Sg.trans (Sg.sI (Sg.rf _ _)) (ih _ _ _ h)
set_option maxHeartbeats 1000000 in
theorem f12_numberHere_g {F : Nat} {i1 : Int32} {i2 : Int32} {σ : Mem} {r : Int32 × Mem} (h : m12_numberHere F i1 i2 σ = some r) : Sg (Ym12_numberHere) σ r.2 := by
  unfold m12_numberHere at h
  have ⟨_, hc1, h⟩ := b_some h
  have qhc1 := f12_see_g hc1
  have ⟨_, hc2, h⟩ := b_some h
  rcases g_if h with ⟨hq, h⟩ | ⟨hq, h⟩
  · have ⟨_, hc3, h⟩ := b_some h
    have qhc3 := f12_fails_g hc3
    have ⟨hg, h⟩ := g_gd h
    have e := Option.some.inj h
    subst e
    exact (Sg.trans (Sg.trans (Sg.rf _ _) (Sg.mono qhc1 (fun c hw => by unfold Ym12_see at hw; unfold Ym12_numberHere; first | exact hw.elim | omega))) (Sg.mono qhc3 (fun c hw => by unfold Ym12_fails at hw; unfold Ym12_numberHere; first | exact hw.elim | omega)))
  · exact Sg.trans (Sg.trans (Sg.rf _ _) (Sg.mono qhc1 (fun c hw => by unfold Ym12_see at hw; unfold Ym12_numberHere; first | exact hw.elim | omega))) (f12_numberHere_g34 (F := F) F _ _ _ h)
def Ym12_wordHere (c : Nat) : Prop := False
set_option maxHeartbeats 1000000 in
theorem f12_wordHere_g {F : Nat} {σ : Mem} {r : Int32 × Mem} (h : m12_wordHere F  σ = some r) : Sg (Ym12_wordHere) σ r.2 := by
  unfold m12_wordHere at h
  have ⟨_, hc1, h⟩ := b_some h
  have qhc1 := f12_isWord_g hc1
  rcases g_if h with ⟨hq, h⟩ | ⟨hq, h⟩
  · have ⟨_, hc2, h⟩ := b_some h
    have qhc2 := f12_isWord_g hc2
    rcases g_if h with ⟨hq, h⟩ | ⟨hq, h⟩
    · have ⟨_, hc3, h⟩ := b_some h
      have qhc3 := f12_isWord_g hc3
      rcases g_if h with ⟨hq, h⟩ | ⟨hq, h⟩
      · have ⟨_, hc4, h⟩ := b_some h
        have qhc4 := f12_isWord_g hc4
        rcases g_if h with ⟨hq, h⟩ | ⟨hq, h⟩
        · have ⟨_, hc5, h⟩ := b_some h
          have qhc5 := f12_isWord_g hc5
          rcases g_if h with ⟨hq, h⟩ | ⟨hq, h⟩
          · have ⟨_, hc6, h⟩ := b_some h
            have qhc6 := f12_isWord_g hc6
            rcases g_if h with ⟨hq, h⟩ | ⟨hq, h⟩
            · have ⟨_, hc7, h⟩ := b_some h
              have qhc7 := f12_isWord_g hc7
              rcases g_if h with ⟨hq, h⟩ | ⟨hq, h⟩
              · have ⟨_, hc8, h⟩ := b_some h
                have qhc8 := f12_isWord_g hc8
                rcases g_if h with ⟨hq, h⟩ | ⟨hq, h⟩
                · have ⟨_, hc9, h⟩ := b_some h
                  have qhc9 := f12_isWord_g hc9
                  rcases g_if h with ⟨hq, h⟩ | ⟨hq, h⟩
                  · have ⟨_, hc10, h⟩ := b_some h
                    have qhc10 := f12_isWord_g hc10
                    rcases g_if h with ⟨hq, h⟩ | ⟨hq, h⟩
                    · have ⟨_, hc11, h⟩ := b_some h
                      have qhc11 := f12_isWord_g hc11
                      rcases g_if h with ⟨hq, h⟩ | ⟨hq, h⟩
                      · have ⟨_, hc12, h⟩ := b_some h
                        have qhc12 := f12_isWord_g hc12
                        rcases g_if h with ⟨hq, h⟩ | ⟨hq, h⟩
                        · have ⟨_, hc13, h⟩ := b_some h
                          have qhc13 := f12_isWord_g hc13
                          rcases g_if h with ⟨hq, h⟩ | ⟨hq, h⟩
                          · have e := Option.some.inj h
                            subst e
                            exact (Sg.trans (Sg.trans (Sg.trans (Sg.trans (Sg.trans (Sg.trans (Sg.trans (Sg.trans (Sg.trans (Sg.trans (Sg.trans (Sg.trans (Sg.trans (Sg.rf _ _) (Sg.mono qhc1 (fun c hw => by unfold Ym12_isWord at hw; unfold Ym12_wordHere; first | exact hw.elim | omega))) (Sg.mono qhc2 (fun c hw => by unfold Ym12_isWord at hw; unfold Ym12_wordHere; first | exact hw.elim | omega))) (Sg.mono qhc3 (fun c hw => by unfold Ym12_isWord at hw; unfold Ym12_wordHere; first | exact hw.elim | omega))) (Sg.mono qhc4 (fun c hw => by unfold Ym12_isWord at hw; unfold Ym12_wordHere; first | exact hw.elim | omega))) (Sg.mono qhc5 (fun c hw => by unfold Ym12_isWord at hw; unfold Ym12_wordHere; first | exact hw.elim | omega))) (Sg.mono qhc6 (fun c hw => by unfold Ym12_isWord at hw; unfold Ym12_wordHere; first | exact hw.elim | omega))) (Sg.mono qhc7 (fun c hw => by unfold Ym12_isWord at hw; unfold Ym12_wordHere; first | exact hw.elim | omega))) (Sg.mono qhc8 (fun c hw => by unfold Ym12_isWord at hw; unfold Ym12_wordHere; first | exact hw.elim | omega))) (Sg.mono qhc9 (fun c hw => by unfold Ym12_isWord at hw; unfold Ym12_wordHere; first | exact hw.elim | omega))) (Sg.mono qhc10 (fun c hw => by unfold Ym12_isWord at hw; unfold Ym12_wordHere; first | exact hw.elim | omega))) (Sg.mono qhc11 (fun c hw => by unfold Ym12_isWord at hw; unfold Ym12_wordHere; first | exact hw.elim | omega))) (Sg.mono qhc12 (fun c hw => by unfold Ym12_isWord at hw; unfold Ym12_wordHere; first | exact hw.elim | omega))) (Sg.mono qhc13 (fun c hw => by unfold Ym12_isWord at hw; unfold Ym12_wordHere; first | exact hw.elim | omega)))
                          · have e := Option.some.inj h
                            subst e
                            exact (Sg.trans (Sg.trans (Sg.trans (Sg.trans (Sg.trans (Sg.trans (Sg.trans (Sg.trans (Sg.trans (Sg.trans (Sg.trans (Sg.trans (Sg.trans (Sg.rf _ _) (Sg.mono qhc1 (fun c hw => by unfold Ym12_isWord at hw; unfold Ym12_wordHere; first | exact hw.elim | omega))) (Sg.mono qhc2 (fun c hw => by unfold Ym12_isWord at hw; unfold Ym12_wordHere; first | exact hw.elim | omega))) (Sg.mono qhc3 (fun c hw => by unfold Ym12_isWord at hw; unfold Ym12_wordHere; first | exact hw.elim | omega))) (Sg.mono qhc4 (fun c hw => by unfold Ym12_isWord at hw; unfold Ym12_wordHere; first | exact hw.elim | omega))) (Sg.mono qhc5 (fun c hw => by unfold Ym12_isWord at hw; unfold Ym12_wordHere; first | exact hw.elim | omega))) (Sg.mono qhc6 (fun c hw => by unfold Ym12_isWord at hw; unfold Ym12_wordHere; first | exact hw.elim | omega))) (Sg.mono qhc7 (fun c hw => by unfold Ym12_isWord at hw; unfold Ym12_wordHere; first | exact hw.elim | omega))) (Sg.mono qhc8 (fun c hw => by unfold Ym12_isWord at hw; unfold Ym12_wordHere; first | exact hw.elim | omega))) (Sg.mono qhc9 (fun c hw => by unfold Ym12_isWord at hw; unfold Ym12_wordHere; first | exact hw.elim | omega))) (Sg.mono qhc10 (fun c hw => by unfold Ym12_isWord at hw; unfold Ym12_wordHere; first | exact hw.elim | omega))) (Sg.mono qhc11 (fun c hw => by unfold Ym12_isWord at hw; unfold Ym12_wordHere; first | exact hw.elim | omega))) (Sg.mono qhc12 (fun c hw => by unfold Ym12_isWord at hw; unfold Ym12_wordHere; first | exact hw.elim | omega))) (Sg.mono qhc13 (fun c hw => by unfold Ym12_isWord at hw; unfold Ym12_wordHere; first | exact hw.elim | omega)))
                        · have e := Option.some.inj h
                          subst e
                          exact (Sg.trans (Sg.trans (Sg.trans (Sg.trans (Sg.trans (Sg.trans (Sg.trans (Sg.trans (Sg.trans (Sg.trans (Sg.trans (Sg.trans (Sg.rf _ _) (Sg.mono qhc1 (fun c hw => by unfold Ym12_isWord at hw; unfold Ym12_wordHere; first | exact hw.elim | omega))) (Sg.mono qhc2 (fun c hw => by unfold Ym12_isWord at hw; unfold Ym12_wordHere; first | exact hw.elim | omega))) (Sg.mono qhc3 (fun c hw => by unfold Ym12_isWord at hw; unfold Ym12_wordHere; first | exact hw.elim | omega))) (Sg.mono qhc4 (fun c hw => by unfold Ym12_isWord at hw; unfold Ym12_wordHere; first | exact hw.elim | omega))) (Sg.mono qhc5 (fun c hw => by unfold Ym12_isWord at hw; unfold Ym12_wordHere; first | exact hw.elim | omega))) (Sg.mono qhc6 (fun c hw => by unfold Ym12_isWord at hw; unfold Ym12_wordHere; first | exact hw.elim | omega))) (Sg.mono qhc7 (fun c hw => by unfold Ym12_isWord at hw; unfold Ym12_wordHere; first | exact hw.elim | omega))) (Sg.mono qhc8 (fun c hw => by unfold Ym12_isWord at hw; unfold Ym12_wordHere; first | exact hw.elim | omega))) (Sg.mono qhc9 (fun c hw => by unfold Ym12_isWord at hw; unfold Ym12_wordHere; first | exact hw.elim | omega))) (Sg.mono qhc10 (fun c hw => by unfold Ym12_isWord at hw; unfold Ym12_wordHere; first | exact hw.elim | omega))) (Sg.mono qhc11 (fun c hw => by unfold Ym12_isWord at hw; unfold Ym12_wordHere; first | exact hw.elim | omega))) (Sg.mono qhc12 (fun c hw => by unfold Ym12_isWord at hw; unfold Ym12_wordHere; first | exact hw.elim | omega)))
                      · have e := Option.some.inj h
                        subst e
                        exact (Sg.trans (Sg.trans (Sg.trans (Sg.trans (Sg.trans (Sg.trans (Sg.trans (Sg.trans (Sg.trans (Sg.trans (Sg.trans (Sg.rf _ _) (Sg.mono qhc1 (fun c hw => by unfold Ym12_isWord at hw; unfold Ym12_wordHere; first | exact hw.elim | omega))) (Sg.mono qhc2 (fun c hw => by unfold Ym12_isWord at hw; unfold Ym12_wordHere; first | exact hw.elim | omega))) (Sg.mono qhc3 (fun c hw => by unfold Ym12_isWord at hw; unfold Ym12_wordHere; first | exact hw.elim | omega))) (Sg.mono qhc4 (fun c hw => by unfold Ym12_isWord at hw; unfold Ym12_wordHere; first | exact hw.elim | omega))) (Sg.mono qhc5 (fun c hw => by unfold Ym12_isWord at hw; unfold Ym12_wordHere; first | exact hw.elim | omega))) (Sg.mono qhc6 (fun c hw => by unfold Ym12_isWord at hw; unfold Ym12_wordHere; first | exact hw.elim | omega))) (Sg.mono qhc7 (fun c hw => by unfold Ym12_isWord at hw; unfold Ym12_wordHere; first | exact hw.elim | omega))) (Sg.mono qhc8 (fun c hw => by unfold Ym12_isWord at hw; unfold Ym12_wordHere; first | exact hw.elim | omega))) (Sg.mono qhc9 (fun c hw => by unfold Ym12_isWord at hw; unfold Ym12_wordHere; first | exact hw.elim | omega))) (Sg.mono qhc10 (fun c hw => by unfold Ym12_isWord at hw; unfold Ym12_wordHere; first | exact hw.elim | omega))) (Sg.mono qhc11 (fun c hw => by unfold Ym12_isWord at hw; unfold Ym12_wordHere; first | exact hw.elim | omega)))
                    · have e := Option.some.inj h
                      subst e
                      exact (Sg.trans (Sg.trans (Sg.trans (Sg.trans (Sg.trans (Sg.trans (Sg.trans (Sg.trans (Sg.trans (Sg.trans (Sg.rf _ _) (Sg.mono qhc1 (fun c hw => by unfold Ym12_isWord at hw; unfold Ym12_wordHere; first | exact hw.elim | omega))) (Sg.mono qhc2 (fun c hw => by unfold Ym12_isWord at hw; unfold Ym12_wordHere; first | exact hw.elim | omega))) (Sg.mono qhc3 (fun c hw => by unfold Ym12_isWord at hw; unfold Ym12_wordHere; first | exact hw.elim | omega))) (Sg.mono qhc4 (fun c hw => by unfold Ym12_isWord at hw; unfold Ym12_wordHere; first | exact hw.elim | omega))) (Sg.mono qhc5 (fun c hw => by unfold Ym12_isWord at hw; unfold Ym12_wordHere; first | exact hw.elim | omega))) (Sg.mono qhc6 (fun c hw => by unfold Ym12_isWord at hw; unfold Ym12_wordHere; first | exact hw.elim | omega))) (Sg.mono qhc7 (fun c hw => by unfold Ym12_isWord at hw; unfold Ym12_wordHere; first | exact hw.elim | omega))) (Sg.mono qhc8 (fun c hw => by unfold Ym12_isWord at hw; unfold Ym12_wordHere; first | exact hw.elim | omega))) (Sg.mono qhc9 (fun c hw => by unfold Ym12_isWord at hw; unfold Ym12_wordHere; first | exact hw.elim | omega))) (Sg.mono qhc10 (fun c hw => by unfold Ym12_isWord at hw; unfold Ym12_wordHere; first | exact hw.elim | omega)))
                  · have e := Option.some.inj h
                    subst e
                    exact (Sg.trans (Sg.trans (Sg.trans (Sg.trans (Sg.trans (Sg.trans (Sg.trans (Sg.trans (Sg.trans (Sg.rf _ _) (Sg.mono qhc1 (fun c hw => by unfold Ym12_isWord at hw; unfold Ym12_wordHere; first | exact hw.elim | omega))) (Sg.mono qhc2 (fun c hw => by unfold Ym12_isWord at hw; unfold Ym12_wordHere; first | exact hw.elim | omega))) (Sg.mono qhc3 (fun c hw => by unfold Ym12_isWord at hw; unfold Ym12_wordHere; first | exact hw.elim | omega))) (Sg.mono qhc4 (fun c hw => by unfold Ym12_isWord at hw; unfold Ym12_wordHere; first | exact hw.elim | omega))) (Sg.mono qhc5 (fun c hw => by unfold Ym12_isWord at hw; unfold Ym12_wordHere; first | exact hw.elim | omega))) (Sg.mono qhc6 (fun c hw => by unfold Ym12_isWord at hw; unfold Ym12_wordHere; first | exact hw.elim | omega))) (Sg.mono qhc7 (fun c hw => by unfold Ym12_isWord at hw; unfold Ym12_wordHere; first | exact hw.elim | omega))) (Sg.mono qhc8 (fun c hw => by unfold Ym12_isWord at hw; unfold Ym12_wordHere; first | exact hw.elim | omega))) (Sg.mono qhc9 (fun c hw => by unfold Ym12_isWord at hw; unfold Ym12_wordHere; first | exact hw.elim | omega)))
                · have e := Option.some.inj h
                  subst e
                  exact (Sg.trans (Sg.trans (Sg.trans (Sg.trans (Sg.trans (Sg.trans (Sg.trans (Sg.trans (Sg.rf _ _) (Sg.mono qhc1 (fun c hw => by unfold Ym12_isWord at hw; unfold Ym12_wordHere; first | exact hw.elim | omega))) (Sg.mono qhc2 (fun c hw => by unfold Ym12_isWord at hw; unfold Ym12_wordHere; first | exact hw.elim | omega))) (Sg.mono qhc3 (fun c hw => by unfold Ym12_isWord at hw; unfold Ym12_wordHere; first | exact hw.elim | omega))) (Sg.mono qhc4 (fun c hw => by unfold Ym12_isWord at hw; unfold Ym12_wordHere; first | exact hw.elim | omega))) (Sg.mono qhc5 (fun c hw => by unfold Ym12_isWord at hw; unfold Ym12_wordHere; first | exact hw.elim | omega))) (Sg.mono qhc6 (fun c hw => by unfold Ym12_isWord at hw; unfold Ym12_wordHere; first | exact hw.elim | omega))) (Sg.mono qhc7 (fun c hw => by unfold Ym12_isWord at hw; unfold Ym12_wordHere; first | exact hw.elim | omega))) (Sg.mono qhc8 (fun c hw => by unfold Ym12_isWord at hw; unfold Ym12_wordHere; first | exact hw.elim | omega)))
              · have e := Option.some.inj h
                subst e
                exact (Sg.trans (Sg.trans (Sg.trans (Sg.trans (Sg.trans (Sg.trans (Sg.trans (Sg.rf _ _) (Sg.mono qhc1 (fun c hw => by unfold Ym12_isWord at hw; unfold Ym12_wordHere; first | exact hw.elim | omega))) (Sg.mono qhc2 (fun c hw => by unfold Ym12_isWord at hw; unfold Ym12_wordHere; first | exact hw.elim | omega))) (Sg.mono qhc3 (fun c hw => by unfold Ym12_isWord at hw; unfold Ym12_wordHere; first | exact hw.elim | omega))) (Sg.mono qhc4 (fun c hw => by unfold Ym12_isWord at hw; unfold Ym12_wordHere; first | exact hw.elim | omega))) (Sg.mono qhc5 (fun c hw => by unfold Ym12_isWord at hw; unfold Ym12_wordHere; first | exact hw.elim | omega))) (Sg.mono qhc6 (fun c hw => by unfold Ym12_isWord at hw; unfold Ym12_wordHere; first | exact hw.elim | omega))) (Sg.mono qhc7 (fun c hw => by unfold Ym12_isWord at hw; unfold Ym12_wordHere; first | exact hw.elim | omega)))
            · have e := Option.some.inj h
              subst e
              exact (Sg.trans (Sg.trans (Sg.trans (Sg.trans (Sg.trans (Sg.trans (Sg.rf _ _) (Sg.mono qhc1 (fun c hw => by unfold Ym12_isWord at hw; unfold Ym12_wordHere; first | exact hw.elim | omega))) (Sg.mono qhc2 (fun c hw => by unfold Ym12_isWord at hw; unfold Ym12_wordHere; first | exact hw.elim | omega))) (Sg.mono qhc3 (fun c hw => by unfold Ym12_isWord at hw; unfold Ym12_wordHere; first | exact hw.elim | omega))) (Sg.mono qhc4 (fun c hw => by unfold Ym12_isWord at hw; unfold Ym12_wordHere; first | exact hw.elim | omega))) (Sg.mono qhc5 (fun c hw => by unfold Ym12_isWord at hw; unfold Ym12_wordHere; first | exact hw.elim | omega))) (Sg.mono qhc6 (fun c hw => by unfold Ym12_isWord at hw; unfold Ym12_wordHere; first | exact hw.elim | omega)))
          · have e := Option.some.inj h
            subst e
            exact (Sg.trans (Sg.trans (Sg.trans (Sg.trans (Sg.trans (Sg.rf _ _) (Sg.mono qhc1 (fun c hw => by unfold Ym12_isWord at hw; unfold Ym12_wordHere; first | exact hw.elim | omega))) (Sg.mono qhc2 (fun c hw => by unfold Ym12_isWord at hw; unfold Ym12_wordHere; first | exact hw.elim | omega))) (Sg.mono qhc3 (fun c hw => by unfold Ym12_isWord at hw; unfold Ym12_wordHere; first | exact hw.elim | omega))) (Sg.mono qhc4 (fun c hw => by unfold Ym12_isWord at hw; unfold Ym12_wordHere; first | exact hw.elim | omega))) (Sg.mono qhc5 (fun c hw => by unfold Ym12_isWord at hw; unfold Ym12_wordHere; first | exact hw.elim | omega)))
        · have e := Option.some.inj h
          subst e
          exact (Sg.trans (Sg.trans (Sg.trans (Sg.trans (Sg.rf _ _) (Sg.mono qhc1 (fun c hw => by unfold Ym12_isWord at hw; unfold Ym12_wordHere; first | exact hw.elim | omega))) (Sg.mono qhc2 (fun c hw => by unfold Ym12_isWord at hw; unfold Ym12_wordHere; first | exact hw.elim | omega))) (Sg.mono qhc3 (fun c hw => by unfold Ym12_isWord at hw; unfold Ym12_wordHere; first | exact hw.elim | omega))) (Sg.mono qhc4 (fun c hw => by unfold Ym12_isWord at hw; unfold Ym12_wordHere; first | exact hw.elim | omega)))
      · have e := Option.some.inj h
        subst e
        exact (Sg.trans (Sg.trans (Sg.trans (Sg.rf _ _) (Sg.mono qhc1 (fun c hw => by unfold Ym12_isWord at hw; unfold Ym12_wordHere; first | exact hw.elim | omega))) (Sg.mono qhc2 (fun c hw => by unfold Ym12_isWord at hw; unfold Ym12_wordHere; first | exact hw.elim | omega))) (Sg.mono qhc3 (fun c hw => by unfold Ym12_isWord at hw; unfold Ym12_wordHere; first | exact hw.elim | omega)))
    · have e := Option.some.inj h
      subst e
      exact (Sg.trans (Sg.trans (Sg.rf _ _) (Sg.mono qhc1 (fun c hw => by unfold Ym12_isWord at hw; unfold Ym12_wordHere; first | exact hw.elim | omega))) (Sg.mono qhc2 (fun c hw => by unfold Ym12_isWord at hw; unfold Ym12_wordHere; first | exact hw.elim | omega)))
  · have e := Option.some.inj h
    subst e
    exact (Sg.trans (Sg.rf _ _) (Sg.mono qhc1 (fun c hw => by unfold Ym12_isWord at hw; unfold Ym12_wordHere; first | exact hw.elim | omega)))
def Ym12_puts (c : Nat) : Prop := False
set_option maxHeartbeats 1000000 in
theorem f12_puts_g {F : Nat} {i1 : Int32} {i2 : Int32} {σ : Mem} {r : Mem} (h : m12_puts F i1 i2 σ = some r) : Sg (Ym12_puts) σ r := by
  unfold m12_puts at h
  have ⟨hg, h⟩ := g_gd h
  have hb := inB_lt hg
  have ⟨hg, h⟩ := g_gd h
  have hb := inB_lt hg
  have ⟨hg, h⟩ := g_gd h
  have hb := inB_lt hg
  have ⟨hg, h⟩ := g_gd h
  have hb := inB_lt hg
  have e := Option.some.inj h
  subst e
  exact (Sg.sI (Sg.sI (Sg.rf _ _)))
def Ym12_makes (c : Nat) : Prop := False
set_option maxHeartbeats 1000000 in
theorem f12_makes_g {F : Nat} {i1 : Int32} {σ : Mem} {r : Int32 × Mem} (h : m12_makes F i1 σ = some r) : Sg (Ym12_makes) σ r.2 := by
  unfold m12_makes at h
  rcases g_if h with ⟨hq, h⟩ | ⟨hq, h⟩
  · have ⟨_, hc1, h⟩ := b_some h
    have qhc1 := f12_fails_g hc1
    have ⟨hg, h⟩ := g_gd h
    have e := Option.some.inj h
    subst e
    exact (Sg.trans (Sg.rf _ _) (Sg.mono qhc1 (fun c hw => by unfold Ym12_fails at hw; unfold Ym12_makes; first | exact hw.elim | omega)))
  · have e := Option.some.inj h
    subst e
    exact (Sg.sI (Sg.rf _ _))
def Ym12_opens (c : Nat) : Prop := False
set_option maxHeartbeats 1000000 in
theorem f12_opens_g {F : Nat} {i1 : Int32} {σ : Mem} {r : Int32 × Mem} (h : m12_opens F i1 σ = some r) : Sg (Ym12_opens) σ r.2 := by
  unfold m12_opens at h
  rcases g_if h with ⟨hq, h⟩ | ⟨hq, h⟩
  · have ⟨_, hc1, h⟩ := b_some h
    have qhc1 := f12_fails_g hc1
    have ⟨hg, h⟩ := g_gd h
    have e := Option.some.inj h
    subst e
    exact (Sg.trans (Sg.rf _ _) (Sg.mono qhc1 (fun c hw => by unfold Ym12_fails at hw; unfold Ym12_opens; first | exact hw.elim | omega)))
  · have ⟨hg, h⟩ := g_gd h
    have hb := inB_lt hg
    have e := Option.some.inj h
    subst e
    exact (Sg.sI (Sg.sI (Sg.sI (Sg.rf _ _))))
def Ym12_settles (c : Nat) : Prop := False
set_option maxHeartbeats 1000000 in
theorem f12_settles_g0 {F : Nat} {i1 : Int32} {r : Mem} : ∀ (n : Nat) (σ : Mem), m12_settles_0 F i1 n σ = some r → Sg (Ym12_settles) σ r := by
  intro n
  induction n with
  | zero => intro σ h; unfold m12_settles_0 at h; cases h
  | succ n ih =>
    intro σ h
    unfold m12_settles_0 at h
    rcases g_if h with ⟨hq, h⟩ | ⟨hq, h⟩
    · have e := Option.some.inj h
      subst e
      exact (Sg.rf _ _)
    · have ⟨hg, h⟩ := g_gd h
      have hb := inB_lt hg
      have ⟨_, hc1, h⟩ := b_some h
      rcases g_if h with ⟨hq, h⟩ | ⟨hq, h⟩
      · have e := Option.some.inj h
        subst e
        exact (Sg.rf _ _)
      · have ⟨hg, h⟩ := g_gd h
        have hb := inB_lt hg
        have ⟨_, hc2, h⟩ := b_some h
        have qhc2 := f12_puts_g hc2
        have ⟨hg, h⟩ := g_gd h
        have hb := inB_lt hg
        rcases g_if h with ⟨hq, h⟩ | ⟨hq, h⟩
        · exact Sg.trans (Sg.sI (Sg.trans (Sg.sI (Sg.rf _ _)) (Sg.mono qhc2 (fun c hw => by unfold Ym12_puts at hw; unfold Ym12_settles; first | exact hw.elim | omega)))) (ih _ h)
        · exact Sg.trans (Sg.trans (Sg.sI (Sg.rf _ _)) (Sg.mono qhc2 (fun c hw => by unfold Ym12_puts at hw; unfold Ym12_settles; first | exact hw.elim | omega))) (ih _ h)
set_option maxHeartbeats 1000000 in
theorem f12_settles_g {F : Nat} {i1 : Int32} {σ : Mem} {r : Mem} (h : m12_settles F i1 σ = some r) : Sg (Ym12_settles) σ r := by
  unfold m12_settles at h
  exact (f12_settles_g0 (F := F) F _ h)
def Ym12_value (c : Nat) : Prop := False
set_option maxHeartbeats 1000000 in
theorem f12_value_g {F : Nat} {σ : Mem} {r : Int32 × Mem} (h : m12_value F  σ = some r) : Sg (Ym12_value) σ r.2 := by
  unfold m12_value at h
  have ⟨_, hc1, h⟩ := b_some h
  have qhc1 := f12_see_g hc1
  have ⟨_, hc2, h⟩ := b_some h
  rcases g_if h with ⟨hq, h⟩ | ⟨hq, h⟩
  · have ⟨_, hc3, h⟩ := b_some h
    have qhc3 := f12_wordHere_g hc3
    rcases g_if h with ⟨hq, h⟩ | ⟨hq, h⟩
    · have ⟨_, hc4, h⟩ := b_some h
      have qhc4 := f12_makes_g hc4
      rcases g_if h with ⟨hq, h⟩ | ⟨hq, h⟩
      · have e := Option.some.inj h
        subst e
        exact (Sg.trans (Sg.trans (Sg.trans (Sg.rf _ _) (Sg.mono qhc1 (fun c hw => by unfold Ym12_see at hw; unfold Ym12_value; first | exact hw.elim | omega))) (Sg.mono qhc3 (fun c hw => by unfold Ym12_wordHere at hw; unfold Ym12_value; first | exact hw.elim | omega))) (Sg.mono qhc4 (fun c hw => by unfold Ym12_makes at hw; unfold Ym12_value; first | exact hw.elim | omega)))
      · have ⟨_, hc5, h⟩ := b_some h
        have qhc5 := f12_passWord_g hc5
        have ⟨_, hc6, h⟩ := b_some h
        have qhc6 := f12_puts_g hc6
        have e := Option.some.inj h
        subst e
        exact (Sg.trans (Sg.trans (Sg.trans (Sg.trans (Sg.trans (Sg.rf _ _) (Sg.mono qhc1 (fun c hw => by unfold Ym12_see at hw; unfold Ym12_value; first | exact hw.elim | omega))) (Sg.mono qhc3 (fun c hw => by unfold Ym12_wordHere at hw; unfold Ym12_value; first | exact hw.elim | omega))) (Sg.mono qhc4 (fun c hw => by unfold Ym12_makes at hw; unfold Ym12_value; first | exact hw.elim | omega))) (Sg.mono qhc5 (fun c hw => by unfold Ym12_passWord at hw; unfold Ym12_value; first | exact hw.elim | omega))) (Sg.mono qhc6 (fun c hw => by unfold Ym12_puts at hw; unfold Ym12_value; first | exact hw.elim | omega)))
    · have ⟨_, hc4, h⟩ := b_some h
      have qhc4 := f12_fails_g hc4
      have ⟨hg, h⟩ := g_gd h
      have e := Option.some.inj h
      subst e
      exact (Sg.trans (Sg.trans (Sg.trans (Sg.rf _ _) (Sg.mono qhc1 (fun c hw => by unfold Ym12_see at hw; unfold Ym12_value; first | exact hw.elim | omega))) (Sg.mono qhc3 (fun c hw => by unfold Ym12_wordHere at hw; unfold Ym12_value; first | exact hw.elim | omega))) (Sg.mono qhc4 (fun c hw => by unfold Ym12_fails at hw; unfold Ym12_value; first | exact hw.elim | omega)))
  · have ⟨_, hc3, h⟩ := b_some h
    have qhc3 := f12_numberHere_g hc3
    rcases g_if h with ⟨hq, h⟩ | ⟨hq, h⟩
    · have e := Option.some.inj h
      subst e
      exact (Sg.trans (Sg.trans (Sg.rf _ _) (Sg.mono qhc1 (fun c hw => by unfold Ym12_see at hw; unfold Ym12_value; first | exact hw.elim | omega))) (Sg.mono qhc3 (fun c hw => by unfold Ym12_numberHere at hw; unfold Ym12_value; first | exact hw.elim | omega)))
    · have ⟨_, hc4, h⟩ := b_some h
      have qhc4 := f12_makes_g hc4
      rcases g_if h with ⟨hq, h⟩ | ⟨hq, h⟩
      · have e := Option.some.inj h
        subst e
        exact (Sg.trans (Sg.trans (Sg.trans (Sg.rf _ _) (Sg.mono qhc1 (fun c hw => by unfold Ym12_see at hw; unfold Ym12_value; first | exact hw.elim | omega))) (Sg.mono qhc3 (fun c hw => by unfold Ym12_numberHere at hw; unfold Ym12_value; first | exact hw.elim | omega))) (Sg.mono qhc4 (fun c hw => by unfold Ym12_makes at hw; unfold Ym12_value; first | exact hw.elim | omega)))
      · have ⟨_, hc5, h⟩ := b_some h
        have qhc5 := f12_puts_g hc5
        have e := Option.some.inj h
        subst e
        exact (Sg.trans (Sg.trans (Sg.trans (Sg.trans (Sg.rf _ _) (Sg.mono qhc1 (fun c hw => by unfold Ym12_see at hw; unfold Ym12_value; first | exact hw.elim | omega))) (Sg.mono qhc3 (fun c hw => by unfold Ym12_numberHere at hw; unfold Ym12_value; first | exact hw.elim | omega))) (Sg.mono qhc4 (fun c hw => by unfold Ym12_makes at hw; unfold Ym12_value; first | exact hw.elim | omega))) (Sg.mono qhc5 (fun c hw => by unfold Ym12_puts at hw; unfold Ym12_value; first | exact hw.elim | omega)))
def Ym12_term (c : Nat) : Prop := False
set_option maxHeartbeats 1000000 in
theorem f12_term_g74 {F : Nat} {r : Int32 × Mem} {k9 : Mem → Option (Int32 × Mem)} (hk9 : ∀ (σ : Mem), k9 σ = some r → Sg (Ym12_term) σ r.2) : ∀ (s0 : Int32) (σ : Mem), m12_term_74 F k9 s0 σ = some r → Sg (Ym12_term) σ r.2 := by
  intro s0 σ h
  unfold m12_term_74 at h
  have ⟨_, hc1, h⟩ := b_some h
  have qhc1 := f12_value_g hc1
  rcases g_if h with ⟨hq, h⟩ | ⟨hq, h⟩
  · have e := Option.some.inj h
    subst e
    exact (Sg.trans (Sg.sI (Sg.rf _ _)) (Sg.mono qhc1 (fun c hw => by unfold Ym12_value at hw; unfold Ym12_term; first | exact hw.elim | omega)))
  · have ⟨_, hc2, h⟩ := b_some h
    have qhc2 := f12_puts_g hc2
    exact Sg.trans (Sg.trans (Sg.trans (Sg.sI (Sg.rf _ _)) (Sg.mono qhc1 (fun c hw => by unfold Ym12_value at hw; unfold Ym12_term; first | exact hw.elim | omega))) (Sg.mono qhc2 (fun c hw => by unfold Ym12_puts at hw; unfold Ym12_term; first | exact hw.elim | omega))) (hk9 _ h)
set_option maxHeartbeats 1000000 in
theorem f12_term_g36 {F : Nat} {r : Int32 × Mem} {k9 : Mem → Option (Int32 × Mem)} (hk9 : ∀ (σ : Mem), k9 σ = some r → Sg (Ym12_term) σ r.2) : ∀ (σ : Mem), m12_term_36 F k9 σ = some r → Sg (Ym12_term) σ r.2 := by
  intro σ h
  unfold m12_term_36 at h
  have ⟨hg, h⟩ := g_gd h
  have hb := inB_lt hg
  rcases g_if h with ⟨hq, h⟩ | ⟨hq, h⟩
  · exact Sg.trans (Sg.rf _ _) (f12_term_g74 (F := F) (fun _ h => (hk9 _ h)) _ _ h)
  · have ⟨hg, h⟩ := g_gd h
    have hb := inB_lt hg
    rcases g_if h with ⟨hq, h⟩ | ⟨hq, h⟩
    · exact Sg.trans (Sg.rf _ _) (f12_term_g74 (F := F) (fun _ h => (hk9 _ h)) _ _ h)
    · exact Sg.trans (Sg.rf _ _) (f12_term_g74 (F := F) (fun _ h => (hk9 _ h)) _ _ h)
set_option maxHeartbeats 1000000 in
theorem f12_term_g9 {F : Nat} {r : Int32 × Mem} : ∀ (n : Nat) (σ : Mem), m12_term_9 F n σ = some r → Sg (Ym12_term) σ r.2 := by
  intro n
  induction n with
  | zero => intro σ h; unfold m12_term_9 at h; cases h
  | succ n ih =>
    intro σ h
    unfold m12_term_9 at h
    have ⟨_, hc1, h⟩ := b_some h
    have qhc1 := f12_see_g hc1
    rcases g_if h with ⟨hq, h⟩ | ⟨hq, h⟩
    · exact Sg.trans (Sg.trans (Sg.rf _ _) (Sg.mono qhc1 (fun c hw => by unfold Ym12_see at hw; unfold Ym12_term; first | exact hw.elim | omega))) (f12_term_g36 (F := F) (fun _ h => (ih _ h)) _ h)
    · have ⟨_, hc2, h⟩ := b_some h
      have qhc2 := f12_see_g hc2
      rcases g_if h with ⟨hq, h⟩ | ⟨hq, h⟩
      · exact Sg.trans (Sg.trans (Sg.trans (Sg.rf _ _) (Sg.mono qhc1 (fun c hw => by unfold Ym12_see at hw; unfold Ym12_term; first | exact hw.elim | omega))) (Sg.mono qhc2 (fun c hw => by unfold Ym12_see at hw; unfold Ym12_term; first | exact hw.elim | omega))) (f12_term_g36 (F := F) (fun _ h => (ih _ h)) _ h)
      · have ⟨_, hc3, h⟩ := b_some h
        have qhc3 := f12_see_g hc3
        rcases g_if h with ⟨hq, h⟩ | ⟨hq, h⟩
        · exact Sg.trans (Sg.trans (Sg.trans (Sg.trans (Sg.rf _ _) (Sg.mono qhc1 (fun c hw => by unfold Ym12_see at hw; unfold Ym12_term; first | exact hw.elim | omega))) (Sg.mono qhc2 (fun c hw => by unfold Ym12_see at hw; unfold Ym12_term; first | exact hw.elim | omega))) (Sg.mono qhc3 (fun c hw => by unfold Ym12_see at hw; unfold Ym12_term; first | exact hw.elim | omega))) (f12_term_g36 (F := F) (fun _ h => (ih _ h)) _ h)
        · have e := Option.some.inj h
          subst e
          exact (Sg.trans (Sg.trans (Sg.trans (Sg.rf _ _) (Sg.mono qhc1 (fun c hw => by unfold Ym12_see at hw; unfold Ym12_term; first | exact hw.elim | omega))) (Sg.mono qhc2 (fun c hw => by unfold Ym12_see at hw; unfold Ym12_term; first | exact hw.elim | omega))) (Sg.mono qhc3 (fun c hw => by unfold Ym12_see at hw; unfold Ym12_term; first | exact hw.elim | omega)))
set_option maxHeartbeats 1000000 in
theorem f12_term_g {F : Nat} {σ : Mem} {r : Int32 × Mem} (h : m12_term F  σ = some r) : Sg (Ym12_term) σ r.2 := by
  unfold m12_term at h
  have ⟨_, hc1, h⟩ := b_some h
  have qhc1 := f12_value_g hc1
  rcases g_if h with ⟨hq, h⟩ | ⟨hq, h⟩
  · have e := Option.some.inj h
    subst e
    exact (Sg.trans (Sg.rf _ _) (Sg.mono qhc1 (fun c hw => by unfold Ym12_value at hw; unfold Ym12_term; first | exact hw.elim | omega)))
  · exact Sg.trans (Sg.trans (Sg.rf _ _) (Sg.mono qhc1 (fun c hw => by unfold Ym12_value at hw; unfold Ym12_term; first | exact hw.elim | omega))) (f12_term_g9 (F := F) F _ h)
def Ym12_sum (c : Nat) : Prop := False
set_option maxHeartbeats 1000000 in
theorem f12_sum_g46 {F : Nat} {r : Int32 × Mem} {k9 : Mem → Option (Int32 × Mem)} (hk9 : ∀ (σ : Mem), k9 σ = some r → Sg (Ym12_sum) σ r.2) : ∀ (s0 : Int32) (σ : Mem), m12_sum_46 F k9 s0 σ = some r → Sg (Ym12_sum) σ r.2 := by
  intro s0 σ h
  unfold m12_sum_46 at h
  have ⟨_, hc1, h⟩ := b_some h
  have qhc1 := f12_term_g hc1
  rcases g_if h with ⟨hq, h⟩ | ⟨hq, h⟩
  · have e := Option.some.inj h
    subst e
    exact (Sg.trans (Sg.sI (Sg.rf _ _)) (Sg.mono qhc1 (fun c hw => by unfold Ym12_term at hw; unfold Ym12_sum; first | exact hw.elim | omega)))
  · have ⟨_, hc2, h⟩ := b_some h
    have qhc2 := f12_puts_g hc2
    exact Sg.trans (Sg.trans (Sg.trans (Sg.sI (Sg.rf _ _)) (Sg.mono qhc1 (fun c hw => by unfold Ym12_term at hw; unfold Ym12_sum; first | exact hw.elim | omega))) (Sg.mono qhc2 (fun c hw => by unfold Ym12_puts at hw; unfold Ym12_sum; first | exact hw.elim | omega))) (hk9 _ h)
set_option maxHeartbeats 1000000 in
theorem f12_sum_g27 {F : Nat} {r : Int32 × Mem} {k9 : Mem → Option (Int32 × Mem)} (hk9 : ∀ (σ : Mem), k9 σ = some r → Sg (Ym12_sum) σ r.2) : ∀ (σ : Mem), m12_sum_27 F k9 σ = some r → Sg (Ym12_sum) σ r.2 := by
  intro σ h
  unfold m12_sum_27 at h
  have ⟨hg, h⟩ := g_gd h
  have hb := inB_lt hg
  rcases g_if h with ⟨hq, h⟩ | ⟨hq, h⟩
  · exact Sg.trans (Sg.rf _ _) (f12_sum_g46 (F := F) (fun _ h => (hk9 _ h)) _ _ h)
  · exact Sg.trans (Sg.rf _ _) (f12_sum_g46 (F := F) (fun _ h => (hk9 _ h)) _ _ h)
set_option maxHeartbeats 1000000 in
theorem f12_sum_g9 {F : Nat} {r : Int32 × Mem} : ∀ (n : Nat) (σ : Mem), m12_sum_9 F n σ = some r → Sg (Ym12_sum) σ r.2 := by
  intro n
  induction n with
  | zero => intro σ h; unfold m12_sum_9 at h; cases h
  | succ n ih =>
    intro σ h
    unfold m12_sum_9 at h
    have ⟨_, hc1, h⟩ := b_some h
    have qhc1 := f12_see_g hc1
    rcases g_if h with ⟨hq, h⟩ | ⟨hq, h⟩
    · exact Sg.trans (Sg.trans (Sg.rf _ _) (Sg.mono qhc1 (fun c hw => by unfold Ym12_see at hw; unfold Ym12_sum; first | exact hw.elim | omega))) (f12_sum_g27 (F := F) (fun _ h => (ih _ h)) _ h)
    · have ⟨_, hc2, h⟩ := b_some h
      have qhc2 := f12_see_g hc2
      rcases g_if h with ⟨hq, h⟩ | ⟨hq, h⟩
      · exact Sg.trans (Sg.trans (Sg.trans (Sg.rf _ _) (Sg.mono qhc1 (fun c hw => by unfold Ym12_see at hw; unfold Ym12_sum; first | exact hw.elim | omega))) (Sg.mono qhc2 (fun c hw => by unfold Ym12_see at hw; unfold Ym12_sum; first | exact hw.elim | omega))) (f12_sum_g27 (F := F) (fun _ h => (ih _ h)) _ h)
      · have e := Option.some.inj h
        subst e
        exact (Sg.trans (Sg.trans (Sg.rf _ _) (Sg.mono qhc1 (fun c hw => by unfold Ym12_see at hw; unfold Ym12_sum; first | exact hw.elim | omega))) (Sg.mono qhc2 (fun c hw => by unfold Ym12_see at hw; unfold Ym12_sum; first | exact hw.elim | omega)))
set_option maxHeartbeats 1000000 in
theorem f12_sum_g {F : Nat} {σ : Mem} {r : Int32 × Mem} (h : m12_sum F  σ = some r) : Sg (Ym12_sum) σ r.2 := by
  unfold m12_sum at h
  have ⟨_, hc1, h⟩ := b_some h
  have qhc1 := f12_term_g hc1
  rcases g_if h with ⟨hq, h⟩ | ⟨hq, h⟩
  · have e := Option.some.inj h
    subst e
    exact (Sg.trans (Sg.rf _ _) (Sg.mono qhc1 (fun c hw => by unfold Ym12_term at hw; unfold Ym12_sum; first | exact hw.elim | omega)))
  · exact Sg.trans (Sg.trans (Sg.rf _ _) (Sg.mono qhc1 (fun c hw => by unfold Ym12_term at hw; unfold Ym12_sum; first | exact hw.elim | omega))) (f12_sum_g9 (F := F) F _ h)
def Ym12_compare (c : Nat) : Prop := False
set_option maxHeartbeats 1000000 in
theorem f12_compare_g152 {F : Nat} {r : Int32 × Mem} : ∀ (s0 : Int32) (σ : Mem), m12_compare_152 F s0 σ = some r → Sg (Ym12_compare) σ r.2 := by
  intro s0 σ h
  unfold m12_compare_152 at h
  have ⟨_, hc1, h⟩ := b_some h
  have qhc1 := f12_sum_g hc1
  rcases g_if h with ⟨hq, h⟩ | ⟨hq, h⟩
  · have e := Option.some.inj h
    subst e
    exact (Sg.trans (Sg.rf _ _) (Sg.mono qhc1 (fun c hw => by unfold Ym12_sum at hw; unfold Ym12_compare; first | exact hw.elim | omega)))
  · have ⟨_, hc2, h⟩ := b_some h
    have qhc2 := f12_puts_g hc2
    have e := Option.some.inj h
    subst e
    exact (Sg.trans (Sg.trans (Sg.rf _ _) (Sg.mono qhc1 (fun c hw => by unfold Ym12_sum at hw; unfold Ym12_compare; first | exact hw.elim | omega))) (Sg.mono qhc2 (fun c hw => by unfold Ym12_puts at hw; unfold Ym12_compare; first | exact hw.elim | omega)))
set_option maxHeartbeats 1000000 in
theorem f12_compare_g105 {F : Nat} {r : Int32 × Mem} : ∀ (x1 : Int32) (x2 : Int32) (x3 : Int32) (σ : Mem), m12_compare_105 F x1 x2 x3 σ = some r → Sg (Ym12_compare) σ r.2 := by
  intro x1 x2 x3 σ h
  unfold m12_compare_105 at h
  have ⟨_, hc1, h⟩ := b_some h
  have qhc1 := f12_makes_g hc1
  rcases g_if h with ⟨hq, h⟩ | ⟨hq, h⟩
  · have e := Option.some.inj h
    subst e
    exact (Sg.trans (Sg.rf _ _) (Sg.mono qhc1 (fun c hw => by unfold Ym12_makes at hw; unfold Ym12_compare; first | exact hw.elim | omega)))
  · rcases g_if h with ⟨hq, h⟩ | ⟨hq, h⟩
    · rcases g_if h with ⟨hq, h⟩ | ⟨hq, h⟩
      · exact Sg.trans (Sg.trans (Sg.rf _ _) (Sg.mono qhc1 (fun c hw => by unfold Ym12_makes at hw; unfold Ym12_compare; first | exact hw.elim | omega))) (f12_compare_g152 (F := F) _ _ h)
      · exact Sg.trans (Sg.trans (Sg.rf _ _) (Sg.mono qhc1 (fun c hw => by unfold Ym12_makes at hw; unfold Ym12_compare; first | exact hw.elim | omega))) (f12_compare_g152 (F := F) _ _ h)
    · rcases g_if h with ⟨hq, h⟩ | ⟨hq, h⟩
      · exact Sg.trans (Sg.trans (Sg.rf _ _) (Sg.mono qhc1 (fun c hw => by unfold Ym12_makes at hw; unfold Ym12_compare; first | exact hw.elim | omega))) (f12_compare_g152 (F := F) _ _ h)
      · rcases g_if h with ⟨hq, h⟩ | ⟨hq, h⟩
        · exact Sg.trans (Sg.trans (Sg.rf _ _) (Sg.mono qhc1 (fun c hw => by unfold Ym12_makes at hw; unfold Ym12_compare; first | exact hw.elim | omega))) (f12_compare_g152 (F := F) _ _ h)
        · exact Sg.trans (Sg.trans (Sg.rf _ _) (Sg.mono qhc1 (fun c hw => by unfold Ym12_makes at hw; unfold Ym12_compare; first | exact hw.elim | omega))) (f12_compare_g152 (F := F) _ _ h)
set_option maxHeartbeats 1000000 in
theorem f12_compare_g90 {F : Nat} {r : Int32 × Mem} : ∀ (x1 : Int32) (x2 : Int32) (s0 : Int32) (σ : Mem), m12_compare_90 F x1 x2 s0 σ = some r → Sg (Ym12_compare) σ r.2 := by
  intro x1 x2 s0 σ h
  unfold m12_compare_90 at h
  rcases g_if h with ⟨hq, h⟩ | ⟨hq, h⟩
  · exact Sg.trans (Sg.rf _ _) (f12_compare_g105 (F := F) _ _ _ _ h)
  · exact Sg.trans (Sg.sI (Sg.rf _ _)) (f12_compare_g105 (F := F) _ _ _ _ h)
set_option maxHeartbeats 1000000 in
theorem f12_compare_g89 {F : Nat} {r : Int32 × Mem} {k90 : Int32 → Int32 → Int32 → Mem → Option (Int32 × Mem)} (hk90 : ∀ (x1 : Int32) (x2 : Int32) (s0 : Int32) (σ : Mem), k90 x1 x2 s0 σ = some r → Sg (Ym12_compare) σ r.2) : ∀ (x1 : Int32) (x2 : Int32) (σ : Mem), m12_compare_89 F k90 x1 x2 σ = some r → Sg (Ym12_compare) σ r.2 := by
  intro x1 x2 σ h
  unfold m12_compare_89 at h
  exact Sg.trans (Sg.rf _ _) (hk90 _ _ _ _ h)
set_option maxHeartbeats 1000000 in
theorem f12_compare_g44 {F : Nat} {r : Int32 × Mem} : ∀ (x1 : Int32) (x2 : Int32) (σ : Mem), m12_compare_44 F x1 x2 σ = some r → Sg (Ym12_compare) σ r.2 := by
  intro x1 x2 σ h
  unfold m12_compare_44 at h
  rcases g_if h with ⟨hq, h⟩ | ⟨hq, h⟩
  · exact Sg.trans (Sg.sI (Sg.rf _ _)) (f12_compare_g89 (F := F) (fun _ _ _ _ h => (f12_compare_g90 (F := F) _ _ _ _ h)) _ _ _ h)
  · rcases g_if h with ⟨hq, h⟩ | ⟨hq, h⟩
    · exact Sg.trans (Sg.sI (Sg.rf _ _)) (f12_compare_g89 (F := F) (fun _ _ _ _ h => (f12_compare_g90 (F := F) _ _ _ _ h)) _ _ _ h)
    · have ⟨hg, h⟩ := g_gd h
      have hb := inB_lt hg
      rcases g_if h with ⟨hq, h⟩ | ⟨hq, h⟩
      · exact Sg.trans (Sg.sI (Sg.rf _ _)) (f12_compare_g90 (F := F) _ _ _ _ h)
      · exact Sg.trans (Sg.sI (Sg.rf _ _)) (f12_compare_g89 (F := F) (fun _ _ _ _ h => (f12_compare_g90 (F := F) _ _ _ _ h)) _ _ _ h)
set_option maxHeartbeats 1000000 in
theorem f12_compare_g {F : Nat} {σ : Mem} {r : Int32 × Mem} (h : m12_compare F  σ = some r) : Sg (Ym12_compare) σ r.2 := by
  unfold m12_compare at h
  have ⟨_, hc1, h⟩ := b_some h
  have qhc1 := f12_sum_g hc1
  rcases g_if h with ⟨hq, h⟩ | ⟨hq, h⟩
  · have e := Option.some.inj h
    subst e
    exact (Sg.trans (Sg.rf _ _) (Sg.mono qhc1 (fun c hw => by unfold Ym12_sum at hw; unfold Ym12_compare; first | exact hw.elim | omega)))
  · have ⟨_, hc2, h⟩ := b_some h
    have qhc2 := f12_see_g hc2
    rcases g_if h with ⟨hq, h⟩ | ⟨hq, h⟩
    · exact Sg.trans (Sg.trans (Sg.trans (Sg.rf _ _) (Sg.mono qhc1 (fun c hw => by unfold Ym12_sum at hw; unfold Ym12_compare; first | exact hw.elim | omega))) (Sg.mono qhc2 (fun c hw => by unfold Ym12_see at hw; unfold Ym12_compare; first | exact hw.elim | omega))) (f12_compare_g44 (F := F) _ _ _ h)
    · rcases g_if h with ⟨hq, h⟩ | ⟨hq, h⟩
      · exact Sg.trans (Sg.trans (Sg.trans (Sg.rf _ _) (Sg.mono qhc1 (fun c hw => by unfold Ym12_sum at hw; unfold Ym12_compare; first | exact hw.elim | omega))) (Sg.mono qhc2 (fun c hw => by unfold Ym12_see at hw; unfold Ym12_compare; first | exact hw.elim | omega))) (f12_compare_g44 (F := F) _ _ _ h)
      · rcases g_if h with ⟨hq, h⟩ | ⟨hq, h⟩
        · exact Sg.trans (Sg.trans (Sg.trans (Sg.rf _ _) (Sg.mono qhc1 (fun c hw => by unfold Ym12_sum at hw; unfold Ym12_compare; first | exact hw.elim | omega))) (Sg.mono qhc2 (fun c hw => by unfold Ym12_see at hw; unfold Ym12_compare; first | exact hw.elim | omega))) (f12_compare_g44 (F := F) _ _ _ h)
        · have ⟨_, hc3, h⟩ := b_some h
          have qhc3 := f12_fails_g hc3
          have ⟨hg, h⟩ := g_gd h
          have e := Option.some.inj h
          subst e
          exact (Sg.trans (Sg.trans (Sg.trans (Sg.rf _ _) (Sg.mono qhc1 (fun c hw => by unfold Ym12_sum at hw; unfold Ym12_compare; first | exact hw.elim | omega))) (Sg.mono qhc2 (fun c hw => by unfold Ym12_see at hw; unfold Ym12_compare; first | exact hw.elim | omega))) (Sg.mono qhc3 (fun c hw => by unfold Ym12_fails at hw; unfold Ym12_compare; first | exact hw.elim | omega)))
def Ym12_fact (c : Nat) : Prop := False
set_option maxHeartbeats 1000000 in
theorem f12_fact_g2 {F : Nat} {r : Int32 × Mem} : ∀ (n : Nat) (x1 : Int32) (σ : Mem), m12_fact_2 F n x1 σ = some r → Sg (Ym12_fact) σ r.2 := by
  intro n
  induction n with
  | zero => intro x1 σ h; unfold m12_fact_2 at h; cases h
  | succ n ih =>
    intro x1 σ h
    unfold m12_fact_2 at h
    rcases g_if h with ⟨hq, h⟩ | ⟨hq, h⟩
    · have ⟨_, hc1, h⟩ := b_some h
      have qhc1 := f12_compare_g hc1
      have ⟨hg, h⟩ := g_gd h
      have e := Option.some.inj h
      subst e
      exact (Sg.trans (Sg.rf _ _) (Sg.mono qhc1 (fun c hw => by unfold Ym12_compare at hw; unfold Ym12_fact; first | exact hw.elim | omega)))
    · have ⟨_, hc1, h⟩ := b_some h
      have qhc1 := f12_see_g hc1
      have ⟨_, hc2, h⟩ := b_some h
      have qhc2 := f12_isWord_g hc2
      rcases g_if h with ⟨hq, h⟩ | ⟨hq, h⟩
      · rcases g_if h with ⟨hq, h⟩ | ⟨hq, h⟩
        · have ⟨_, hc3, h⟩ := b_some h
          have qhc3 := f12_opens_g hc3
          rcases g_if h with ⟨hq, h⟩ | ⟨hq, h⟩
          · have e := Option.some.inj h
            subst e
            exact (Sg.trans (Sg.trans (Sg.trans (Sg.rf _ _) (Sg.mono qhc1 (fun c hw => by unfold Ym12_see at hw; unfold Ym12_fact; first | exact hw.elim | omega))) (Sg.mono qhc2 (fun c hw => by unfold Ym12_isWord at hw; unfold Ym12_fact; first | exact hw.elim | omega))) (Sg.mono qhc3 (fun c hw => by unfold Ym12_opens at hw; unfold Ym12_fact; first | exact hw.elim | omega)))
          · exact Sg.trans (Sg.sI (Sg.trans (Sg.trans (Sg.trans (Sg.rf _ _) (Sg.mono qhc1 (fun c hw => by unfold Ym12_see at hw; unfold Ym12_fact; first | exact hw.elim | omega))) (Sg.mono qhc2 (fun c hw => by unfold Ym12_isWord at hw; unfold Ym12_fact; first | exact hw.elim | omega))) (Sg.mono qhc3 (fun c hw => by unfold Ym12_opens at hw; unfold Ym12_fact; first | exact hw.elim | omega)))) (ih _ _ h)
        · exact Sg.trans (Sg.trans (Sg.trans (Sg.rf _ _) (Sg.mono qhc1 (fun c hw => by unfold Ym12_see at hw; unfold Ym12_fact; first | exact hw.elim | omega))) (Sg.mono qhc2 (fun c hw => by unfold Ym12_isWord at hw; unfold Ym12_fact; first | exact hw.elim | omega))) (ih _ _ h)
      · have ⟨_, hc3, h⟩ := b_some h
        have qhc3 := f12_opens_g hc3
        rcases g_if h with ⟨hq, h⟩ | ⟨hq, h⟩
        · have e := Option.some.inj h
          subst e
          exact (Sg.trans (Sg.trans (Sg.trans (Sg.rf _ _) (Sg.mono qhc1 (fun c hw => by unfold Ym12_see at hw; unfold Ym12_fact; first | exact hw.elim | omega))) (Sg.mono qhc2 (fun c hw => by unfold Ym12_isWord at hw; unfold Ym12_fact; first | exact hw.elim | omega))) (Sg.mono qhc3 (fun c hw => by unfold Ym12_opens at hw; unfold Ym12_fact; first | exact hw.elim | omega)))
        · have ⟨_, hc4, h⟩ := b_some h
          have qhc4 := f12_passWord_g hc4
          exact Sg.trans (Sg.trans (Sg.trans (Sg.trans (Sg.trans (Sg.rf _ _) (Sg.mono qhc1 (fun c hw => by unfold Ym12_see at hw; unfold Ym12_fact; first | exact hw.elim | omega))) (Sg.mono qhc2 (fun c hw => by unfold Ym12_isWord at hw; unfold Ym12_fact; first | exact hw.elim | omega))) (Sg.mono qhc3 (fun c hw => by unfold Ym12_opens at hw; unfold Ym12_fact; first | exact hw.elim | omega))) (Sg.mono qhc4 (fun c hw => by unfold Ym12_passWord at hw; unfold Ym12_fact; first | exact hw.elim | omega))) (ih _ _ h)
set_option maxHeartbeats 1000000 in
theorem f12_fact_g {F : Nat} {σ : Mem} {r : Int32 × Mem} (h : m12_fact F  σ = some r) : Sg (Ym12_fact) σ r.2 := by
  unfold m12_fact at h
  exact Sg.trans (Sg.rf _ _) (f12_fact_g2 (F := F) F _ _ h)
def Ym12_closes (c : Nat) : Prop := False
set_option maxHeartbeats 1000000 in
theorem f12_closes_g5 {F : Nat} {r : Mem} : ∀ (n : Nat) (σ : Mem), m12_closes_5 F n σ = some r → Sg (Ym12_closes) σ r := by
  intro n
  induction n with
  | zero => intro σ h; unfold m12_closes_5 at h; cases h
  | succ n ih =>
    intro σ h
    unfold m12_closes_5 at h
    have ⟨_, hc1, h⟩ := b_some h
    have qhc1 := f12_see_g hc1
    rcases g_if h with ⟨hq, h⟩ | ⟨hq, h⟩
    · have ⟨_, hc2, h⟩ := b_some h
      rcases g_if h with ⟨hq, h⟩ | ⟨hq, h⟩
      · have e := Option.some.inj h
        subst e
        exact (Sg.trans (Sg.rf _ _) (Sg.mono qhc1 (fun c hw => by unfold Ym12_see at hw; unfold Ym12_closes; first | exact hw.elim | omega)))
      · have ⟨_, hc3, h⟩ := b_some h
        have qhc3 := f12_settles_g hc3
        have ⟨_, hc4, h⟩ := b_some h
        have qhc4 := f12_settles_g hc4
        exact Sg.trans (Sg.trans (Sg.sI (Sg.sI (Sg.sI (Sg.trans (Sg.trans (Sg.rf _ _) (Sg.mono qhc1 (fun c hw => by unfold Ym12_see at hw; unfold Ym12_closes; first | exact hw.elim | omega))) (Sg.mono qhc3 (fun c hw => by unfold Ym12_settles at hw; unfold Ym12_closes; first | exact hw.elim | omega)))))) (Sg.mono qhc4 (fun c hw => by unfold Ym12_settles at hw; unfold Ym12_closes; first | exact hw.elim | omega))) (ih _ h)
    · have e := Option.some.inj h
      subst e
      exact (Sg.trans (Sg.rf _ _) (Sg.mono qhc1 (fun c hw => by unfold Ym12_see at hw; unfold Ym12_closes; first | exact hw.elim | omega)))
set_option maxHeartbeats 1000000 in
theorem f12_closes_g {F : Nat} {σ : Mem} {r : Mem} (h : m12_closes F  σ = some r) : Sg (Ym12_closes) σ r := by
  unfold m12_closes at h
  have ⟨_, hc1, h⟩ := b_some h
  have qhc1 := f12_settles_g hc1
  exact Sg.trans (Sg.trans (Sg.rf _ _) (Sg.mono qhc1 (fun c hw => by unfold Ym12_settles at hw; unfold Ym12_closes; first | exact hw.elim | omega))) (f12_closes_g5 (F := F) F _ h)
def Ym12_tested (c : Nat) : Prop := False
set_option maxHeartbeats 1000000 in
theorem f12_tested_g76 {F : Nat} {r : Int32 × Mem} {k12 : Int32 → Mem → Option (Int32 × Mem)} (hk12 : ∀ (x1 : Int32) (σ : Mem), k12 x1 σ = some r → Sg (Ym12_tested) σ r.2) : ∀ (x1 : Int32) (s0 : Int32) (σ : Mem), m12_tested_76 F k12 x1 s0 σ = some r → Sg (Ym12_tested) σ r.2 := by
  intro x1 s0 σ h
  unfold m12_tested_76 at h
  have ⟨_, hc1, h⟩ := b_some h
  have qhc1 := f12_passWord_g hc1
  have ⟨_, hc2, h⟩ := b_some h
  have ⟨_, hc3, h⟩ := b_some h
  have qhc3 := f12_settles_g hc3
  have ⟨hg, h⟩ := g_gd h
  have hb := inB_lt hg
  exact Sg.trans (Sg.sI (Sg.sI (Sg.trans (Sg.trans (Sg.rf _ _) (Sg.mono qhc1 (fun c hw => by unfold Ym12_passWord at hw; unfold Ym12_tested; first | exact hw.elim | omega))) (Sg.mono qhc3 (fun c hw => by unfold Ym12_settles at hw; unfold Ym12_tested; first | exact hw.elim | omega))))) (hk12 _ _ h)
set_option maxHeartbeats 1000000 in
theorem f12_tested_g54 {F : Nat} {r : Int32 × Mem} {k12 : Int32 → Mem → Option (Int32 × Mem)} (hk12 : ∀ (x1 : Int32) (σ : Mem), k12 x1 σ = some r → Sg (Ym12_tested) σ r.2) : ∀ (s0 : Int32) (σ : Mem), m12_tested_54 F k12 s0 σ = some r → Sg (Ym12_tested) σ r.2 := by
  intro s0 σ h
  unfold m12_tested_54 at h
  rcases g_if h with ⟨hq, h⟩ | ⟨hq, h⟩
  · exact Sg.trans (Sg.rf _ _) (hk12 _ _ h)
  · have ⟨_, hc1, h⟩ := b_some h
    have qhc1 := f12_isWord_g hc1
    rcases g_if h with ⟨hq, h⟩ | ⟨hq, h⟩
    · exact Sg.trans (Sg.trans (Sg.rf _ _) (Sg.mono qhc1 (fun c hw => by unfold Ym12_isWord at hw; unfold Ym12_tested; first | exact hw.elim | omega))) (f12_tested_g76 (F := F) (fun _ _ h => (hk12 _ _ h)) _ _ _ h)
    · exact Sg.trans (Sg.trans (Sg.rf _ _) (Sg.mono qhc1 (fun c hw => by unfold Ym12_isWord at hw; unfold Ym12_tested; first | exact hw.elim | omega))) (f12_tested_g76 (F := F) (fun _ _ h => (hk12 _ _ h)) _ _ _ h)
set_option maxHeartbeats 1000000 in
theorem f12_tested_g49 {F : Nat} {r : Int32 × Mem} {k54 : Int32 → Mem → Option (Int32 × Mem)} (hk54 : ∀ (s0 : Int32) (σ : Mem), k54 s0 σ = some r → Sg (Ym12_tested) σ r.2) : ∀ (σ : Mem), m12_tested_49 F k54 σ = some r → Sg (Ym12_tested) σ r.2 := by
  intro σ h
  unfold m12_tested_49 at h
  exact Sg.trans (Sg.rf _ _) (hk54 _ _ h)
set_option maxHeartbeats 1000000 in
theorem f12_tested_g12 {F : Nat} {r : Int32 × Mem} : ∀ (n : Nat) (x1 : Int32) (σ : Mem), m12_tested_12 F n x1 σ = some r → Sg (Ym12_tested) σ r.2 := by
  intro n
  induction n with
  | zero => intro x1 σ h; unfold m12_tested_12 at h; cases h
  | succ n ih =>
    intro x1 σ h
    unfold m12_tested_12 at h
    rcases g_if h with ⟨hq, h⟩ | ⟨hq, h⟩
    · have ⟨_, hc1, h⟩ := b_some h
      rcases g_if h with ⟨hq, h⟩ | ⟨hq, h⟩
      · have ⟨_, hc2, h⟩ := b_some h
        have qhc2 := f12_settles_g hc2
        have e := Option.some.inj h
        subst e
        exact (Sg.trans (Sg.rf _ _) (Sg.mono qhc2 (fun c hw => by unfold Ym12_settles at hw; unfold Ym12_tested; first | exact hw.elim | omega)))
      · have ⟨_, hc2, h⟩ := b_some h
        have qhc2 := f12_see_g hc2
        have ⟨_, hc3, h⟩ := b_some h
        have qhc3 := f12_fails_g hc3
        have ⟨hg, h⟩ := g_gd h
        have e := Option.some.inj h
        subst e
        exact (Sg.trans (Sg.trans (Sg.rf _ _) (Sg.mono qhc2 (fun c hw => by unfold Ym12_see at hw; unfold Ym12_tested; first | exact hw.elim | omega))) (Sg.mono qhc3 (fun c hw => by unfold Ym12_fails at hw; unfold Ym12_tested; first | exact hw.elim | omega)))
    · have ⟨_, hc1, h⟩ := b_some h
      have qhc1 := f12_fact_g hc1
      rcases g_if h with ⟨hq, h⟩ | ⟨hq, h⟩
      · have e := Option.some.inj h
        subst e
        exact (Sg.trans (Sg.rf _ _) (Sg.mono qhc1 (fun c hw => by unfold Ym12_fact at hw; unfold Ym12_tested; first | exact hw.elim | omega)))
      · have ⟨_, hc2, h⟩ := b_some h
        have qhc2 := f12_closes_g hc2
        have ⟨_, hc3, h⟩ := b_some h
        have qhc3 := f12_isWord_g hc3
        rcases g_if h with ⟨hq, h⟩ | ⟨hq, h⟩
        · have ⟨_, hc4, h⟩ := b_some h
          have qhc4 := f12_isWord_g hc4
          rcases g_if h with ⟨hq, h⟩ | ⟨hq, h⟩
          · exact Sg.trans (Sg.trans (Sg.trans (Sg.trans (Sg.trans (Sg.rf _ _) (Sg.mono qhc1 (fun c hw => by unfold Ym12_fact at hw; unfold Ym12_tested; first | exact hw.elim | omega))) (Sg.mono qhc2 (fun c hw => by unfold Ym12_closes at hw; unfold Ym12_tested; first | exact hw.elim | omega))) (Sg.mono qhc3 (fun c hw => by unfold Ym12_isWord at hw; unfold Ym12_tested; first | exact hw.elim | omega))) (Sg.mono qhc4 (fun c hw => by unfold Ym12_isWord at hw; unfold Ym12_tested; first | exact hw.elim | omega))) (f12_tested_g54 (F := F) (fun _ _ h => (ih _ _ h)) _ _ h)
          · exact Sg.trans (Sg.trans (Sg.trans (Sg.trans (Sg.trans (Sg.rf _ _) (Sg.mono qhc1 (fun c hw => by unfold Ym12_fact at hw; unfold Ym12_tested; first | exact hw.elim | omega))) (Sg.mono qhc2 (fun c hw => by unfold Ym12_closes at hw; unfold Ym12_tested; first | exact hw.elim | omega))) (Sg.mono qhc3 (fun c hw => by unfold Ym12_isWord at hw; unfold Ym12_tested; first | exact hw.elim | omega))) (Sg.mono qhc4 (fun c hw => by unfold Ym12_isWord at hw; unfold Ym12_tested; first | exact hw.elim | omega))) (f12_tested_g49 (F := F) (fun _ _ h => (f12_tested_g54 (F := F) (fun _ _ h => (ih _ _ h)) _ _ h)) _ h)
        · exact Sg.trans (Sg.trans (Sg.trans (Sg.trans (Sg.rf _ _) (Sg.mono qhc1 (fun c hw => by unfold Ym12_fact at hw; unfold Ym12_tested; first | exact hw.elim | omega))) (Sg.mono qhc2 (fun c hw => by unfold Ym12_closes at hw; unfold Ym12_tested; first | exact hw.elim | omega))) (Sg.mono qhc3 (fun c hw => by unfold Ym12_isWord at hw; unfold Ym12_tested; first | exact hw.elim | omega))) (f12_tested_g49 (F := F) (fun _ _ h => (f12_tested_g54 (F := F) (fun _ _ h => (ih _ _ h)) _ _ h)) _ h)
set_option maxHeartbeats 1000000 in
theorem f12_tested_g {F : Nat} {σ : Mem} {r : Int32 × Mem} (h : m12_tested F  σ = some r) : Sg (Ym12_tested) σ r.2 := by
  unfold m12_tested at h
  exact Sg.trans (Sg.sI (Sg.sI (Sg.rf _ _))) (f12_tested_g12 (F := F) F _ _ h)
def Ym12_isStrikeHere (c : Nat) : Prop := False
set_option maxHeartbeats 1000000 in
theorem f12_isStrikeHere_g110 {F : Nat} {r : Int32 × Mem} : ∀ (x1 : Int32) (σ : Mem), m12_isStrikeHere_110 F x1 σ = some r → Sg (Ym12_isStrikeHere) σ r.2 := by
  intro x1 σ h
  unfold m12_isStrikeHere_110 at h
  have ⟨hg, h⟩ := g_gd h
  have hb := inB_lt hg
  have ⟨hg, h⟩ := g_gd h
  have hb := inB_lt hg
  have ⟨hg, h⟩ := g_gd h
  have hb := inB_lt hg
  have ⟨hg, h⟩ := g_gd h
  have hb := inB_lt hg
  have e := Option.some.inj h
  subst e
  exact (Sg.sI (Sg.sI (Sg.rf _ _)))
set_option maxHeartbeats 1000000 in
theorem f12_isStrikeHere_g {F : Nat} {σ : Mem} {r : Int32 × Mem} (h : m12_isStrikeHere F  σ = some r) : Sg (Ym12_isStrikeHere) σ r.2 := by
  unfold m12_isStrikeHere at h
  have ⟨_, hc1, h⟩ := b_some h
  have qhc1 := f12_passWord_g hc1
  have ⟨hg, h⟩ := g_gd h
  have hb := inB_lt hg
  have ⟨hg, h⟩ := g_gd h
  have hb := inB_lt hg
  have ⟨hg, h⟩ := g_gd h
  have hb := inB_lt hg
  have ⟨_, hc2, h⟩ := b_some h
  have qhc2 := f12_sum_g hc2
  rcases g_if h with ⟨hq, h⟩ | ⟨hq, h⟩
  · have e := Option.some.inj h
    subst e
    exact (Sg.trans (Sg.sI (Sg.trans (Sg.rf _ _) (Sg.mono qhc1 (fun c hw => by unfold Ym12_passWord at hw; unfold Ym12_isStrikeHere; first | exact hw.elim | omega)))) (Sg.mono qhc2 (fun c hw => by unfold Ym12_sum at hw; unfold Ym12_isStrikeHere; first | exact hw.elim | omega)))
  · have ⟨hg, h⟩ := g_gd h
    have hb := inB_lt hg
    have ⟨hg, h⟩ := g_gd h
    have hb := inB_lt hg
    have ⟨hg, h⟩ := g_gd h
    have hb := inB_lt hg
    have ⟨_, hc3, h⟩ := b_some h
    have qhc3 := f12_takesWord_g hc3
    rcases g_if h with ⟨hq, h⟩ | ⟨hq, h⟩
    · exact Sg.trans (Sg.trans (Sg.sI (Sg.sI (Sg.trans (Sg.sI (Sg.trans (Sg.rf _ _) (Sg.mono qhc1 (fun c hw => by unfold Ym12_passWord at hw; unfold Ym12_isStrikeHere; first | exact hw.elim | omega)))) (Sg.mono qhc2 (fun c hw => by unfold Ym12_sum at hw; unfold Ym12_isStrikeHere; first | exact hw.elim | omega))))) (Sg.mono qhc3 (fun c hw => by unfold Ym12_takesWord at hw; unfold Ym12_isStrikeHere; first | exact hw.elim | omega))) (f12_isStrikeHere_g110 (F := F) _ _ h)
    · have ⟨hg, h⟩ := g_gd h
      have hb := inB_lt hg
      have ⟨hg, h⟩ := g_gd h
      have hb := inB_lt hg
      have ⟨_, hc4, h⟩ := b_some h
      have qhc4 := f12_tested_g hc4
      rcases g_if h with ⟨hq, h⟩ | ⟨hq, h⟩
      · have e := Option.some.inj h
        subst e
        exact (Sg.trans (Sg.sI (Sg.trans (Sg.sI (Sg.sI (Sg.trans (Sg.sI (Sg.trans (Sg.rf _ _) (Sg.mono qhc1 (fun c hw => by unfold Ym12_passWord at hw; unfold Ym12_isStrikeHere; first | exact hw.elim | omega)))) (Sg.mono qhc2 (fun c hw => by unfold Ym12_sum at hw; unfold Ym12_isStrikeHere; first | exact hw.elim | omega))))) (Sg.mono qhc3 (fun c hw => by unfold Ym12_takesWord at hw; unfold Ym12_isStrikeHere; first | exact hw.elim | omega)))) (Sg.mono qhc4 (fun c hw => by unfold Ym12_tested at hw; unfold Ym12_isStrikeHere; first | exact hw.elim | omega)))
      · exact Sg.trans (Sg.trans (Sg.sI (Sg.trans (Sg.sI (Sg.sI (Sg.trans (Sg.sI (Sg.trans (Sg.rf _ _) (Sg.mono qhc1 (fun c hw => by unfold Ym12_passWord at hw; unfold Ym12_isStrikeHere; first | exact hw.elim | omega)))) (Sg.mono qhc2 (fun c hw => by unfold Ym12_sum at hw; unfold Ym12_isStrikeHere; first | exact hw.elim | omega))))) (Sg.mono qhc3 (fun c hw => by unfold Ym12_takesWord at hw; unfold Ym12_isStrikeHere; first | exact hw.elim | omega)))) (Sg.mono qhc4 (fun c hw => by unfold Ym12_tested at hw; unfold Ym12_isStrikeHere; first | exact hw.elim | omega))) (f12_isStrikeHere_g110 (F := F) _ _ h)
def Ym12_cellHere (c : Nat) : Prop := False
set_option maxHeartbeats 1000000 in
theorem f12_cellHere_g {F : Nat} {i1 : Int32} {i2 : Int32} {i3 : Int32} {σ : Mem} {r : Int32 × Mem} (h : m12_cellHere F i1 i2 i3 σ = some r) : Sg (Ym12_cellHere) σ r.2 := by
  unfold m12_cellHere at h
  have ⟨_, hc1, h⟩ := b_some h
  have qhc1 := f12_numberHere_g hc1
  rcases g_if h with ⟨hq, h⟩ | ⟨hq, h⟩
  · have e := Option.some.inj h
    subst e
    exact (Sg.trans (Sg.rf _ _) (Sg.mono qhc1 (fun c hw => by unfold Ym12_numberHere at hw; unfold Ym12_cellHere; first | exact hw.elim | omega)))
  · have ⟨hg, h⟩ := g_gd h
    have hb := inB_lt hg
    have e := Option.some.inj h
    subst e
    exact (Sg.sI (Sg.trans (Sg.rf _ _) (Sg.mono qhc1 (fun c hw => by unfold Ym12_numberHere at hw; unfold Ym12_cellHere; first | exact hw.elim | omega))))
def Ym12_isSmithyHere (c : Nat) : Prop := False
set_option maxHeartbeats 1000000 in
theorem f12_isSmithyHere_g {F : Nat} {i1 : Int32} {σ : Mem} {r : Int32 × Mem} (h : m12_isSmithyHere F i1 σ = some r) : Sg (Ym12_isSmithyHere) σ r.2 := by
  unfold m12_isSmithyHere at h
  have ⟨hg, h⟩ := g_gd h
  have hb := inB_lt hg
  rcases g_if h with ⟨hq, h⟩ | ⟨hq, h⟩
  · have ⟨_, hc1, h⟩ := b_some h
    have qhc1 := f12_passWord_g hc1
    have ⟨_, hc2, h⟩ := b_some h
    have qhc2 := f12_numberHere_g hc2
    rcases g_if h with ⟨hq, h⟩ | ⟨hq, h⟩
    · have e := Option.some.inj h
      subst e
      exact (Sg.trans (Sg.trans (Sg.rf _ _) (Sg.mono qhc1 (fun c hw => by unfold Ym12_passWord at hw; unfold Ym12_isSmithyHere; first | exact hw.elim | omega))) (Sg.mono qhc2 (fun c hw => by unfold Ym12_numberHere at hw; unfold Ym12_isSmithyHere; first | exact hw.elim | omega)))
    · have ⟨_, hc3, h⟩ := b_some h
      have qhc3 := f12_cellHere_g hc3
      rcases g_if h with ⟨hq, h⟩ | ⟨hq, h⟩
      · have e := Option.some.inj h
        subst e
        exact (Sg.trans (Sg.trans (Sg.trans (Sg.rf _ _) (Sg.mono qhc1 (fun c hw => by unfold Ym12_passWord at hw; unfold Ym12_isSmithyHere; first | exact hw.elim | omega))) (Sg.mono qhc2 (fun c hw => by unfold Ym12_numberHere at hw; unfold Ym12_isSmithyHere; first | exact hw.elim | omega))) (Sg.mono qhc3 (fun c hw => by unfold Ym12_cellHere at hw; unfold Ym12_isSmithyHere; first | exact hw.elim | omega)))
      · have ⟨_, hc4, h⟩ := b_some h
        have qhc4 := f12_cellHere_g hc4
        rcases g_if h with ⟨hq, h⟩ | ⟨hq, h⟩
        · have e := Option.some.inj h
          subst e
          exact (Sg.trans (Sg.trans (Sg.trans (Sg.trans (Sg.rf _ _) (Sg.mono qhc1 (fun c hw => by unfold Ym12_passWord at hw; unfold Ym12_isSmithyHere; first | exact hw.elim | omega))) (Sg.mono qhc2 (fun c hw => by unfold Ym12_numberHere at hw; unfold Ym12_isSmithyHere; first | exact hw.elim | omega))) (Sg.mono qhc3 (fun c hw => by unfold Ym12_cellHere at hw; unfold Ym12_isSmithyHere; first | exact hw.elim | omega))) (Sg.mono qhc4 (fun c hw => by unfold Ym12_cellHere at hw; unfold Ym12_isSmithyHere; first | exact hw.elim | omega)))
        · have ⟨hg, h⟩ := g_gd h
          have hb := inB_lt hg
          have e := Option.some.inj h
          subst e
          exact (Sg.sI (Sg.trans (Sg.trans (Sg.trans (Sg.trans (Sg.rf _ _) (Sg.mono qhc1 (fun c hw => by unfold Ym12_passWord at hw; unfold Ym12_isSmithyHere; first | exact hw.elim | omega))) (Sg.mono qhc2 (fun c hw => by unfold Ym12_numberHere at hw; unfold Ym12_isSmithyHere; first | exact hw.elim | omega))) (Sg.mono qhc3 (fun c hw => by unfold Ym12_cellHere at hw; unfold Ym12_isSmithyHere; first | exact hw.elim | omega))) (Sg.mono qhc4 (fun c hw => by unfold Ym12_cellHere at hw; unfold Ym12_isSmithyHere; first | exact hw.elim | omega))))
  · have ⟨_, hc1, h⟩ := b_some h
    have qhc1 := f12_fails_g hc1
    have ⟨hg, h⟩ := g_gd h
    have e := Option.some.inj h
    subst e
    exact (Sg.trans (Sg.rf _ _) (Sg.mono qhc1 (fun c hw => by unfold Ym12_fails at hw; unfold Ym12_isSmithyHere; first | exact hw.elim | omega)))
def Ym12_isSmithHere (c : Nat) : Prop := False
set_option maxHeartbeats 1000000 in
theorem f12_isSmithHere_g51 {F : Nat} {i1 : Int32} {r : Int32 × Mem} : ∀ (n : Nat) (x2 : Int32) (x3 : Int32) (σ : Mem), m12_isSmithHere_51 F i1 n x2 x3 σ = some r → Sg (Ym12_isSmithHere) σ r.2 := by
  intro n
  induction n with
  | zero => intro x2 x3 σ h; unfold m12_isSmithHere_51 at h; cases h
  | succ n ih =>
    intro x2 x3 σ h
    unfold m12_isSmithHere_51 at h
    rcases g_if h with ⟨hq, h⟩ | ⟨hq, h⟩
    · have ⟨hg, h⟩ := g_gd h
      have hb := inB_lt hg
      have ⟨hg, h⟩ := g_gd h
      have hb := inB_lt hg
      have e := Option.some.inj h
      subst e
      exact (Sg.sI (Sg.rf _ _))
    · rcases g_if h with ⟨hq, h⟩ | ⟨hq, h⟩
      · exact Sg.trans (Sg.rf _ _) (ih _ _ _ h)
      · have ⟨hg, h⟩ := g_gd h
        have hb := inB_lt hg
        exact Sg.trans (Sg.sI (Sg.rf _ _)) (ih _ _ _ h)
set_option maxHeartbeats 1000000 in
theorem f12_isSmithHere_g {F : Nat} {i1 : Int32} {σ : Mem} {r : Int32 × Mem} (h : m12_isSmithHere F i1 σ = some r) : Sg (Ym12_isSmithHere) σ r.2 := by
  unfold m12_isSmithHere at h
  have ⟨hg, h⟩ := g_gd h
  have hb := inB_lt hg
  rcases g_if h with ⟨hq, h⟩ | ⟨hq, h⟩
  · have ⟨_, hc1, h⟩ := b_some h
    have qhc1 := f12_fails_g hc1
    have ⟨hg, h⟩ := g_gd h
    have e := Option.some.inj h
    subst e
    exact (Sg.trans (Sg.rf _ _) (Sg.mono qhc1 (fun c hw => by unfold Ym12_fails at hw; unfold Ym12_isSmithHere; first | exact hw.elim | omega)))
  · have ⟨_, hc1, h⟩ := b_some h
    have qhc1 := f12_passWord_g hc1
    have ⟨hg, h⟩ := g_gd h
    have hb := inB_lt hg
    have ⟨_, hc2, h⟩ := b_some h
    have qhc2 := f12_cellHere_g hc2
    rcases g_if h with ⟨hq, h⟩ | ⟨hq, h⟩
    · have e := Option.some.inj h
      subst e
      exact (Sg.trans (Sg.trans (Sg.rf _ _) (Sg.mono qhc1 (fun c hw => by unfold Ym12_passWord at hw; unfold Ym12_isSmithHere; first | exact hw.elim | omega))) (Sg.mono qhc2 (fun c hw => by unfold Ym12_cellHere at hw; unfold Ym12_isSmithHere; first | exact hw.elim | omega)))
    · exact Sg.trans (Sg.trans (Sg.trans (Sg.rf _ _) (Sg.mono qhc1 (fun c hw => by unfold Ym12_passWord at hw; unfold Ym12_isSmithHere; first | exact hw.elim | omega))) (Sg.mono qhc2 (fun c hw => by unfold Ym12_cellHere at hw; unfold Ym12_isSmithHere; first | exact hw.elim | omega))) (f12_isSmithHere_g51 (F := F) F _ _ _ h)
def Ym12_partHere (c : Nat) : Prop := False
set_option maxHeartbeats 1000000 in
theorem f12_partHere_g {F : Nat} {σ : Mem} {r : Int32 × Mem} (h : m12_partHere F  σ = some r) : Sg (Ym12_partHere) σ r.2 := by
  unfold m12_partHere at h
  have ⟨_, hc1, h⟩ := b_some h
  have qhc1 := f12_takesWord_g hc1
  rcases g_if h with ⟨hq, h⟩ | ⟨hq, h⟩
  · have ⟨_, hc2, h⟩ := b_some h
    have qhc2 := f12_takesWord_g hc2
    rcases g_if h with ⟨hq, h⟩ | ⟨hq, h⟩
    · have ⟨_, hc3, h⟩ := b_some h
      have qhc3 := f12_takesWord_g hc3
      rcases g_if h with ⟨hq, h⟩ | ⟨hq, h⟩
      · have ⟨_, hc4, h⟩ := b_some h
        have qhc4 := f12_takesWord_g hc4
        rcases g_if h with ⟨hq, h⟩ | ⟨hq, h⟩
        · have e := Option.some.inj h
          subst e
          exact (Sg.trans (Sg.trans (Sg.trans (Sg.trans (Sg.rf _ _) (Sg.mono qhc1 (fun c hw => by unfold Ym12_takesWord at hw; unfold Ym12_partHere; first | exact hw.elim | omega))) (Sg.mono qhc2 (fun c hw => by unfold Ym12_takesWord at hw; unfold Ym12_partHere; first | exact hw.elim | omega))) (Sg.mono qhc3 (fun c hw => by unfold Ym12_takesWord at hw; unfold Ym12_partHere; first | exact hw.elim | omega))) (Sg.mono qhc4 (fun c hw => by unfold Ym12_takesWord at hw; unfold Ym12_partHere; first | exact hw.elim | omega)))
        · have e := Option.some.inj h
          subst e
          exact (Sg.trans (Sg.trans (Sg.trans (Sg.trans (Sg.rf _ _) (Sg.mono qhc1 (fun c hw => by unfold Ym12_takesWord at hw; unfold Ym12_partHere; first | exact hw.elim | omega))) (Sg.mono qhc2 (fun c hw => by unfold Ym12_takesWord at hw; unfold Ym12_partHere; first | exact hw.elim | omega))) (Sg.mono qhc3 (fun c hw => by unfold Ym12_takesWord at hw; unfold Ym12_partHere; first | exact hw.elim | omega))) (Sg.mono qhc4 (fun c hw => by unfold Ym12_takesWord at hw; unfold Ym12_partHere; first | exact hw.elim | omega)))
      · have e := Option.some.inj h
        subst e
        exact (Sg.trans (Sg.trans (Sg.trans (Sg.rf _ _) (Sg.mono qhc1 (fun c hw => by unfold Ym12_takesWord at hw; unfold Ym12_partHere; first | exact hw.elim | omega))) (Sg.mono qhc2 (fun c hw => by unfold Ym12_takesWord at hw; unfold Ym12_partHere; first | exact hw.elim | omega))) (Sg.mono qhc3 (fun c hw => by unfold Ym12_takesWord at hw; unfold Ym12_partHere; first | exact hw.elim | omega)))
    · have e := Option.some.inj h
      subst e
      exact (Sg.trans (Sg.trans (Sg.rf _ _) (Sg.mono qhc1 (fun c hw => by unfold Ym12_takesWord at hw; unfold Ym12_partHere; first | exact hw.elim | omega))) (Sg.mono qhc2 (fun c hw => by unfold Ym12_takesWord at hw; unfold Ym12_partHere; first | exact hw.elim | omega)))
  · have e := Option.some.inj h
    subst e
    exact (Sg.trans (Sg.rf _ _) (Sg.mono qhc1 (fun c hw => by unfold Ym12_takesWord at hw; unfold Ym12_partHere; first | exact hw.elim | omega)))
def Ym12_isJobHere (c : Nat) : Prop := False
set_option maxHeartbeats 1000000 in
theorem f12_isJobHere_g {F : Nat} {i1 : Int32} {σ : Mem} {r : Int32 × Mem} (h : m12_isJobHere F i1 σ = some r) : Sg (Ym12_isJobHere) σ r.2 := by
  unfold m12_isJobHere at h
  have ⟨hg, h⟩ := g_gd h
  have hb := inB_lt hg
  rcases g_if h with ⟨hq, h⟩ | ⟨hq, h⟩
  · have ⟨_, hc1, h⟩ := b_some h
    have qhc1 := f12_fails_g hc1
    have ⟨hg, h⟩ := g_gd h
    have e := Option.some.inj h
    subst e
    exact (Sg.trans (Sg.rf _ _) (Sg.mono qhc1 (fun c hw => by unfold Ym12_fails at hw; unfold Ym12_isJobHere; first | exact hw.elim | omega)))
  · have ⟨_, hc1, h⟩ := b_some h
    have qhc1 := f12_passWord_g hc1
    have ⟨hg, h⟩ := g_gd h
    have hb := inB_lt hg
    have ⟨hg, h⟩ := g_gd h
    have hb := inB_lt hg
    have ⟨_, hc2, h⟩ := b_some h
    have qhc2 := f12_cellHere_g hc2
    rcases g_if h with ⟨hq, h⟩ | ⟨hq, h⟩
    · have e := Option.some.inj h
      subst e
      exact (Sg.trans (Sg.trans (Sg.rf _ _) (Sg.mono qhc1 (fun c hw => by unfold Ym12_passWord at hw; unfold Ym12_isJobHere; first | exact hw.elim | omega))) (Sg.mono qhc2 (fun c hw => by unfold Ym12_cellHere at hw; unfold Ym12_isJobHere; first | exact hw.elim | omega)))
    · have ⟨_, hc3, h⟩ := b_some h
      have qhc3 := f12_see_g hc3
      have ⟨_, hc4, h⟩ := b_some h
      have qhc4 := f12_partHere_g hc4
      have ⟨hg, h⟩ := g_gd h
      have hb := inB_lt hg
      have ⟨hg, h⟩ := g_gd h
      have hb := inB_lt hg
      rcases g_if h with ⟨hq, h⟩ | ⟨hq, h⟩
      · have ⟨_, hc5, h⟩ := b_some h
        have qhc5 := f12_cellHere_g hc5
        rcases g_if h with ⟨hq, h⟩ | ⟨hq, h⟩
        · have e := Option.some.inj h
          subst e
          exact (Sg.trans (Sg.sI (Sg.trans (Sg.trans (Sg.trans (Sg.trans (Sg.rf _ _) (Sg.mono qhc1 (fun c hw => by unfold Ym12_passWord at hw; unfold Ym12_isJobHere; first | exact hw.elim | omega))) (Sg.mono qhc2 (fun c hw => by unfold Ym12_cellHere at hw; unfold Ym12_isJobHere; first | exact hw.elim | omega))) (Sg.mono qhc3 (fun c hw => by unfold Ym12_see at hw; unfold Ym12_isJobHere; first | exact hw.elim | omega))) (Sg.mono qhc4 (fun c hw => by unfold Ym12_partHere at hw; unfold Ym12_isJobHere; first | exact hw.elim | omega)))) (Sg.mono qhc5 (fun c hw => by unfold Ym12_cellHere at hw; unfold Ym12_isJobHere; first | exact hw.elim | omega)))
        · have ⟨_, hc6, h⟩ := b_some h
          have qhc6 := f12_cellHere_g hc6
          rcases g_if h with ⟨hq, h⟩ | ⟨hq, h⟩
          · have e := Option.some.inj h
            subst e
            exact (Sg.trans (Sg.trans (Sg.sI (Sg.trans (Sg.trans (Sg.trans (Sg.trans (Sg.rf _ _) (Sg.mono qhc1 (fun c hw => by unfold Ym12_passWord at hw; unfold Ym12_isJobHere; first | exact hw.elim | omega))) (Sg.mono qhc2 (fun c hw => by unfold Ym12_cellHere at hw; unfold Ym12_isJobHere; first | exact hw.elim | omega))) (Sg.mono qhc3 (fun c hw => by unfold Ym12_see at hw; unfold Ym12_isJobHere; first | exact hw.elim | omega))) (Sg.mono qhc4 (fun c hw => by unfold Ym12_partHere at hw; unfold Ym12_isJobHere; first | exact hw.elim | omega)))) (Sg.mono qhc5 (fun c hw => by unfold Ym12_cellHere at hw; unfold Ym12_isJobHere; first | exact hw.elim | omega))) (Sg.mono qhc6 (fun c hw => by unfold Ym12_cellHere at hw; unfold Ym12_isJobHere; first | exact hw.elim | omega)))
          · have ⟨_, hc7, h⟩ := b_some h
            have qhc7 := f12_cellHere_g hc7
            rcases g_if h with ⟨hq, h⟩ | ⟨hq, h⟩
            · have e := Option.some.inj h
              subst e
              exact (Sg.trans (Sg.trans (Sg.trans (Sg.sI (Sg.trans (Sg.trans (Sg.trans (Sg.trans (Sg.rf _ _) (Sg.mono qhc1 (fun c hw => by unfold Ym12_passWord at hw; unfold Ym12_isJobHere; first | exact hw.elim | omega))) (Sg.mono qhc2 (fun c hw => by unfold Ym12_cellHere at hw; unfold Ym12_isJobHere; first | exact hw.elim | omega))) (Sg.mono qhc3 (fun c hw => by unfold Ym12_see at hw; unfold Ym12_isJobHere; first | exact hw.elim | omega))) (Sg.mono qhc4 (fun c hw => by unfold Ym12_partHere at hw; unfold Ym12_isJobHere; first | exact hw.elim | omega)))) (Sg.mono qhc5 (fun c hw => by unfold Ym12_cellHere at hw; unfold Ym12_isJobHere; first | exact hw.elim | omega))) (Sg.mono qhc6 (fun c hw => by unfold Ym12_cellHere at hw; unfold Ym12_isJobHere; first | exact hw.elim | omega))) (Sg.mono qhc7 (fun c hw => by unfold Ym12_cellHere at hw; unfold Ym12_isJobHere; first | exact hw.elim | omega)))
            · have ⟨hg, h⟩ := g_gd h
              have hb := inB_lt hg
              have ⟨hg, h⟩ := g_gd h
              have hb := inB_lt hg
              have ⟨hg, h⟩ := g_gd h
              have hb := inB_lt hg
              have ⟨hg, h⟩ := g_gd h
              have hb := inB_lt hg
              have ⟨hg, h⟩ := g_gd h
              have hb := inB_lt hg
              have ⟨hg, h⟩ := g_gd h
              have hb := inB_lt hg
              have ⟨hg, h⟩ := g_gd h
              have hb := inB_lt hg
              have e := Option.some.inj h
              subst e
              exact (Sg.sI (Sg.sI (Sg.sI (Sg.sI (Sg.trans (Sg.trans (Sg.trans (Sg.sI (Sg.trans (Sg.trans (Sg.trans (Sg.trans (Sg.rf _ _) (Sg.mono qhc1 (fun c hw => by unfold Ym12_passWord at hw; unfold Ym12_isJobHere; first | exact hw.elim | omega))) (Sg.mono qhc2 (fun c hw => by unfold Ym12_cellHere at hw; unfold Ym12_isJobHere; first | exact hw.elim | omega))) (Sg.mono qhc3 (fun c hw => by unfold Ym12_see at hw; unfold Ym12_isJobHere; first | exact hw.elim | omega))) (Sg.mono qhc4 (fun c hw => by unfold Ym12_partHere at hw; unfold Ym12_isJobHere; first | exact hw.elim | omega)))) (Sg.mono qhc5 (fun c hw => by unfold Ym12_cellHere at hw; unfold Ym12_isJobHere; first | exact hw.elim | omega))) (Sg.mono qhc6 (fun c hw => by unfold Ym12_cellHere at hw; unfold Ym12_isJobHere; first | exact hw.elim | omega))) (Sg.mono qhc7 (fun c hw => by unfold Ym12_cellHere at hw; unfold Ym12_isJobHere; first | exact hw.elim | omega)))))))
      · have ⟨_, hc5, h⟩ := b_some h
        have qhc5 := f12_fails_g hc5
        have ⟨hg, h⟩ := g_gd h
        have e := Option.some.inj h
        subst e
        exact (Sg.trans (Sg.sI (Sg.trans (Sg.trans (Sg.trans (Sg.trans (Sg.rf _ _) (Sg.mono qhc1 (fun c hw => by unfold Ym12_passWord at hw; unfold Ym12_isJobHere; first | exact hw.elim | omega))) (Sg.mono qhc2 (fun c hw => by unfold Ym12_cellHere at hw; unfold Ym12_isJobHere; first | exact hw.elim | omega))) (Sg.mono qhc3 (fun c hw => by unfold Ym12_see at hw; unfold Ym12_isJobHere; first | exact hw.elim | omega))) (Sg.mono qhc4 (fun c hw => by unfold Ym12_partHere at hw; unfold Ym12_isJobHere; first | exact hw.elim | omega)))) (Sg.mono qhc5 (fun c hw => by unfold Ym12_fails at hw; unfold Ym12_isJobHere; first | exact hw.elim | omega)))
def Ym12_isPartHere (c : Nat) : Prop := False
set_option maxHeartbeats 1000000 in
theorem f12_isPartHere_g {F : Nat} {σ : Mem} {r : Int32 × Mem} (h : m12_isPartHere F  σ = some r) : Sg (Ym12_isPartHere) σ r.2 := by
  unfold m12_isPartHere at h
  have ⟨_, hc1, h⟩ := b_some h
  have qhc1 := f12_passWord_g hc1
  have ⟨_, hc2, h⟩ := b_some h
  have qhc2 := f12_numberHere_g hc2
  rcases g_if h with ⟨hq, h⟩ | ⟨hq, h⟩
  · have e := Option.some.inj h
    subst e
    exact (Sg.trans (Sg.trans (Sg.rf _ _) (Sg.mono qhc1 (fun c hw => by unfold Ym12_passWord at hw; unfold Ym12_isPartHere; first | exact hw.elim | omega))) (Sg.mono qhc2 (fun c hw => by unfold Ym12_numberHere at hw; unfold Ym12_isPartHere; first | exact hw.elim | omega)))
  · have ⟨_, hc3, h⟩ := b_some h
    have qhc3 := f12_cellHere_g hc3
    have ⟨hg, h⟩ := g_gd h
    have e := Option.some.inj h
    subst e
    exact (Sg.trans (Sg.trans (Sg.trans (Sg.rf _ _) (Sg.mono qhc1 (fun c hw => by unfold Ym12_passWord at hw; unfold Ym12_isPartHere; first | exact hw.elim | omega))) (Sg.mono qhc2 (fun c hw => by unfold Ym12_numberHere at hw; unfold Ym12_isPartHere; first | exact hw.elim | omega))) (Sg.mono qhc3 (fun c hw => by unfold Ym12_cellHere at hw; unfold Ym12_isPartHere; first | exact hw.elim | omega)))
def Ym12_smithyLineHere (c : Nat) : Prop := False
set_option maxHeartbeats 1000000 in
theorem f12_smithyLineHere_g {F : Nat} {i1 : Int32} {σ : Mem} {r : Int32 × Mem} (h : m12_smithyLineHere F i1 σ = some r) : Sg (Ym12_smithyLineHere) σ r.2 := by
  unfold m12_smithyLineHere at h
  have ⟨_, hc1, h⟩ := b_some h
  have qhc1 := f12_isWord_g hc1
  rcases g_if h with ⟨hq, h⟩ | ⟨hq, h⟩
  · have ⟨hg, h⟩ := g_gd h
    have hb := inB_lt hg
    rcases g_if h with ⟨hq, h⟩ | ⟨hq, h⟩
    · have ⟨_, hc2, h⟩ := b_some h
      have qhc2 := f12_fails_g hc2
      have ⟨hg, h⟩ := g_gd h
      have e := Option.some.inj h
      subst e
      exact (Sg.trans (Sg.trans (Sg.rf _ _) (Sg.mono qhc1 (fun c hw => by unfold Ym12_isWord at hw; unfold Ym12_smithyLineHere; first | exact hw.elim | omega))) (Sg.mono qhc2 (fun c hw => by unfold Ym12_fails at hw; unfold Ym12_smithyLineHere; first | exact hw.elim | omega)))
    · have ⟨_, hc2, h⟩ := b_some h
      have qhc2 := f12_isWord_g hc2
      rcases g_if h with ⟨hq, h⟩ | ⟨hq, h⟩
      · have ⟨_, hc3, h⟩ := b_some h
        have qhc3 := f12_isWord_g hc3
        rcases g_if h with ⟨hq, h⟩ | ⟨hq, h⟩
        · have ⟨_, hc4, h⟩ := b_some h
          have qhc4 := f12_isPartHere_g hc4
          have ⟨hg, h⟩ := g_gd h
          have e := Option.some.inj h
          subst e
          exact (Sg.trans (Sg.trans (Sg.trans (Sg.trans (Sg.rf _ _) (Sg.mono qhc1 (fun c hw => by unfold Ym12_isWord at hw; unfold Ym12_smithyLineHere; first | exact hw.elim | omega))) (Sg.mono qhc2 (fun c hw => by unfold Ym12_isWord at hw; unfold Ym12_smithyLineHere; first | exact hw.elim | omega))) (Sg.mono qhc3 (fun c hw => by unfold Ym12_isWord at hw; unfold Ym12_smithyLineHere; first | exact hw.elim | omega))) (Sg.mono qhc4 (fun c hw => by unfold Ym12_isPartHere at hw; unfold Ym12_smithyLineHere; first | exact hw.elim | omega)))
        · have ⟨_, hc4, h⟩ := b_some h
          have qhc4 := f12_isJobHere_g hc4
          have ⟨hg, h⟩ := g_gd h
          have e := Option.some.inj h
          subst e
          exact (Sg.trans (Sg.trans (Sg.trans (Sg.trans (Sg.rf _ _) (Sg.mono qhc1 (fun c hw => by unfold Ym12_isWord at hw; unfold Ym12_smithyLineHere; first | exact hw.elim | omega))) (Sg.mono qhc2 (fun c hw => by unfold Ym12_isWord at hw; unfold Ym12_smithyLineHere; first | exact hw.elim | omega))) (Sg.mono qhc3 (fun c hw => by unfold Ym12_isWord at hw; unfold Ym12_smithyLineHere; first | exact hw.elim | omega))) (Sg.mono qhc4 (fun c hw => by unfold Ym12_isJobHere at hw; unfold Ym12_smithyLineHere; first | exact hw.elim | omega)))
      · have ⟨_, hc3, h⟩ := b_some h
        have qhc3 := f12_isSmithHere_g hc3
        have ⟨hg, h⟩ := g_gd h
        have e := Option.some.inj h
        subst e
        exact (Sg.trans (Sg.trans (Sg.trans (Sg.rf _ _) (Sg.mono qhc1 (fun c hw => by unfold Ym12_isWord at hw; unfold Ym12_smithyLineHere; first | exact hw.elim | omega))) (Sg.mono qhc2 (fun c hw => by unfold Ym12_isWord at hw; unfold Ym12_smithyLineHere; first | exact hw.elim | omega))) (Sg.mono qhc3 (fun c hw => by unfold Ym12_isSmithHere at hw; unfold Ym12_smithyLineHere; first | exact hw.elim | omega)))
  · have ⟨_, hc2, h⟩ := b_some h
    have qhc2 := f12_isSmithyHere_g hc2
    have ⟨hg, h⟩ := g_gd h
    have e := Option.some.inj h
    subst e
    exact (Sg.trans (Sg.trans (Sg.rf _ _) (Sg.mono qhc1 (fun c hw => by unfold Ym12_isWord at hw; unfold Ym12_smithyLineHere; first | exact hw.elim | omega))) (Sg.mono qhc2 (fun c hw => by unfold Ym12_isSmithyHere at hw; unfold Ym12_smithyLineHere; first | exact hw.elim | omega)))
def Ym12_isSmithyWord (c : Nat) : Prop := False
set_option maxHeartbeats 1000000 in
theorem f12_isSmithyWord_g {F : Nat} {σ : Mem} {r : Int32 × Mem} (h : m12_isSmithyWord F  σ = some r) : Sg (Ym12_isSmithyWord) σ r.2 := by
  unfold m12_isSmithyWord at h
  have ⟨_, hc1, h⟩ := b_some h
  have qhc1 := f12_isWord_g hc1
  rcases g_if h with ⟨hq, h⟩ | ⟨hq, h⟩
  · have ⟨_, hc2, h⟩ := b_some h
    have qhc2 := f12_isWord_g hc2
    rcases g_if h with ⟨hq, h⟩ | ⟨hq, h⟩
    · have ⟨_, hc3, h⟩ := b_some h
      have qhc3 := f12_isWord_g hc3
      rcases g_if h with ⟨hq, h⟩ | ⟨hq, h⟩
      · have ⟨_, hc4, h⟩ := b_some h
        have qhc4 := f12_isWord_g hc4
        rcases g_if h with ⟨hq, h⟩ | ⟨hq, h⟩
        · have e := Option.some.inj h
          subst e
          exact (Sg.trans (Sg.trans (Sg.trans (Sg.trans (Sg.rf _ _) (Sg.mono qhc1 (fun c hw => by unfold Ym12_isWord at hw; unfold Ym12_isSmithyWord; first | exact hw.elim | omega))) (Sg.mono qhc2 (fun c hw => by unfold Ym12_isWord at hw; unfold Ym12_isSmithyWord; first | exact hw.elim | omega))) (Sg.mono qhc3 (fun c hw => by unfold Ym12_isWord at hw; unfold Ym12_isSmithyWord; first | exact hw.elim | omega))) (Sg.mono qhc4 (fun c hw => by unfold Ym12_isWord at hw; unfold Ym12_isSmithyWord; first | exact hw.elim | omega)))
        · have e := Option.some.inj h
          subst e
          exact (Sg.trans (Sg.trans (Sg.trans (Sg.trans (Sg.rf _ _) (Sg.mono qhc1 (fun c hw => by unfold Ym12_isWord at hw; unfold Ym12_isSmithyWord; first | exact hw.elim | omega))) (Sg.mono qhc2 (fun c hw => by unfold Ym12_isWord at hw; unfold Ym12_isSmithyWord; first | exact hw.elim | omega))) (Sg.mono qhc3 (fun c hw => by unfold Ym12_isWord at hw; unfold Ym12_isSmithyWord; first | exact hw.elim | omega))) (Sg.mono qhc4 (fun c hw => by unfold Ym12_isWord at hw; unfold Ym12_isSmithyWord; first | exact hw.elim | omega)))
      · have e := Option.some.inj h
        subst e
        exact (Sg.trans (Sg.trans (Sg.trans (Sg.rf _ _) (Sg.mono qhc1 (fun c hw => by unfold Ym12_isWord at hw; unfold Ym12_isSmithyWord; first | exact hw.elim | omega))) (Sg.mono qhc2 (fun c hw => by unfold Ym12_isWord at hw; unfold Ym12_isSmithyWord; first | exact hw.elim | omega))) (Sg.mono qhc3 (fun c hw => by unfold Ym12_isWord at hw; unfold Ym12_isSmithyWord; first | exact hw.elim | omega)))
    · have e := Option.some.inj h
      subst e
      exact (Sg.trans (Sg.trans (Sg.rf _ _) (Sg.mono qhc1 (fun c hw => by unfold Ym12_isWord at hw; unfold Ym12_isSmithyWord; first | exact hw.elim | omega))) (Sg.mono qhc2 (fun c hw => by unfold Ym12_isWord at hw; unfold Ym12_isSmithyWord; first | exact hw.elim | omega)))
  · have e := Option.some.inj h
    subst e
    exact (Sg.trans (Sg.rf _ _) (Sg.mono qhc1 (fun c hw => by unfold Ym12_isWord at hw; unfold Ym12_isSmithyWord; first | exact hw.elim | omega)))
def Ym12_clauseHere (c : Nat) : Prop := False
set_option maxHeartbeats 1000000 in
theorem f12_clauseHere_g71 {F : Nat} {r : Int32 × Mem} : ∀ (x1 : Int32) (x2 : Int32) (s0 : Int32) (s1 : Int32) (σ : Mem), m12_clauseHere_71 F x1 x2 s0 s1 σ = some r → Sg (Ym12_clauseHere) σ r.2 := by
  intro x1 x2 s0 s1 σ h
  unfold m12_clauseHere_71 at h
  rcases g_if h with ⟨hq, h⟩ | ⟨hq, h⟩
  · have ⟨_, hc1, h⟩ := b_some h
    have qhc1 := f12_fails_g hc1
    have ⟨hg, h⟩ := g_gd h
    have e := Option.some.inj h
    subst e
    exact (Sg.trans (Sg.rf _ _) (Sg.mono qhc1 (fun c hw => by unfold Ym12_fails at hw; unfold Ym12_clauseHere; first | exact hw.elim | omega)))
  · rcases g_if h with ⟨hq, h⟩ | ⟨hq, h⟩
    · have ⟨_, hc1, h⟩ := b_some h
      have qhc1 := f12_isStrikeHere_g hc1
      have ⟨hg, h⟩ := g_gd h
      have e := Option.some.inj h
      subst e
      exact (Sg.trans (Sg.sI (Sg.rf _ _)) (Sg.mono qhc1 (fun c hw => by unfold Ym12_isStrikeHere at hw; unfold Ym12_clauseHere; first | exact hw.elim | omega)))
    · have ⟨_, hc1, h⟩ := b_some h
      have qhc1 := f12_smithyLineHere_g hc1
      have ⟨hg, h⟩ := g_gd h
      have e := Option.some.inj h
      subst e
      exact (Sg.trans (Sg.sI (Sg.rf _ _)) (Sg.mono qhc1 (fun c hw => by unfold Ym12_smithyLineHere at hw; unfold Ym12_clauseHere; first | exact hw.elim | omega)))
set_option maxHeartbeats 1000000 in
theorem f12_clauseHere_g56 {F : Nat} {r : Int32 × Mem} : ∀ (x1 : Int32) (x2 : Int32) (σ : Mem), m12_clauseHere_56 F x1 x2 σ = some r → Sg (Ym12_clauseHere) σ r.2 := by
  intro x1 x2 σ h
  unfold m12_clauseHere_56 at h
  rcases g_if h with ⟨hq, h⟩ | ⟨hq, h⟩
  · exact Sg.trans (Sg.rf _ _) (f12_clauseHere_g71 (F := F) _ _ _ _ _ h)
  · exact Sg.trans (Sg.rf _ _) (f12_clauseHere_g71 (F := F) _ _ _ _ _ h)
set_option maxHeartbeats 1000000 in
theorem f12_clauseHere_g49 {F : Nat} {r : Int32 × Mem} : ∀ (x1 : Int32) (σ : Mem), m12_clauseHere_49 F x1 σ = some r → Sg (Ym12_clauseHere) σ r.2 := by
  intro x1 σ h
  unfold m12_clauseHere_49 at h
  have ⟨_, hc1, h⟩ := b_some h
  have qhc1 := f12_fails_g hc1
  have ⟨hg, h⟩ := g_gd h
  have e := Option.some.inj h
  subst e
  exact (Sg.trans (Sg.rf _ _) (Sg.mono qhc1 (fun c hw => by unfold Ym12_fails at hw; unfold Ym12_clauseHere; first | exact hw.elim | omega)))
set_option maxHeartbeats 1000000 in
theorem f12_clauseHere_g24 {F : Nat} {r : Int32 × Mem} : ∀ (x1 : Int32) (s0 : Int32) (σ : Mem), m12_clauseHere_24 F x1 s0 σ = some r → Sg (Ym12_clauseHere) σ r.2 := by
  intro x1 s0 σ h
  unfold m12_clauseHere_24 at h
  rcases g_if h with ⟨hq, h⟩ | ⟨hq, h⟩
  · have ⟨_, hc1, h⟩ := b_some h
    have qhc1 := f12_isWord_g hc1
    rcases g_if h with ⟨hq, h⟩ | ⟨hq, h⟩
    · exact Sg.trans (Sg.trans (Sg.rf _ _) (Sg.mono qhc1 (fun c hw => by unfold Ym12_isWord at hw; unfold Ym12_clauseHere; first | exact hw.elim | omega))) (f12_clauseHere_g49 (F := F) _ _ h)
    · exact Sg.trans (Sg.trans (Sg.rf _ _) (Sg.mono qhc1 (fun c hw => by unfold Ym12_isWord at hw; unfold Ym12_clauseHere; first | exact hw.elim | omega))) (f12_clauseHere_g56 (F := F) _ _ _ h)
  · have ⟨_, hc1, h⟩ := b_some h
    have qhc1 := f12_isSmithyWord_g hc1
    rcases g_if h with ⟨hq, h⟩ | ⟨hq, h⟩
    · exact Sg.trans (Sg.trans (Sg.rf _ _) (Sg.mono qhc1 (fun c hw => by unfold Ym12_isSmithyWord at hw; unfold Ym12_clauseHere; first | exact hw.elim | omega))) (f12_clauseHere_g49 (F := F) _ _ h)
    · exact Sg.trans (Sg.trans (Sg.rf _ _) (Sg.mono qhc1 (fun c hw => by unfold Ym12_isSmithyWord at hw; unfold Ym12_clauseHere; first | exact hw.elim | omega))) (f12_clauseHere_g56 (F := F) _ _ _ h)
set_option maxHeartbeats 1000000 in
theorem f12_clauseHere_g {F : Nat} {σ : Mem} {r : Int32 × Mem} (h : m12_clauseHere F  σ = some r) : Sg (Ym12_clauseHere) σ r.2 := by
  unfold m12_clauseHere at h
  have ⟨_, hc1, h⟩ := b_some h
  have qhc1 := f12_see_g hc1
  rcases g_if h with ⟨hq, h⟩ | ⟨hq, h⟩
  · exact Sg.trans (Sg.trans (Sg.rf _ _) (Sg.mono qhc1 (fun c hw => by unfold Ym12_see at hw; unfold Ym12_clauseHere; first | exact hw.elim | omega))) (f12_clauseHere_g24 (F := F) _ _ _ h)
  · exact Sg.trans (Sg.trans (Sg.rf _ _) (Sg.mono qhc1 (fun c hw => by unfold Ym12_see at hw; unfold Ym12_clauseHere; first | exact hw.elim | omega))) (f12_clauseHere_g24 (F := F) _ _ _ h)
def Ym12_readsAll (c : Nat) : Prop := False
set_option maxHeartbeats 1000000 in
theorem f12_readsAll_g88 {F : Nat} {r : Int32 × Mem} : ∀ (σ : Mem), m12_readsAll_88 F σ = some r → Sg (Ym12_readsAll) σ r.2 := by
  intro σ h
  unfold m12_readsAll_88 at h
  rcases g_if h with ⟨hq, h⟩ | ⟨hq, h⟩
  · have e := Option.some.inj h
    subst e
    exact (Sg.sI (Sg.rf _ _))
  · have e := Option.some.inj h
    subst e
    exact (Sg.sI (Sg.rf _ _))
set_option maxHeartbeats 1000000 in
theorem f12_readsAll_g66 {F : Nat} {r : Int32 × Mem} : ∀ (x1 : Int32) (σ : Mem), m12_readsAll_66 F x1 σ = some r → Sg (Ym12_readsAll) σ r.2 := by
  intro x1 σ h
  unfold m12_readsAll_66 at h
  rcases g_if h with ⟨hq, h⟩ | ⟨hq, h⟩
  · exact Sg.trans (Sg.rf _ _) (f12_readsAll_g88 (F := F) _ h)
  · have ⟨_, hc1, h⟩ := b_some h
    have qhc1 := f12_see_g hc1
    rcases g_if h with ⟨hq, h⟩ | ⟨hq, h⟩
    · exact Sg.trans (Sg.trans (Sg.rf _ _) (Sg.mono qhc1 (fun c hw => by unfold Ym12_see at hw; unfold Ym12_readsAll; first | exact hw.elim | omega))) (f12_readsAll_g88 (F := F) _ h)
    · have ⟨_, hc2, h⟩ := b_some h
      have qhc2 := f12_fails_g hc2
      exact Sg.trans (Sg.trans (Sg.trans (Sg.rf _ _) (Sg.mono qhc1 (fun c hw => by unfold Ym12_see at hw; unfold Ym12_readsAll; first | exact hw.elim | omega))) (Sg.mono qhc2 (fun c hw => by unfold Ym12_fails at hw; unfold Ym12_readsAll; first | exact hw.elim | omega))) (f12_readsAll_g88 (F := F) _ h)
set_option maxHeartbeats 1000000 in
theorem f12_readsAll_g35 {F : Nat} {r : Int32 × Mem} : ∀ (n : Nat) (x1 : Int32) (σ : Mem), m12_readsAll_35 F n x1 σ = some r → Sg (Ym12_readsAll) σ r.2 := by
  intro n
  induction n with
  | zero => intro x1 σ h; unfold m12_readsAll_35 at h; cases h
  | succ n ih =>
    intro x1 σ h
    unfold m12_readsAll_35 at h
    rcases g_if h with ⟨hq, h⟩ | ⟨hq, h⟩
    · exact Sg.trans (Sg.rf _ _) (f12_readsAll_g66 (F := F) _ _ h)
    · have ⟨_, hc1, h⟩ := b_some h
      have qhc1 := f12_see_g hc1
      rcases g_if h with ⟨hq, h⟩ | ⟨hq, h⟩
      · have ⟨_, hc2, h⟩ := b_some h
        have qhc2 := f12_clauseHere_g hc2
        exact Sg.trans (Sg.trans (Sg.sI (Sg.trans (Sg.rf _ _) (Sg.mono qhc1 (fun c hw => by unfold Ym12_see at hw; unfold Ym12_readsAll; first | exact hw.elim | omega)))) (Sg.mono qhc2 (fun c hw => by unfold Ym12_clauseHere at hw; unfold Ym12_readsAll; first | exact hw.elim | omega))) (ih _ _ h)
      · exact Sg.trans (Sg.trans (Sg.rf _ _) (Sg.mono qhc1 (fun c hw => by unfold Ym12_see at hw; unfold Ym12_readsAll; first | exact hw.elim | omega))) (f12_readsAll_g66 (F := F) _ _ h)
set_option maxHeartbeats 1000000 in
theorem f12_readsAll_g {F : Nat} {σ : Mem} {r : Int32 × Mem} (h : m12_readsAll F  σ = some r) : Sg (Ym12_readsAll) σ r.2 := by
  unfold m12_readsAll at h
  have ⟨hg, h⟩ := g_gd h
  have hb := inB_lt hg
  have ⟨_, hc1, h⟩ := b_some h
  have qhc1 := f12_clauseHere_g hc1
  exact Sg.trans (Sg.trans (Sg.sI (Sg.sI (Sg.sI (Sg.sI (Sg.sI (Sg.rf _ _)))))) (Sg.mono qhc1 (fun c hw => by unfold Ym12_clauseHere at hw; unfold Ym12_readsAll; first | exact hw.elim | omega))) (f12_readsAll_g35 (F := F) F _ _ h)
def Ym12_rule (c : Nat) : Prop := False
set_option maxHeartbeats 1000000 in
theorem f12_rule_g {F : Nat} {σ : Mem} {r : Int32 × Mem} (h : m12_rule F  σ = some r) : Sg (Ym12_rule) σ r.2 := by
  unfold m12_rule at h
  rcases g_if h with ⟨hq, h⟩ | ⟨hq, h⟩
  · have e := Option.some.inj h
    subst e
    exact (Sg.rf _ _)
  · have ⟨hg, h⟩ := g_gd h
    have hb := inB_lt hg
    have ⟨_, hc1, h⟩ := b_some h
    have qhc1 := f12_readsAll_g hc1
    rcases g_if h with ⟨hq, h⟩ | ⟨hq, h⟩
    · have e := Option.some.inj h
      subst e
      exact (Sg.trans (Sg.sI (Sg.sI (Sg.rf _ _))) (Sg.mono qhc1 (fun c hw => by unfold Ym12_readsAll at hw; unfold Ym12_rule; first | exact hw.elim | omega)))
    · have e := Option.some.inj h
      subst e
      exact (Sg.sI (Sg.trans (Sg.sI (Sg.sI (Sg.rf _ _))) (Sg.mono qhc1 (fun c hw => by unfold Ym12_readsAll at hw; unfold Ym12_rule; first | exact hw.elim | omega))))
def Ym12_smithy (c : Nat) : Prop := False
set_option maxHeartbeats 1000000 in
theorem f12_smithy_g104 {F : Nat} {r : Int32 × Mem} : ∀ (n : Nat) (x1 : Int32) (σ : Mem), m12_smithy_104 F n x1 σ = some r → Sg (Ym12_smithy) σ r.2 := by
  intro n
  induction n with
  | zero => intro x1 σ h; unfold m12_smithy_104 at h; cases h
  | succ n ih =>
    intro x1 σ h
    unfold m12_smithy_104 at h
    rcases g_if h with ⟨hq, h⟩ | ⟨hq, h⟩
    · have ⟨hg, h⟩ := g_gd h
      have hb := inB_lt hg
      have e := Option.some.inj h
      subst e
      exact (Sg.sI (Sg.rf _ _))
    · have ⟨hg, h⟩ := g_gd h
      have hb := inB_lt hg
      have ⟨hg, h⟩ := g_gd h
      have hb := inB_lt hg
      exact Sg.trans (Sg.sI (Sg.rf _ _)) (ih _ _ h)
set_option maxHeartbeats 1000000 in
theorem f12_smithy_g67 {F : Nat} {r : Int32 × Mem} : ∀ (n : Nat) (x1 : Int32) (σ : Mem), m12_smithy_67 F n x1 σ = some r → Sg (Ym12_smithy) σ r.2 := by
  intro n
  induction n with
  | zero => intro x1 σ h; unfold m12_smithy_67 at h; cases h
  | succ n ih =>
    intro x1 σ h
    unfold m12_smithy_67 at h
    rcases g_if h with ⟨hq, h⟩ | ⟨hq, h⟩
    · exact Sg.trans (Sg.rf _ _) (f12_smithy_g104 (F := F) F _ _ h)
    · rcases g_if h with ⟨hq, h⟩ | ⟨hq, h⟩
      · have ⟨hg, h⟩ := g_gd h
        have hb := inB_lt hg
        exact Sg.trans (Sg.sI (Sg.rf _ _)) (ih _ _ h)
      · have ⟨hg, h⟩ := g_gd h
        have hb := inB_lt hg
        have ⟨hg, h⟩ := g_gd h
        have hb := inB_lt hg
        exact Sg.trans (Sg.sI (Sg.rf _ _)) (ih _ _ h)
set_option maxHeartbeats 1000000 in
theorem f12_smithy_g29 {F : Nat} {r : Int32 × Mem} : ∀ (n : Nat) (x1 : Int32) (σ : Mem), m12_smithy_29 F n x1 σ = some r → Sg (Ym12_smithy) σ r.2 := by
  intro n
  induction n with
  | zero => intro x1 σ h; unfold m12_smithy_29 at h; cases h
  | succ n ih =>
    intro x1 σ h
    unfold m12_smithy_29 at h
    rcases g_if h with ⟨hq, h⟩ | ⟨hq, h⟩
    · have ⟨_, hc1, h⟩ := b_some h
      have qhc1 := f12_readsAll_g hc1
      rcases g_if h with ⟨hq, h⟩ | ⟨hq, h⟩
      · have e := Option.some.inj h
        subst e
        exact (Sg.trans (Sg.rf _ _) (Sg.mono qhc1 (fun c hw => by unfold Ym12_readsAll at hw; unfold Ym12_smithy; first | exact hw.elim | omega)))
      · exact Sg.trans (Sg.trans (Sg.rf _ _) (Sg.mono qhc1 (fun c hw => by unfold Ym12_readsAll at hw; unfold Ym12_smithy; first | exact hw.elim | omega))) (f12_smithy_g67 (F := F) F _ _ h)
    · have ⟨hg, h⟩ := g_gd h
      have hb := inB_lt hg
      exact Sg.trans (Sg.sI (Sg.rf _ _)) (ih _ _ h)
set_option maxHeartbeats 1000000 in
theorem f12_smithy_g8 {F : Nat} {r : Int32 × Mem} : ∀ (n : Nat) (x1 : Int32) (σ : Mem), m12_smithy_8 F n x1 σ = some r → Sg (Ym12_smithy) σ r.2 := by
  intro n
  induction n with
  | zero => intro x1 σ h; unfold m12_smithy_8 at h; cases h
  | succ n ih =>
    intro x1 σ h
    unfold m12_smithy_8 at h
    rcases g_if h with ⟨hq, h⟩ | ⟨hq, h⟩
    · exact Sg.trans (Sg.rf _ _) (f12_smithy_g29 (F := F) F _ _ h)
    · have ⟨hg, h⟩ := g_gd h
      have hb := inB_lt hg
      exact Sg.trans (Sg.sI (Sg.rf _ _)) (ih _ _ h)
set_option maxHeartbeats 1000000 in
theorem f12_smithy_g {F : Nat} {σ : Mem} {r : Int32 × Mem} (h : m12_smithy F  σ = some r) : Sg (Ym12_smithy) σ r.2 := by
  unfold m12_smithy at h
  exact Sg.trans (Sg.sI (Sg.rf _ _)) (f12_smithy_g8 (F := F) F _ _ h)
def Ym12_push (c : Nat) : Prop := False
set_option maxHeartbeats 1000000 in
theorem f12_push_g {F : Nat} {j1 : Int64} {σ : Mem} {r : Mem} (h : m12_push F j1 σ = some r) : Sg (Ym12_push) σ r := by
  unfold m12_push at h
  have ⟨hg, h⟩ := g_gd h
  have hb := inB_lt hg
  have e := Option.some.inj h
  subst e
  exact (Sg.sI (Sg.ne (Sg.rf _ _) (by decide)))
def Ym12_pop (c : Nat) : Prop := False
set_option maxHeartbeats 1000000 in
theorem f12_pop_g {F : Nat} {σ : Mem} {r : Int64 × Mem} (h : m12_pop F  σ = some r) : Sg (Ym12_pop) σ r.2 := by
  unfold m12_pop at h
  have ⟨hg, h⟩ := g_gd h
  have hb := inB_lt hg
  have e := Option.some.inj h
  subst e
  exact (Sg.sI (Sg.rf _ _))
def Ym12_reckons (c : Nat) : Prop := False
set_option maxHeartbeats 1000000 in
theorem f12_reckons_g8 {F : Nat} {i1 : Int32} {i2 : Int32} {i3 : Int32} {r : Int64 × Mem} : ∀ (n : Nat) (x4 : Int32) (σ : Mem), m12_reckons_8 F i1 i2 i3 n x4 σ = some r → Sg (Ym12_reckons) σ r.2 := by
  intro n
  induction n with
  | zero => intro x4 σ h; unfold m12_reckons_8 at h; cases h
  | succ n ih =>
    intro x4 σ h
    unfold m12_reckons_8 at h
    rcases g_if h with ⟨hq, h⟩ | ⟨hq, h⟩
    · have ⟨_, hc1, h⟩ := b_some h
      have qhc1 := f12_pop_g hc1
      have e := Option.some.inj h
      subst e
      exact (Sg.trans (Sg.rf _ _) (Sg.mono qhc1 (fun c hw => by unfold Ym12_pop at hw; unfold Ym12_reckons; first | exact hw.elim | omega)))
    · have ⟨hg, h⟩ := g_gd h
      have hb := inB_lt hg
      have ⟨hg, h⟩ := g_gd h
      have hb := inB_lt hg
      rcases g_if h with ⟨hq, h⟩ | ⟨hq, h⟩
      · have ⟨_, hc1, h⟩ := b_some h
        have qhc1 := f12_push_g hc1
        exact Sg.trans (Sg.trans (Sg.rf _ _) (Sg.mono qhc1 (fun c hw => by unfold Ym12_push at hw; unfold Ym12_reckons; first | exact hw.elim | omega))) (ih _ _ h)
      · rcases g_if h with ⟨hq, h⟩ | ⟨hq, h⟩
        · have ⟨hg, h⟩ := g_gd h
          have hb := inB_lt hg
          have ⟨_, hc1, h⟩ := b_some h
          have qhc1 := f12_push_g hc1
          exact Sg.trans (Sg.trans (Sg.rf _ _) (Sg.mono qhc1 (fun c hw => by unfold Ym12_push at hw; unfold Ym12_reckons; first | exact hw.elim | omega))) (ih _ _ h)
        · rcases g_if h with ⟨hq, h⟩ | ⟨hq, h⟩
          · have ⟨_, hc1, h⟩ := b_some h
            have qhc1 := f12_pop_g hc1
            have ⟨_, hc2, h⟩ := b_some h
            have qhc2 := f12_push_g hc2
            exact Sg.trans (Sg.trans (Sg.trans (Sg.rf _ _) (Sg.mono qhc1 (fun c hw => by unfold Ym12_pop at hw; unfold Ym12_reckons; first | exact hw.elim | omega))) (Sg.mono qhc2 (fun c hw => by unfold Ym12_push at hw; unfold Ym12_reckons; first | exact hw.elim | omega))) (ih _ _ h)
          · have ⟨_, hc1, h⟩ := b_some h
            have qhc1 := f12_pop_g hc1
            have ⟨_, hc2, h⟩ := b_some h
            have qhc2 := f12_pop_g hc2
            have ⟨_, hc3, h⟩ := b_some h
            have ⟨_, hc4, h⟩ := b_some h
            have qhc4 := f12_push_g hc4
            exact Sg.trans (Sg.trans (Sg.trans (Sg.trans (Sg.rf _ _) (Sg.mono qhc1 (fun c hw => by unfold Ym12_pop at hw; unfold Ym12_reckons; first | exact hw.elim | omega))) (Sg.mono qhc2 (fun c hw => by unfold Ym12_pop at hw; unfold Ym12_reckons; first | exact hw.elim | omega))) (Sg.mono qhc4 (fun c hw => by unfold Ym12_push at hw; unfold Ym12_reckons; first | exact hw.elim | omega))) (ih _ _ h)
set_option maxHeartbeats 1000000 in
theorem f12_reckons_g {F : Nat} {i1 : Int32} {i2 : Int32} {i3 : Int32} {σ : Mem} {r : Int64 × Mem} (h : m12_reckons F i1 i2 i3 σ = some r) : Sg (Ym12_reckons) σ r.2 := by
  unfold m12_reckons at h
  exact Sg.trans (Sg.sI (Sg.rf _ _)) (f12_reckons_g8 (F := F) F _ _ h)
def Ym12_force (c : Nat) : Prop := False
set_option maxHeartbeats 1000000 in
theorem f12_force_g16 {F : Nat} {i1 : Int32} {r : Int32 × Mem} : ∀ (σ : Mem), m12_force_16 F i1 σ = some r → Sg (Ym12_force) σ r.2 := by
  intro σ h
  unfold m12_force_16 at h
  have e := Option.some.inj h
  subst e
  exact (Sg.sI (Sg.rf _ _))
set_option maxHeartbeats 1000000 in
theorem f12_force_g {F : Nat} {i1 : Int32} {σ : Mem} {r : Int32 × Mem} (h : m12_force F i1 σ = some r) : Sg (Ym12_force) σ r.2 := by
  unfold m12_force at h
  rcases g_if h with ⟨hq, h⟩ | ⟨hq, h⟩
  · exact Sg.trans (Sg.rf _ _) (f12_force_g16 (F := F) _ h)
  · have ⟨_, hc1, h⟩ := b_some h
    rcases g_if h with ⟨hq, h⟩ | ⟨hq, h⟩
    · have e := Option.some.inj h
      subst e
      exact (Sg.rf _ _)
    · exact Sg.trans (Sg.rf _ _) (f12_force_g16 (F := F) _ h)
def Ym12_words (c : Nat) : Prop := False
set_option maxHeartbeats 1000000 in
theorem f12_words_g45 {F : Nat} {i1 : Int32} {r : Mem} : ∀ (x2 : Int32) (s1 : Int32) (s2 : Int64) (σ : Mem), m12_words_45 F i1 x2 s1 s2 σ = some r → Sg (Ym12_words) σ r := by
  intro x2 s1 s2 σ h
  unfold m12_words_45 at h
  have ⟨hg, h⟩ := g_gd h
  have hb := inB_lt hg
  have ⟨_, hc1, h⟩ := b_some h
  have ⟨hg, h⟩ := g_gd h
  have hb := inB_lt hg
  have ⟨_, hc2, h⟩ := b_some h
  have ⟨hg, h⟩ := g_gd h
  have hb := inB_lt hg
  have ⟨_, hc3, h⟩ := b_some h
  have ⟨hg, h⟩ := g_gd h
  have hb := inB_lt hg
  have ⟨_, hc4, h⟩ := b_some h
  have ⟨hg, h⟩ := g_gd h
  have hb := inB_lt hg
  have ⟨hg, h⟩ := g_gd h
  have hb := inB_lt hg
  have ⟨hg, h⟩ := g_gd h
  have hb := inB_lt hg
  have ⟨_, hc5, h⟩ := b_some h
  have ⟨hg, h⟩ := g_gd h
  have hb := inB_lt hg
  have ⟨_, hc6, h⟩ := b_some h
  have ⟨hg, h⟩ := g_gd h
  have hb := inB_lt hg
  have ⟨_, hc7, h⟩ := b_some h
  have ⟨hg, h⟩ := g_gd h
  have hb := inB_lt hg
  have ⟨hg, h⟩ := g_gd h
  have hb := inB_lt hg
  have ⟨_, hc8, h⟩ := b_some h
  have ⟨hg, h⟩ := g_gd h
  have hb := inB_lt hg
  have ⟨_, hc9, h⟩ := b_some h
  have ⟨hg, h⟩ := g_gd h
  have hb := inB_lt hg
  have e := Option.some.inj h
  subst e
  exact (Sg.ne (Sg.ne (Sg.ne (Sg.ne (Sg.ne (Sg.ne (Sg.ne (Sg.ne (Sg.ne (Sg.ne (Sg.ne (Sg.rf _ _) (by decide)) (by decide)) (by decide)) (by decide)) (by decide)) (by decide)) (by decide)) (by decide)) (by decide)) (by decide)) (by decide))
set_option maxHeartbeats 1000000 in
theorem f12_words_g {F : Nat} {i1 : Int32} {σ : Mem} {r : Mem} (h : m12_words F i1 σ = some r) : Sg (Ym12_words) σ r := by
  unfold m12_words at h
  have ⟨_, hc1, h⟩ := b_some h
  have ⟨hg, h⟩ := g_gd h
  have hb := inB_lt hg
  have ⟨_, hc2, h⟩ := b_some h
  have ⟨hg, h⟩ := g_gd h
  have hb := inB_lt hg
  have ⟨_, hc3, h⟩ := b_some h
  rcases g_if h with ⟨hq, h⟩ | ⟨hq, h⟩
  · exact Sg.trans (Sg.ne (Sg.ne (Sg.rf _ _) (by decide)) (by decide)) (f12_words_g45 (F := F) _ _ _ _ h)
  · exact Sg.trans (Sg.ne (Sg.ne (Sg.rf _ _) (by decide)) (by decide)) (f12_words_g45 (F := F) _ _ _ _ h)
def Ym12_summedBy (c : Nat) : Prop := False
set_option maxHeartbeats 1000000 in
theorem f12_summedBy_g58 {F : Nat} {i1 : Int32} {r : Int64 × Mem} : ∀ (x3 : Int32) (σ : Mem), m12_summedBy_58 F i1 x3 σ = some r → Sg (Ym12_summedBy) σ r.2 := by
  intro x3 σ h
  unfold m12_summedBy_58 at h
  have ⟨hg, h⟩ := g_gd h
  have hb := inB_lt hg
  have ⟨hg, h⟩ := g_gd h
  have hb := inB_lt hg
  have ⟨_, hc1, h⟩ := b_some h
  have qhc1 := f12_reckons_g hc1
  have e := Option.some.inj h
  subst e
  exact (Sg.trans (Sg.rf _ _) (Sg.mono qhc1 (fun c hw => by unfold Ym12_reckons at hw; unfold Ym12_summedBy; first | exact hw.elim | omega)))
set_option maxHeartbeats 1000000 in
theorem f12_summedBy_g2 {F : Nat} {i1 : Int32} {r : Int64 × Mem} : ∀ (n : Nat) (x2 : Int32) (σ : Mem), m12_summedBy_2 F i1 n x2 σ = some r → Sg (Ym12_summedBy) σ r.2 := by
  intro n
  induction n with
  | zero => intro x2 σ h; unfold m12_summedBy_2 at h; cases h
  | succ n ih =>
    intro x2 σ h
    unfold m12_summedBy_2 at h
    have ⟨hg, h⟩ := g_gd h
    have hb := inB_lt hg
    rcases g_if h with ⟨hq, h⟩ | ⟨hq, h⟩
    · have e := Option.some.inj h
      subst e
      exact (Sg.rf _ _)
    · have ⟨hg, h⟩ := g_gd h
      have hb := inB_lt hg
      rcases g_if h with ⟨hq, h⟩ | ⟨hq, h⟩
      · exact Sg.trans (Sg.rf _ _) (f12_summedBy_g58 (F := F) _ _ h)
      · have ⟨hg, h⟩ := g_gd h
        have hb := inB_lt hg
        have ⟨hg, h⟩ := g_gd h
        have hb := inB_lt hg
        have ⟨_, hc1, h⟩ := b_some h
        have qhc1 := f12_reckons_g hc1
        rcases g_if h with ⟨hq, h⟩ | ⟨hq, h⟩
        · exact Sg.trans (Sg.trans (Sg.rf _ _) (Sg.mono qhc1 (fun c hw => by unfold Ym12_reckons at hw; unfold Ym12_summedBy; first | exact hw.elim | omega))) (f12_summedBy_g58 (F := F) _ _ h)
        · exact Sg.trans (Sg.trans (Sg.rf _ _) (Sg.mono qhc1 (fun c hw => by unfold Ym12_reckons at hw; unfold Ym12_summedBy; first | exact hw.elim | omega))) (ih _ _ h)
set_option maxHeartbeats 1000000 in
theorem f12_summedBy_g {F : Nat} {i1 : Int32} {σ : Mem} {r : Int64 × Mem} (h : m12_summedBy F i1 σ = some r) : Sg (Ym12_summedBy) σ r.2 := by
  unfold m12_summedBy at h
  exact Sg.trans (Sg.rf _ _) (f12_summedBy_g2 (F := F) F _ _ h)
def Ym12_willsStrike (c : Nat) : Prop := False
set_option maxHeartbeats 1000000 in
theorem f12_willsStrike_g {F : Nat} {i1 : Int32} {σ : Mem} {r : Int32 × Mem} (h : m12_willsStrike F i1 σ = some r) : Sg (Ym12_willsStrike) σ r.2 := by
  unfold m12_willsStrike at h
  have ⟨_, hc1, h⟩ := b_some h
  rcases g_if h with ⟨hq, h⟩ | ⟨hq, h⟩
  · rcases g_if h with ⟨hq, h⟩ | ⟨hq, h⟩
    · rcases g_if h with ⟨hq, h⟩ | ⟨hq, h⟩
      · have ⟨_, hc2, h⟩ := b_some h
        have qhc2 := f12_words_g hc2
        have ⟨_, hc3, h⟩ := b_some h
        have qhc3 := f12_summedBy_g hc3
        rcases g_if h with ⟨hq, h⟩ | ⟨hq, h⟩
        · have e := Option.some.inj h
          subst e
          exact (Sg.trans (Sg.trans (Sg.rf _ _) (Sg.mono qhc2 (fun c hw => by unfold Ym12_words at hw; unfold Ym12_willsStrike; first | exact hw.elim | omega))) (Sg.mono qhc3 (fun c hw => by unfold Ym12_summedBy at hw; unfold Ym12_willsStrike; first | exact hw.elim | omega)))
        · have e := Option.some.inj h
          subst e
          exact (Sg.trans (Sg.trans (Sg.rf _ _) (Sg.mono qhc2 (fun c hw => by unfold Ym12_words at hw; unfold Ym12_willsStrike; first | exact hw.elim | omega))) (Sg.mono qhc3 (fun c hw => by unfold Ym12_summedBy at hw; unfold Ym12_willsStrike; first | exact hw.elim | omega)))
      · have ⟨_, hc2, h⟩ := b_some h
        have ⟨hg, h⟩ := g_gd h
        have e := Option.some.inj h
        subst e
        exact (Sg.rf _ _)
    · have ⟨_, hc2, h⟩ := b_some h
      have ⟨hg, h⟩ := g_gd h
      have e := Option.some.inj h
      subst e
      exact (Sg.rf _ _)
  · have e := Option.some.inj h
    subst e
    exact (Sg.rf _ _)
def Ym12_takesTurns (c : Nat) : Prop := False
set_option maxHeartbeats 1000000 in
theorem f12_takesTurns_g141 {F : Nat} {r : Mem} {k87 : Int32 → Int32 → Mem → Option (Mem)} (hk87 : ∀ (x1 : Int32) (x2 : Int32) (σ : Mem), k87 x1 x2 σ = some r → Sg (Ym12_takesTurns) σ r) : ∀ (n : Nat) (x1 : Int32) (x2 : Int32) (x3 : Int32) (x4 : Int32) (σ : Mem), m12_takesTurns_141 F k87 n x1 x2 x3 x4 σ = some r → Sg (Ym12_takesTurns) σ r := by
  intro n
  induction n with
  | zero => intro x1 x2 x3 x4 σ h; unfold m12_takesTurns_141 at h; cases h
  | succ n ih =>
    intro x1 x2 x3 x4 σ h
    unfold m12_takesTurns_141 at h
    rcases g_if h with ⟨hq, h⟩ | ⟨hq, h⟩
    · exact Sg.trans (Sg.rf _ _) (hk87 _ _ _ h)
    · have ⟨_, hc1, h⟩ := b_some h
      rcases g_if h with ⟨hq, h⟩ | ⟨hq, h⟩
      · exact Sg.trans (Sg.rf _ _) (ih _ _ _ _ _ h)
      · have ⟨hg, h⟩ := g_gd h
        have hb := inB_lt hg
        exact Sg.trans (Sg.sI (Sg.rf _ _)) (ih _ _ _ _ _ h)
set_option maxHeartbeats 1000000 in
theorem f12_takesTurns_g87 {F : Nat} {r : Mem} : ∀ (n : Nat) (x1 : Int32) (x2 : Int32) (σ : Mem), m12_takesTurns_87 F n x1 x2 σ = some r → Sg (Ym12_takesTurns) σ r := by
  intro n
  induction n with
  | zero => intro x1 x2 σ h; unfold m12_takesTurns_87 at h; cases h
  | succ n ih =>
    intro x1 x2 σ h
    unfold m12_takesTurns_87 at h
    have ⟨hg, h⟩ := g_gd h
    have hb := inB_lt hg
    rcases g_if h with ⟨hq, h⟩ | ⟨hq, h⟩
    · have e := Option.some.inj h
      subst e
      exact (Sg.rf _ _)
    · have ⟨hg, h⟩ := g_gd h
      have hb := inB_lt hg
      rcases g_if h with ⟨hq, h⟩ | ⟨hq, h⟩
      · exact Sg.trans (Sg.rf _ _) (ih _ _ _ h)
      · have ⟨_, hc1, h⟩ := b_some h
        have ⟨_, hc2, h⟩ := b_some h
        rcases g_if h with ⟨hq, h⟩ | ⟨hq, h⟩
        · have ⟨hg, h⟩ := g_gd h
          have hb := inB_lt hg
          exact Sg.trans (Sg.sI (Sg.rf _ _)) (f12_takesTurns_g141 (F := F) (fun _ _ _ h => (ih _ _ _ h)) F _ _ _ _ _ h)
        · rcases g_if h with ⟨hq, h⟩ | ⟨hq, h⟩
          · exact Sg.trans (Sg.rf _ _) (ih _ _ _ h)
          · rcases g_if h with ⟨hq, h⟩ | ⟨hq, h⟩
            · rcases g_if h with ⟨hq, h⟩ | ⟨hq, h⟩
              · have ⟨hg, h⟩ := g_gd h
                have hb := inB_lt hg
                exact Sg.trans (Sg.sI (Sg.sI (Sg.rf _ _))) (ih _ _ _ h)
              · exact Sg.trans (Sg.rf _ _) (ih _ _ _ h)
            · exact Sg.trans (Sg.rf _ _) (ih _ _ _ h)
set_option maxHeartbeats 1000000 in
theorem f12_takesTurns_g67 {F : Nat} {r : Mem} : ∀ (n : Nat) (x1 : Int32) (x2 : Int32) (σ : Mem), m12_takesTurns_67 F n x1 x2 σ = some r → Sg (Ym12_takesTurns) σ r := by
  intro n
  induction n with
  | zero => intro x1 x2 σ h; unfold m12_takesTurns_67 at h; cases h
  | succ n ih =>
    intro x1 x2 σ h
    unfold m12_takesTurns_67 at h
    rcases g_if h with ⟨hq, h⟩ | ⟨hq, h⟩
    · exact Sg.trans (Sg.rf _ _) (f12_takesTurns_g87 (F := F) F _ _ _ h)
    · have ⟨hg, h⟩ := g_gd h
      have hb := inB_lt hg
      exact Sg.trans (Sg.sI (Sg.rf _ _)) (ih _ _ _ h)
set_option maxHeartbeats 1000000 in
theorem f12_takesTurns_g29 {F : Nat} {r : Mem} : ∀ (n : Nat) (x1 : Int32) (x2 : Int32) (σ : Mem), m12_takesTurns_29 F n x1 x2 σ = some r → Sg (Ym12_takesTurns) σ r := by
  intro n
  induction n with
  | zero => intro x1 x2 σ h; unfold m12_takesTurns_29 at h; cases h
  | succ n ih =>
    intro x1 x2 σ h
    unfold m12_takesTurns_29 at h
    have ⟨hg, h⟩ := g_gd h
    have hb := inB_lt hg
    rcases g_if h with ⟨hq, h⟩ | ⟨hq, h⟩
    · exact Sg.trans (Sg.rf _ _) (f12_takesTurns_g67 (F := F) F _ _ _ h)
    · have ⟨_, hc1, h⟩ := b_some h
      have qhc1 := f12_willsStrike_g hc1
      rcases g_if h with ⟨hq, h⟩ | ⟨hq, h⟩
      · have ⟨hg, h⟩ := g_gd h
        have hb := inB_lt hg
        exact Sg.trans (Sg.sI (Sg.trans (Sg.rf _ _) (Sg.mono qhc1 (fun c hw => by unfold Ym12_willsStrike at hw; unfold Ym12_takesTurns; first | exact hw.elim | omega)))) (ih _ _ _ h)
      · have ⟨hg, h⟩ := g_gd h
        have hb := inB_lt hg
        exact Sg.trans (Sg.sI (Sg.trans (Sg.rf _ _) (Sg.mono qhc1 (fun c hw => by unfold Ym12_willsStrike at hw; unfold Ym12_takesTurns; first | exact hw.elim | omega)))) (ih _ _ _ h)
set_option maxHeartbeats 1000000 in
theorem f12_takesTurns_g {F : Nat} {σ : Mem} {r : Mem} (h : m12_takesTurns F  σ = some r) : Sg (Ym12_takesTurns) σ r := by
  unfold m12_takesTurns at h
  have ⟨_, hc1, h⟩ := b_some h
  have ⟨hg, h⟩ := g_gd h
  have hb := inB_lt hg
  rcases g_if h with ⟨hq, h⟩ | ⟨hq, h⟩
  · exact Sg.trans (Sg.sI (Sg.rf _ _)) (f12_takesTurns_g29 (F := F) F _ _ _ h)
  · exact Sg.trans (Sg.sI (Sg.rf _ _)) (f12_takesTurns_g29 (F := F) F _ _ _ h)
def Ym12_heats (c : Nat) : Prop := False
set_option maxHeartbeats 1000000 in
theorem f12_heats_g {F : Nat} {i1 : Int32} {i2 : Int32} {σ : Mem} {r : Mem} (h : m12_heats F i1 i2 σ = some r) : Sg (Ym12_heats) σ r := by
  unfold m12_heats at h
  rcases g_if h with ⟨hq, h⟩ | ⟨hq, h⟩
  · have ⟨hg, h⟩ := g_gd h
    have hb := inB_lt hg
    have ⟨hg, h⟩ := g_gd h
    have hb := inB_lt hg
    have ⟨hg, h⟩ := g_gd h
    have hb := inB_lt hg
    have ⟨hg, h⟩ := g_gd h
    have hb := inB_lt hg
    have ⟨hg, h⟩ := g_gd h
    have hb := inB_lt hg
    rcases g_if h with ⟨hq, h⟩ | ⟨hq, h⟩
    · have ⟨hg, h⟩ := g_gd h
      have hb := inB_lt hg
      rcases g_if h with ⟨hq, h⟩ | ⟨hq, h⟩
      · have ⟨hg, h⟩ := g_gd h
        have hb := inB_lt hg
        have ⟨hg, h⟩ := g_gd h
        have hb := inB_lt hg
        have ⟨_, hc1, h⟩ := b_some h
        have ⟨hg, h⟩ := g_gd h
        have hb := inB_lt hg
        have e := Option.some.inj h
        subst e
        exact (Sg.sI (Sg.sI (Sg.sI (Sg.sI (Sg.rf _ _)))))
      · have e := Option.some.inj h
        subst e
        exact (Sg.sI (Sg.sI (Sg.rf _ _)))
    · have e := Option.some.inj h
      subst e
      exact (Sg.sI (Sg.rf _ _))
  · have e := Option.some.inj h
    subst e
    exact (Sg.rf _ _)
def Ym12_strikes (c : Nat) : Prop := False
set_option maxHeartbeats 1000000 in
theorem f12_strikes_g70 {F : Nat} {i1 : Int32} {i2 : Int32} {i3 : Int32} {r : Mem} : ∀ (x4 : Int32) (σ : Mem), m12_strikes_70 F i1 i2 i3 x4 σ = some r → Sg (Ym12_strikes) σ r := by
  intro x4 σ h
  unfold m12_strikes_70 at h
  have ⟨_, hc1, h⟩ := b_some h
  rcases g_if h with ⟨hq, h⟩ | ⟨hq, h⟩
  · have ⟨hg, h⟩ := g_gd h
    have hb := inB_lt hg
    have ⟨hg, h⟩ := g_gd h
    have hb := inB_lt hg
    have ⟨hg, h⟩ := g_gd h
    have hb := inB_lt hg
    have ⟨hg, h⟩ := g_gd h
    have hb := inB_lt hg
    have ⟨hg, h⟩ := g_gd h
    have hb := inB_lt hg
    have ⟨hg, h⟩ := g_gd h
    have hb := inB_lt hg
    have ⟨_, hc2, h⟩ := b_some h
    have ⟨hg, h⟩ := g_gd h
    have hb := inB_lt hg
    have e := Option.some.inj h
    subst e
    exact (Sg.sI (Sg.sI (Sg.sI (Sg.sI (Sg.rf _ _)))))
  · have e := Option.some.inj h
    subst e
    exact (Sg.rf _ _)
set_option maxHeartbeats 1000000 in
theorem f12_strikes_g23 {F : Nat} {i1 : Int32} {i2 : Int32} {i3 : Int32} {r : Mem} : ∀ (x4 : Int32) (σ : Mem), m12_strikes_23 F i1 i2 i3 x4 σ = some r → Sg (Ym12_strikes) σ r := by
  intro x4 σ h
  unfold m12_strikes_23 at h
  rcases g_if h with ⟨hq, h⟩ | ⟨hq, h⟩
  · rcases g_if h with ⟨hq, h⟩ | ⟨hq, h⟩
    · have ⟨hg, h⟩ := g_gd h
      have hb := inB_lt hg
      have ⟨hg, h⟩ := g_gd h
      have hb := inB_lt hg
      exact Sg.trans (Sg.sI (Sg.rf _ _)) (f12_strikes_g70 (F := F) _ _ h)
    · have ⟨hg, h⟩ := g_gd h
      have hb := inB_lt hg
      have ⟨hg, h⟩ := g_gd h
      have hb := inB_lt hg
      exact Sg.trans (Sg.sI (Sg.rf _ _)) (f12_strikes_g70 (F := F) _ _ h)
  · have e := Option.some.inj h
    subst e
    exact (Sg.rf _ _)
set_option maxHeartbeats 1000000 in
theorem f12_strikes_g {F : Nat} {i1 : Int32} {i2 : Int32} {i3 : Int32} {σ : Mem} {r : Mem} (h : m12_strikes F i1 i2 i3 σ = some r) : Sg (Ym12_strikes) σ r := by
  unfold m12_strikes at h
  rcases g_if h with ⟨hq, h⟩ | ⟨hq, h⟩
  · exact Sg.trans (Sg.rf _ _) (f12_strikes_g23 (F := F) _ _ h)
  · have ⟨hg, h⟩ := g_gd h
    have hb := inB_lt hg
    have ⟨hg, h⟩ := g_gd h
    have hb := inB_lt hg
    exact Sg.trans (Sg.sI (Sg.rf _ _)) (f12_strikes_g23 (F := F) _ _ h)
def Ym12_goesOn (c : Nat) : Prop := False
set_option maxHeartbeats 1000000 in
theorem f12_goesOn_g123 {F : Nat} {i1 : Int32} {r : Mem} : ∀ (x2 : Int32) (x4 : Int32) (s1 : Int32) (s2 : Int32) (σ : Mem), m12_goesOn_123 F i1 x2 x4 s1 s2 σ = some r → Sg (Ym12_goesOn) σ r := by
  intro x2 x4 s1 s2 σ h
  unfold m12_goesOn_123 at h
  have ⟨hg, h⟩ := g_gd h
  have hb := inB_lt hg
  have ⟨hg, h⟩ := g_gd h
  have hb := inB_lt hg
  rcases g_if h with ⟨hq, h⟩ | ⟨hq, h⟩
  · have e := Option.some.inj h
    subst e
    exact (Sg.sI (Sg.rf _ _))
  · have ⟨_, hc1, h⟩ := b_some h
    have qhc1 := f12_strikes_g hc1
    have e := Option.some.inj h
    subst e
    exact (Sg.trans (Sg.sI (Sg.rf _ _)) (Sg.mono qhc1 (fun c hw => by unfold Ym12_strikes at hw; unfold Ym12_goesOn; first | exact hw.elim | omega)))
set_option maxHeartbeats 1000000 in
theorem f12_goesOn_g56 {F : Nat} {i1 : Int32} {r : Mem} : ∀ (x2 : Int32) (x3 : Int32) (σ : Mem), m12_goesOn_56 F i1 x2 x3 σ = some r → Sg (Ym12_goesOn) σ r := by
  intro x2 x3 σ h
  unfold m12_goesOn_56 at h
  rcases g_if h with ⟨hq, h⟩ | ⟨hq, h⟩
  · have ⟨hg, h⟩ := g_gd h
    have hb := inB_lt hg
    rcases g_if h with ⟨hq, h⟩ | ⟨hq, h⟩
    · have ⟨_, hc1, h⟩ := b_some h
      have qhc1 := f12_heats_g hc1
      have e := Option.some.inj h
      subst e
      exact (Sg.trans (Sg.rf _ _) (Sg.mono qhc1 (fun c hw => by unfold Ym12_heats at hw; unfold Ym12_goesOn; first | exact hw.elim | omega)))
    · have ⟨_, hc1, h⟩ := b_some h
      have ⟨hg, h⟩ := g_gd h
      have hb := inB_lt hg
      have ⟨hg, h⟩ := g_gd h
      have hb := inB_lt hg
      rcases g_if h with ⟨hq, h⟩ | ⟨hq, h⟩
      · have ⟨hg, h⟩ := g_gd h
        have hb := inB_lt hg
        have ⟨hg, h⟩ := g_gd h
        have hb := inB_lt hg
        exact Sg.trans (Sg.rf _ _) (f12_goesOn_g123 (F := F) _ _ _ _ _ h)
      · exact Sg.trans (Sg.rf _ _) (f12_goesOn_g123 (F := F) _ _ _ _ _ h)
  · have e := Option.some.inj h
    subst e
    exact (Sg.rf _ _)
set_option maxHeartbeats 1000000 in
theorem f12_goesOn_g55 {F : Nat} {i1 : Int32} {r : Mem} {k56 : Int32 → Int32 → Mem → Option (Mem)} (hk56 : ∀ (x2 : Int32) (x3 : Int32) (σ : Mem), k56 x2 x3 σ = some r → Sg (Ym12_goesOn) σ r) : ∀ (x2 : Int32) (x3 : Int32) (s1 : Int32) (s2 : Int32) (σ : Mem), m12_goesOn_55 F i1 k56 x2 x3 s1 s2 σ = some r → Sg (Ym12_goesOn) σ r := by
  intro x2 x3 s1 s2 σ h
  unfold m12_goesOn_55 at h
  have ⟨hg, h⟩ := g_gd h
  have hb := inB_lt hg
  exact Sg.trans (Sg.sI (Sg.rf _ _)) (hk56 _ _ _ h)
set_option maxHeartbeats 1000000 in
theorem f12_goesOn_g54 {F : Nat} {i1 : Int32} {r : Mem} {k55 : Int32 → Int32 → Int32 → Int32 → Mem → Option (Mem)} (hk55 : ∀ (x2 : Int32) (x3 : Int32) (s1 : Int32) (s2 : Int32) (σ : Mem), k55 x2 x3 s1 s2 σ = some r → Sg (Ym12_goesOn) σ r) : ∀ (x2 : Int32) (x3 : Int32) (s1 : Int32) (σ : Mem), m12_goesOn_54 F i1 k55 x2 x3 s1 σ = some r → Sg (Ym12_goesOn) σ r := by
  intro x2 x3 s1 σ h
  unfold m12_goesOn_54 at h
  exact Sg.trans (Sg.rf _ _) (hk55 _ _ _ _ _ h)
set_option maxHeartbeats 1000000 in
theorem f12_goesOn_g {F : Nat} {i1 : Int32} {σ : Mem} {r : Mem} (h : m12_goesOn F i1 σ = some r) : Sg (Ym12_goesOn) σ r := by
  unfold m12_goesOn at h
  have ⟨_, hc1, h⟩ := b_some h
  rcases g_if h with ⟨hq, h⟩ | ⟨hq, h⟩
  · rcases g_if h with ⟨hq, h⟩ | ⟨hq, h⟩
    · exact Sg.trans (Sg.rf _ _) (f12_goesOn_g54 (F := F) (fun _ _ _ _ _ h => (f12_goesOn_g55 (F := F) (fun _ _ _ h => (f12_goesOn_g56 (F := F) _ _ _ h)) _ _ _ _ _ h)) _ _ _ _ h)
    · have ⟨hg, h⟩ := g_gd h
      have hb := inB_lt hg
      rcases g_if h with ⟨hq, h⟩ | ⟨hq, h⟩
      · have ⟨hg, h⟩ := g_gd h
        have hb := inB_lt hg
        exact Sg.trans (Sg.rf _ _) (f12_goesOn_g55 (F := F) (fun _ _ _ h => (f12_goesOn_g56 (F := F) _ _ _ h)) _ _ _ _ _ h)
      · exact Sg.trans (Sg.rf _ _) (f12_goesOn_g54 (F := F) (fun _ _ _ _ _ h => (f12_goesOn_g55 (F := F) (fun _ _ _ h => (f12_goesOn_g56 (F := F) _ _ _ h)) _ _ _ _ _ h)) _ _ _ _ h)
  · exact Sg.trans (Sg.rf _ _) (f12_goesOn_g56 (F := F) _ _ _ h)
def Ym12_wears (c : Nat) : Prop := False
set_option maxHeartbeats 1000000 in
theorem f12_wears_g52 {F : Nat} {r : Mem} : ∀ (n : Nat) (x1 : Int32) (σ : Mem), m12_wears_52 F n x1 σ = some r → Sg (Ym12_wears) σ r := by
  intro n
  induction n with
  | zero => intro x1 σ h; unfold m12_wears_52 at h; cases h
  | succ n ih =>
    intro x1 σ h
    unfold m12_wears_52 at h
    have ⟨hg, h⟩ := g_gd h
    have hb := inB_lt hg
    rcases g_if h with ⟨hq, h⟩ | ⟨hq, h⟩
    · have e := Option.some.inj h
      subst e
      exact (Sg.rf _ _)
    · have ⟨hg, h⟩ := g_gd h
      have hb := inB_lt hg
      rcases g_if h with ⟨hq, h⟩ | ⟨hq, h⟩
      · exact Sg.trans (Sg.sI (Sg.rf _ _)) (ih _ _ h)
      · exact Sg.trans (Sg.sI (Sg.rf _ _)) (ih _ _ h)
set_option maxHeartbeats 1000000 in
theorem f12_wears_g2 {F : Nat} {r : Mem} : ∀ (n : Nat) (x1 : Int32) (σ : Mem), m12_wears_2 F n x1 σ = some r → Sg (Ym12_wears) σ r := by
  intro n
  induction n with
  | zero => intro x1 σ h; unfold m12_wears_2 at h; cases h
  | succ n ih =>
    intro x1 σ h
    unfold m12_wears_2 at h
    rcases g_if h with ⟨hq, h⟩ | ⟨hq, h⟩
    · exact Sg.trans (Sg.rf _ _) (f12_wears_g52 (F := F) F _ _ h)
    · have ⟨hg, h⟩ := g_gd h
      have hb := inB_lt hg
      rcases g_if h with ⟨hq, h⟩ | ⟨hq, h⟩
      · exact Sg.trans (Sg.rf _ _) (ih _ _ h)
      · have ⟨hg, h⟩ := g_gd h
        have hb := inB_lt hg
        rcases g_if h with ⟨hq, h⟩ | ⟨hq, h⟩
        · exact Sg.trans (Sg.rf _ _) (ih _ _ h)
        · have ⟨hg, h⟩ := g_gd h
          have hb := inB_lt hg
          have ⟨hg, h⟩ := g_gd h
          have hb := inB_lt hg
          exact Sg.trans (Sg.sI (Sg.rf _ _)) (ih _ _ h)
set_option maxHeartbeats 1000000 in
theorem f12_wears_g {F : Nat} {σ : Mem} {r : Mem} (h : m12_wears F  σ = some r) : Sg (Ym12_wears) σ r := by
  unfold m12_wears at h
  exact Sg.trans (Sg.rf _ _) (f12_wears_g2 (F := F) F _ _ h)
def Ym12_passes (c : Nat) : Prop := False
set_option maxHeartbeats 1000000 in
theorem f12_passes_g8 {F : Nat} {r : Int32 × Mem} : ∀ (n : Nat) (x1 : Int32) (x2 : Int32) (σ : Mem), m12_passes_8 F n x1 x2 σ = some r → Sg (Ym12_passes) σ r.2 := by
  intro n
  induction n with
  | zero => intro x1 x2 σ h; unfold m12_passes_8 at h; cases h
  | succ n ih =>
    intro x1 x2 σ h
    unfold m12_passes_8 at h
    have ⟨hg, h⟩ := g_gd h
    have hb := inB_lt hg
    rcases g_if h with ⟨hq, h⟩ | ⟨hq, h⟩
    · rcases g_if h with ⟨hq, h⟩ | ⟨hq, h⟩
      · have ⟨_, hc1, h⟩ := b_some h
        have qhc1 := f12_wears_g hc1
        have ⟨hg, h⟩ := g_gd h
        have hb := inB_lt hg
        have ⟨hg, h⟩ := g_gd h
        have hb := inB_lt hg
        have e := Option.some.inj h
        subst e
        exact (Sg.sI (Sg.trans (Sg.rf _ _) (Sg.mono qhc1 (fun c hw => by unfold Ym12_wears at hw; unfold Ym12_passes; first | exact hw.elim | omega))))
      · have e := Option.some.inj h
        subst e
        exact (Sg.rf _ _)
    · have ⟨hg, h⟩ := g_gd h
      have hb := inB_lt hg
      have ⟨_, hc1, h⟩ := b_some h
      have qhc1 := f12_goesOn_g hc1
      have ⟨hg, h⟩ := g_gd h
      have hb := inB_lt hg
      exact Sg.trans (Sg.trans (Sg.sI (Sg.rf _ _)) (Sg.mono qhc1 (fun c hw => by unfold Ym12_goesOn at hw; unfold Ym12_passes; first | exact hw.elim | omega))) (ih _ _ _ h)
set_option maxHeartbeats 1000000 in
theorem f12_passes_g {F : Nat} {σ : Mem} {r : Int32 × Mem} (h : m12_passes F  σ = some r) : Sg (Ym12_passes) σ r.2 := by
  unfold m12_passes at h
  have ⟨_, hc1, h⟩ := b_some h
  have qhc1 := f12_takesTurns_g hc1
  exact Sg.trans (Sg.trans (Sg.rf _ _) (Sg.mono qhc1 (fun c hw => by unfold Ym12_takesTurns at hw; unfold Ym12_passes; first | exact hw.elim | omega))) (f12_passes_g8 (F := F) F _ _ _ h)
def Ym12_keepsAct (c : Nat) : Prop := False
set_option maxHeartbeats 1000000 in
theorem f12_keepsAct_g52 {F : Nat} {r : Mem} : ∀ (n : Nat) (x1 : Int32) (σ : Mem), m12_keepsAct_52 F n x1 σ = some r → Sg (Ym12_keepsAct) σ r := by
  intro n
  induction n with
  | zero => intro x1 σ h; unfold m12_keepsAct_52 at h; cases h
  | succ n ih =>
    intro x1 σ h
    unfold m12_keepsAct_52 at h
    rcases g_if h with ⟨hq, h⟩ | ⟨hq, h⟩
    · have e := Option.some.inj h
      subst e
      exact (Sg.sI (Sg.rf _ _))
    · have ⟨hg, h⟩ := g_gd h
      have hb := inB_lt hg
      have ⟨hg, h⟩ := g_gd h
      have hb := inB_lt hg
      exact Sg.trans (Sg.sI (Sg.rf _ _)) (ih _ _ h)
set_option maxHeartbeats 1000000 in
theorem f12_keepsAct_g12 {F : Nat} {r : Mem} {k52 : Int32 → Mem → Option (Mem)} (hk52 : ∀ (x1 : Int32) (σ : Mem), k52 x1 σ = some r → Sg (Ym12_keepsAct) σ r) : ∀ (n : Nat) (x1 : Int32) (σ : Mem), m12_keepsAct_12 F k52 n x1 σ = some r → Sg (Ym12_keepsAct) σ r := by
  intro n
  induction n with
  | zero => intro x1 σ h; unfold m12_keepsAct_12 at h; cases h
  | succ n ih =>
    intro x1 σ h
    unfold m12_keepsAct_12 at h
    rcases g_if h with ⟨hq, h⟩ | ⟨hq, h⟩
    · exact Sg.trans (Sg.sI (Sg.rf _ _)) (hk52 _ _ h)
    · have ⟨hg, h⟩ := g_gd h
      have hb := inB_lt hg
      have ⟨hg, h⟩ := g_gd h
      have hb := inB_lt hg
      exact Sg.trans (Sg.sI (Sg.rf _ _)) (ih _ _ h)
set_option maxHeartbeats 1000000 in
theorem f12_keepsAct_g {F : Nat} {σ : Mem} {r : Mem} (h : m12_keepsAct F  σ = some r) : Sg (Ym12_keepsAct) σ r := by
  unfold m12_keepsAct at h
  rcases g_if h with ⟨hq, h⟩ | ⟨hq, h⟩
  · exact Sg.trans (Sg.rf _ _) (f12_keepsAct_g12 (F := F) (fun _ _ h => (f12_keepsAct_g52 (F := F) F _ _ h)) F _ _ h)
  · exact Sg.trans (Sg.rf _ _) (f12_keepsAct_g52 (F := F) F _ _ h)
def Ym12_undo (c : Nat) : Prop := False
set_option maxHeartbeats 1000000 in
theorem f12_undo_g21 {F : Nat} {r : Int32 × Mem} : ∀ (n : Nat) (x1 : Int32) (σ : Mem), m12_undo_21 F n x1 σ = some r → Sg (Ym12_undo) σ r.2 := by
  intro n
  induction n with
  | zero => intro x1 σ h; unfold m12_undo_21 at h; cases h
  | succ n ih =>
    intro x1 σ h
    unfold m12_undo_21 at h
    rcases g_if h with ⟨hq, h⟩ | ⟨hq, h⟩
    · have e := Option.some.inj h
      subst e
      exact (Sg.rf _ _)
    · have ⟨hg, h⟩ := g_gd h
      have hb := inB_lt hg
      have ⟨hg, h⟩ := g_gd h
      have hb := inB_lt hg
      exact Sg.trans (Sg.sI (Sg.rf _ _)) (ih _ _ h)
set_option maxHeartbeats 1000000 in
theorem f12_undo_g {F : Nat} {σ : Mem} {r : Int32 × Mem} (h : m12_undo F  σ = some r) : Sg (Ym12_undo) σ r.2 := by
  unfold m12_undo at h
  rcases g_if h with ⟨hq, h⟩ | ⟨hq, h⟩
  · have e := Option.some.inj h
    subst e
    exact (Sg.rf _ _)
  · exact Sg.trans (Sg.sI (Sg.rf _ _)) (f12_undo_g21 (F := F) F _ _ h)
def Ym12_moment (c : Nat) : Prop := False
set_option maxHeartbeats 1000000 in
theorem f12_moment_g {F : Nat} {σ : Mem} {r : Int32 × Mem} (h : m12_moment F  σ = some r) : Sg (Ym12_moment) σ r.2 := by
  unfold m12_moment at h
  have ⟨_, hc1, h⟩ := b_some h
  rcases g_if h with ⟨hq, h⟩ | ⟨hq, h⟩
  · have e := Option.some.inj h
    subst e
    exact (Sg.rf _ _)
  · have ⟨hg, h⟩ := g_gd h
    have hb := inB_lt hg
    rcases g_if h with ⟨hq, h⟩ | ⟨hq, h⟩
    · have e := Option.some.inj h
      subst e
      exact (Sg.rf _ _)
    · have ⟨_, hc2, h⟩ := b_some h
      have qhc2 := f12_keepsAct_g hc2
      have ⟨_, hc3, h⟩ := b_some h
      have qhc3 := f12_passes_g hc3
      have e := Option.some.inj h
      subst e
      exact (Sg.trans (Sg.trans (Sg.rf _ _) (Sg.mono qhc2 (fun c hw => by unfold Ym12_keepsAct at hw; unfold Ym12_moment; first | exact hw.elim | omega))) (Sg.mono qhc3 (fun c hw => by unfold Ym12_passes at hw; unfold Ym12_moment; first | exact hw.elim | omega)))
def Ym12_quench (c : Nat) : Prop := False
set_option maxHeartbeats 1000000 in
theorem f12_quench_g {F : Nat} {i1 : Int32} {σ : Mem} {r : Int32 × Mem} (h : m12_quench F i1 σ = some r) : Sg (Ym12_quench) σ r.2 := by
  unfold m12_quench at h
  have ⟨_, hc1, h⟩ := b_some h
  rcases g_if h with ⟨hq, h⟩ | ⟨hq, h⟩
  · have e := Option.some.inj h
    subst e
    exact (Sg.rf _ _)
  · have ⟨_, hc2, h⟩ := b_some h
    rcases g_if h with ⟨hq, h⟩ | ⟨hq, h⟩
    · have e := Option.some.inj h
      subst e
      exact (Sg.rf _ _)
    · have ⟨_, hc3, h⟩ := b_some h
      have qhc3 := f12_keepsAct_g hc3
      have ⟨_, hc4, h⟩ := b_some h
      have ⟨hg, h⟩ := g_gd h
      have hb := inB_lt hg
      have e := Option.some.inj h
      subst e
      exact (Sg.sI (Sg.trans (Sg.rf _ _) (Sg.mono qhc3 (fun c hw => by unfold Ym12_keepsAct at hw; unfold Ym12_quench; first | exact hw.elim | omega))))
def Ym12_mend (c : Nat) : Prop := False
set_option maxHeartbeats 1000000 in
theorem f12_mend_g {F : Nat} {i1 : Int32} {σ : Mem} {r : Int32 × Mem} (h : m12_mend F i1 σ = some r) : Sg (Ym12_mend) σ r.2 := by
  unfold m12_mend at h
  have ⟨_, hc1, h⟩ := b_some h
  rcases g_if h with ⟨hq, h⟩ | ⟨hq, h⟩
  · have e := Option.some.inj h
    subst e
    exact (Sg.rf _ _)
  · have ⟨_, hc2, h⟩ := b_some h
    rcases g_if h with ⟨hq, h⟩ | ⟨hq, h⟩
    · have e := Option.some.inj h
      subst e
      exact (Sg.rf _ _)
    · have ⟨hg, h⟩ := g_gd h
      have hb := inB_lt hg
      rcases g_if h with ⟨hq, h⟩ | ⟨hq, h⟩
      · have e := Option.some.inj h
        subst e
        exact (Sg.rf _ _)
      · have ⟨_, hc3, h⟩ := b_some h
        have qhc3 := f12_keepsAct_g hc3
        have ⟨hg, h⟩ := g_gd h
        have hb := inB_lt hg
        have ⟨hg, h⟩ := g_gd h
        have hb := inB_lt hg
        have ⟨hg, h⟩ := g_gd h
        have hb := inB_lt hg
        have e := Option.some.inj h
        subst e
        exact (Sg.sI (Sg.trans (Sg.rf _ _) (Sg.mono qhc3 (fun c hw => by unfold Ym12_keepsAct at hw; unfold Ym12_mend; first | exact hw.elim | omega))))
def Ym12_putsBehind (c : Nat) : Prop := False
set_option maxHeartbeats 1000000 in
theorem f12_putsBehind_g4 {F : Nat} {i1 : Int32} {r : Mem} : ∀ (n : Nat) (x2 : Int32) (x3 : Int32) (σ : Mem), m12_putsBehind_4 F i1 n x2 x3 σ = some r → Sg (Ym12_putsBehind) σ r := by
  intro n
  induction n with
  | zero => intro x2 x3 σ h; unfold m12_putsBehind_4 at h; cases h
  | succ n ih =>
    intro x2 x3 σ h
    unfold m12_putsBehind_4 at h
    have ⟨hg, h⟩ := g_gd h
    have hb := inB_lt hg
    rcases g_if h with ⟨hq, h⟩ | ⟨hq, h⟩
    · have ⟨hg, h⟩ := g_gd h
      have hb := inB_lt hg
      have e := Option.some.inj h
      subst e
      exact (Sg.sI (Sg.rf _ _))
    · have ⟨_, hc1, h⟩ := b_some h
      rcases g_if h with ⟨hq, h⟩ | ⟨hq, h⟩
      · exact Sg.trans (Sg.rf _ _) (ih _ _ _ h)
      · have ⟨_, hc2, h⟩ := b_some h
        exact Sg.trans (Sg.rf _ _) (ih _ _ _ h)
set_option maxHeartbeats 1000000 in
theorem f12_putsBehind_g {F : Nat} {i1 : Int32} {σ : Mem} {r : Mem} (h : m12_putsBehind F i1 σ = some r) : Sg (Ym12_putsBehind) σ r := by
  unfold m12_putsBehind at h
  exact Sg.trans (Sg.rf _ _) (f12_putsBehind_g4 (F := F) F _ _ _ h)
def Ym12_aside (c : Nat) : Prop := False
set_option maxHeartbeats 1000000 in
theorem f12_aside_g {F : Nat} {i1 : Int32} {σ : Mem} {r : Int32 × Mem} (h : m12_aside F i1 σ = some r) : Sg (Ym12_aside) σ r.2 := by
  unfold m12_aside at h
  have ⟨_, hc1, h⟩ := b_some h
  rcases g_if h with ⟨hq, h⟩ | ⟨hq, h⟩
  · have e := Option.some.inj h
    subst e
    exact (Sg.rf _ _)
  · have ⟨_, hc2, h⟩ := b_some h
    rcases g_if h with ⟨hq, h⟩ | ⟨hq, h⟩
    · have ⟨_, hc3, h⟩ := b_some h
      have qhc3 := f12_keepsAct_g hc3
      have ⟨_, hc4, h⟩ := b_some h
      have ⟨_, hc5, h⟩ := b_some h
      have qhc5 := f12_putsBehind_g hc5
      have ⟨hg, h⟩ := g_gd h
      have hb := inB_lt hg
      have ⟨_, hc6, h⟩ := b_some h
      have e := Option.some.inj h
      subst e
      exact (Sg.sI (Sg.trans (Sg.trans (Sg.rf _ _) (Sg.mono qhc3 (fun c hw => by unfold Ym12_keepsAct at hw; unfold Ym12_aside; first | exact hw.elim | omega))) (Sg.mono qhc5 (fun c hw => by unfold Ym12_putsBehind at hw; unfold Ym12_aside; first | exact hw.elim | omega))))
    · have e := Option.some.inj h
      subst e
      exact (Sg.rf _ _)
def Ym12_keeps (c : Nat) : Prop := False
set_option maxHeartbeats 1000000 in
theorem f12_keeps_g2 {F : Nat} {r : Mem} : ∀ (n : Nat) (x1 : Int32) (σ : Mem), m12_keeps_2 F n x1 σ = some r → Sg (Ym12_keeps) σ r := by
  intro n
  induction n with
  | zero => intro x1 σ h; unfold m12_keeps_2 at h; cases h
  | succ n ih =>
    intro x1 σ h
    unfold m12_keeps_2 at h
    rcases g_if h with ⟨hq, h⟩ | ⟨hq, h⟩
    · have e := Option.some.inj h
      subst e
      exact (Sg.sI (Sg.rf _ _))
    · have ⟨hg, h⟩ := g_gd h
      have hb := inB_lt hg
      have ⟨hg, h⟩ := g_gd h
      have hb := inB_lt hg
      exact Sg.trans (Sg.sI (Sg.rf _ _)) (ih _ _ h)
set_option maxHeartbeats 1000000 in
theorem f12_keeps_g {F : Nat} {σ : Mem} {r : Mem} (h : m12_keeps F  σ = some r) : Sg (Ym12_keeps) σ r := by
  unfold m12_keeps at h
  exact Sg.trans (Sg.rf _ _) (f12_keeps_g2 (F := F) F _ _ h)
def Ym12_laysBack (c : Nat) : Prop := False
set_option maxHeartbeats 1000000 in
theorem f12_laysBack_g2 {F : Nat} {r : Mem} : ∀ (n : Nat) (x1 : Int32) (σ : Mem), m12_laysBack_2 F n x1 σ = some r → Sg (Ym12_laysBack) σ r := by
  intro n
  induction n with
  | zero => intro x1 σ h; unfold m12_laysBack_2 at h; cases h
  | succ n ih =>
    intro x1 σ h
    unfold m12_laysBack_2 at h
    rcases g_if h with ⟨hq, h⟩ | ⟨hq, h⟩
    · have e := Option.some.inj h
      subst e
      exact (Sg.sI (Sg.rf _ _))
    · have ⟨hg, h⟩ := g_gd h
      have hb := inB_lt hg
      have ⟨hg, h⟩ := g_gd h
      have hb := inB_lt hg
      exact Sg.trans (Sg.sI (Sg.rf _ _)) (ih _ _ h)
set_option maxHeartbeats 1000000 in
theorem f12_laysBack_g {F : Nat} {σ : Mem} {r : Mem} (h : m12_laysBack F  σ = some r) : Sg (Ym12_laysBack) σ r := by
  unfold m12_laysBack at h
  exact Sg.trans (Sg.rf _ _) (f12_laysBack_g2 (F := F) F _ _ h)
def Ym12_ahead (c : Nat) : Prop := False
set_option maxHeartbeats 1000000 in
theorem f12_ahead_g108 {F : Nat} {i1 : Int32} {i2 : Int32} {i3 : Int32} {r : Int32 × Mem} : ∀ (s0 : Int32) (σ : Mem), m12_ahead_108 F i1 i2 i3 s0 σ = some r → Sg (Ym12_ahead) σ r.2 := by
  intro s0 σ h
  unfold m12_ahead_108 at h
  have ⟨_, hc1, h⟩ := b_some h
  have qhc1 := f12_laysBack_g hc1
  have e := Option.some.inj h
  subst e
  exact (Sg.trans (Sg.rf _ _) (Sg.mono qhc1 (fun c hw => by unfold Ym12_laysBack at hw; unfold Ym12_ahead; first | exact hw.elim | omega)))
set_option maxHeartbeats 1000000 in
theorem f12_ahead_g41 {F : Nat} {i1 : Int32} {i2 : Int32} {i3 : Int32} {r : Int32 × Mem} : ∀ (n : Nat) (x4 : Int32) (σ : Mem), m12_ahead_41 F i1 i2 i3 n x4 σ = some r → Sg (Ym12_ahead) σ r.2 := by
  intro n
  induction n with
  | zero => intro x4 σ h; unfold m12_ahead_41 at h; cases h
  | succ n ih =>
    intro x4 σ h
    unfold m12_ahead_41 at h
    rcases g_if h with ⟨hq, h⟩ | ⟨hq, h⟩
    · have ⟨_, hc1, h⟩ := b_some h
      rcases g_if h with ⟨hq, h⟩ | ⟨hq, h⟩
      · have ⟨_, hc2, h⟩ := b_some h
        exact Sg.trans (Sg.rf _ _) (f12_ahead_g108 (F := F) _ _ h)
      · rcases g_if h with ⟨hq, h⟩ | ⟨hq, h⟩
        · have ⟨_, hc2, h⟩ := b_some h
          exact Sg.trans (Sg.rf _ _) (f12_ahead_g108 (F := F) _ _ h)
        · rcases g_if h with ⟨hq, h⟩ | ⟨hq, h⟩
          · have ⟨_, hc2, h⟩ := b_some h
            exact Sg.trans (Sg.rf _ _) (f12_ahead_g108 (F := F) _ _ h)
          · exact Sg.trans (Sg.rf _ _) (f12_ahead_g108 (F := F) _ _ h)
    · have ⟨_, hc1, h⟩ := b_some h
      have qhc1 := f12_passes_g hc1
      exact Sg.trans (Sg.trans (Sg.rf _ _) (Sg.mono qhc1 (fun c hw => by unfold Ym12_passes at hw; unfold Ym12_ahead; first | exact hw.elim | omega))) (ih _ _ h)
set_option maxHeartbeats 1000000 in
theorem f12_ahead_g {F : Nat} {i1 : Int32} {i2 : Int32} {i3 : Int32} {σ : Mem} {r : Int32 × Mem} (h : m12_ahead F i1 i2 i3 σ = some r) : Sg (Ym12_ahead) σ r.2 := by
  unfold m12_ahead at h
  have ⟨_, hc1, h⟩ := b_some h
  rcases g_if h with ⟨hq, h⟩ | ⟨hq, h⟩
  · have e := Option.some.inj h
    subst e
    exact (Sg.rf _ _)
  · have ⟨_, hc2, h⟩ := b_some h
    rcases g_if h with ⟨hq, h⟩ | ⟨hq, h⟩
    · have e := Option.some.inj h
      subst e
      exact (Sg.rf _ _)
    · have ⟨_, hc3, h⟩ := b_some h
      rcases g_if h with ⟨hq, h⟩ | ⟨hq, h⟩
      · have e := Option.some.inj h
        subst e
        exact (Sg.rf _ _)
      · have ⟨_, hc4, h⟩ := b_some h
        have qhc4 := f12_keeps_g hc4
        exact Sg.trans (Sg.trans (Sg.rf _ _) (Sg.mono qhc4 (fun c hw => by unfold Ym12_keeps at hw; unfold Ym12_ahead; first | exact hw.elim | omega))) (f12_ahead_g41 (F := F) F _ _ h)
def Ym12_ready (c : Nat) : Prop := False
set_option maxHeartbeats 1000000 in
theorem f12_ready_g43 {F : Nat} {i1 : Int32} {r : Int32 × Mem} : ∀ (σ : Mem), m12_ready_43 F i1 σ = some r → Sg (Ym12_ready) σ r.2 := by
  intro σ h
  unfold m12_ready_43 at h
  have ⟨_, hc1, h⟩ := b_some h
  have ⟨_, hc2, h⟩ := b_some h
  have qhc2 := f12_laysBack_g hc2
  rcases g_if h with ⟨hq, h⟩ | ⟨hq, h⟩
  · have e := Option.some.inj h
    subst e
    exact (Sg.trans (Sg.rf _ _) (Sg.mono qhc2 (fun c hw => by unfold Ym12_laysBack at hw; unfold Ym12_ready; first | exact hw.elim | omega)))
  · have e := Option.some.inj h
    subst e
    exact (Sg.trans (Sg.rf _ _) (Sg.mono qhc2 (fun c hw => by unfold Ym12_laysBack at hw; unfold Ym12_ready; first | exact hw.elim | omega)))
set_option maxHeartbeats 1000000 in
theorem f12_ready_g16 {F : Nat} {i1 : Int32} {r : Int32 × Mem} : ∀ (n : Nat) (x2 : Int32) (σ : Mem), m12_ready_16 F i1 n x2 σ = some r → Sg (Ym12_ready) σ r.2 := by
  intro n
  induction n with
  | zero => intro x2 σ h; unfold m12_ready_16 at h; cases h
  | succ n ih =>
    intro x2 σ h
    unfold m12_ready_16 at h
    rcases g_if h with ⟨hq, h⟩ | ⟨hq, h⟩
    · exact Sg.trans (Sg.rf _ _) (f12_ready_g43 (F := F) _ h)
    · have ⟨_, hc1, h⟩ := b_some h
      rcases g_if h with ⟨hq, h⟩ | ⟨hq, h⟩
      · exact Sg.trans (Sg.rf _ _) (f12_ready_g43 (F := F) _ h)
      · have ⟨_, hc2, h⟩ := b_some h
        have qhc2 := f12_passes_g hc2
        exact Sg.trans (Sg.trans (Sg.rf _ _) (Sg.mono qhc2 (fun c hw => by unfold Ym12_passes at hw; unfold Ym12_ready; first | exact hw.elim | omega))) (ih _ _ h)
set_option maxHeartbeats 1000000 in
theorem f12_ready_g {F : Nat} {i1 : Int32} {σ : Mem} {r : Int32 × Mem} (h : m12_ready F i1 σ = some r) : Sg (Ym12_ready) σ r.2 := by
  unfold m12_ready at h
  have ⟨_, hc1, h⟩ := b_some h
  rcases g_if h with ⟨hq, h⟩ | ⟨hq, h⟩
  · have e := Option.some.inj h
    subst e
    exact (Sg.rf _ _)
  · have ⟨_, hc2, h⟩ := b_some h
    have qhc2 := f12_keeps_g hc2
    exact Sg.trans (Sg.trans (Sg.rf _ _) (Sg.mono qhc2 (fun c hw => by unfold Ym12_keeps at hw; unfold Ym12_ready; first | exact hw.elim | omega))) (f12_ready_g16 (F := F) F _ _ h)
def Ym12_momentsLeft (c : Nat) : Prop := False
set_option maxHeartbeats 1000000 in
theorem f12_momentsLeft_g31 {F : Nat} {r : Int32 × Mem} : ∀ (x1 : Int32) (σ : Mem), m12_momentsLeft_31 F x1 σ = some r → Sg (Ym12_momentsLeft) σ r.2 := by
  intro x1 σ h
  unfold m12_momentsLeft_31 at h
  have ⟨_, hc1, h⟩ := b_some h
  have qhc1 := f12_laysBack_g hc1
  have e := Option.some.inj h
  subst e
  exact (Sg.trans (Sg.rf _ _) (Sg.mono qhc1 (fun c hw => by unfold Ym12_laysBack at hw; unfold Ym12_momentsLeft; first | exact hw.elim | omega)))
set_option maxHeartbeats 1000000 in
theorem f12_momentsLeft_g6 {F : Nat} {r : Int32 × Mem} : ∀ (n : Nat) (x1 : Int32) (σ : Mem), m12_momentsLeft_6 F n x1 σ = some r → Sg (Ym12_momentsLeft) σ r.2 := by
  intro n
  induction n with
  | zero => intro x1 σ h; unfold m12_momentsLeft_6 at h; cases h
  | succ n ih =>
    intro x1 σ h
    unfold m12_momentsLeft_6 at h
    rcases g_if h with ⟨hq, h⟩ | ⟨hq, h⟩
    · exact Sg.trans (Sg.rf _ _) (f12_momentsLeft_g31 (F := F) _ _ h)
    · have ⟨_, hc1, h⟩ := b_some h
      rcases g_if h with ⟨hq, h⟩ | ⟨hq, h⟩
      · have ⟨_, hc2, h⟩ := b_some h
        have qhc2 := f12_passes_g hc2
        exact Sg.trans (Sg.trans (Sg.rf _ _) (Sg.mono qhc2 (fun c hw => by unfold Ym12_passes at hw; unfold Ym12_momentsLeft; first | exact hw.elim | omega))) (ih _ _ h)
      · exact Sg.trans (Sg.rf _ _) (f12_momentsLeft_g31 (F := F) _ _ h)
set_option maxHeartbeats 1000000 in
theorem f12_momentsLeft_g {F : Nat} {σ : Mem} {r : Int32 × Mem} (h : m12_momentsLeft F  σ = some r) : Sg (Ym12_momentsLeft) σ r.2 := by
  unfold m12_momentsLeft at h
  have ⟨_, hc1, h⟩ := b_some h
  have qhc1 := f12_keeps_g hc1
  exact Sg.trans (Sg.trans (Sg.rf _ _) (Sg.mono qhc1 (fun c hw => by unfold Ym12_keeps at hw; unfold Ym12_momentsLeft; first | exact hw.elim | omega))) (f12_momentsLeft_g6 (F := F) F _ _ h)
def Ym12_all (c : Nat) : Prop := False
set_option maxHeartbeats 1000000 in
theorem f12_all_g {F : Nat} {σ : Mem} {r : Int32 × Mem} (h : m12_all F  σ = some r) : Sg (Ym12_all) σ r.2 := by
  unfold m12_all at h
  have ⟨_, hc1, h⟩ := b_some h
  rcases g_if h with ⟨hq, h⟩ | ⟨hq, h⟩
  · have e := Option.some.inj h
    subst e
    exact (Sg.rf _ _)
  · have ⟨_, hc2, h⟩ := b_some h
    have qhc2 := f12_momentsLeft_g hc2
    rcases g_if h with ⟨hq, h⟩ | ⟨hq, h⟩
    · have ⟨hg, h⟩ := g_gd h
      have hb := inB_lt hg
      have e := Option.some.inj h
      subst e
      exact (Sg.trans (Sg.rf _ _) (Sg.mono qhc2 (fun c hw => by unfold Ym12_momentsLeft at hw; unfold Ym12_all; first | exact hw.elim | omega)))
    · have e := Option.some.inj h
      subst e
      exact (Sg.trans (Sg.rf _ _) (Sg.mono qhc2 (fun c hw => by unfold Ym12_momentsLeft at hw; unfold Ym12_all; first | exact hw.elim | omega)))
def Ym12_blowsBy (c : Nat) : Prop := False
set_option maxHeartbeats 1000000 in
theorem f12_blowsBy_g9 {F : Nat} {i1 : Int32} {i2 : Int32} {r : Int32 × Mem} : ∀ (n : Nat) (x3 : Int32) (x4 : Int32) (σ : Mem), m12_blowsBy_9 F i1 i2 n x3 x4 σ = some r → Sg (Ym12_blowsBy) σ r.2 := by
  intro n
  induction n with
  | zero => intro x3 x4 σ h; unfold m12_blowsBy_9 at h; cases h
  | succ n ih =>
    intro x3 x4 σ h
    unfold m12_blowsBy_9 at h
    rcases g_if h with ⟨hq, h⟩ | ⟨hq, h⟩
    · have ⟨_, hc1, h⟩ := b_some h
      have qhc1 := f12_laysBack_g hc1
      have e := Option.some.inj h
      subst e
      exact (Sg.trans (Sg.sI (Sg.rf _ _)) (Sg.mono qhc1 (fun c hw => by unfold Ym12_laysBack at hw; unfold Ym12_blowsBy; first | exact hw.elim | omega)))
    · have ⟨_, hc1, h⟩ := b_some h
      have ⟨_, hc2, h⟩ := b_some h
      have qhc2 := f12_passes_g hc2
      exact Sg.trans (Sg.trans (Sg.sI (Sg.rf _ _)) (Sg.mono qhc2 (fun c hw => by unfold Ym12_passes at hw; unfold Ym12_blowsBy; first | exact hw.elim | omega))) (ih _ _ _ h)
set_option maxHeartbeats 1000000 in
theorem f12_blowsBy_g {F : Nat} {i1 : Int32} {i2 : Int32} {σ : Mem} {r : Int32 × Mem} (h : m12_blowsBy F i1 i2 σ = some r) : Sg (Ym12_blowsBy) σ r.2 := by
  unfold m12_blowsBy at h
  have ⟨_, hc1, h⟩ := b_some h
  have qhc1 := f12_keeps_g hc1
  exact Sg.trans (Sg.trans (Sg.rf _ _) (Sg.mono qhc1 (fun c hw => by unfold Ym12_keeps at hw; unfold Ym12_blowsBy; first | exact hw.elim | omega))) (f12_blowsBy_g9 (F := F) F _ _ _ h)
def Ym12_rota (c : Nat) : Prop := False
set_option maxHeartbeats 1000000 in
theorem f12_rota_g41 {F : Nat} {i1 : Int32} {i2 : Int32} {r : Int32 × Mem} : ∀ (n : Nat) (x3 : Int32) (x4 : Int32) (x5 : Int32) (σ : Mem), m12_rota_41 F i1 i2 n x3 x4 x5 σ = some r → Sg (Ym12_rota) σ r.2 := by
  intro n
  induction n with
  | zero => intro x3 x4 x5 σ h; unfold m12_rota_41 at h; cases h
  | succ n ih =>
    intro x3 x4 x5 σ h
    unfold m12_rota_41 at h
    have ⟨_, hc1, h⟩ := b_some h
    rcases g_if h with ⟨hq, h⟩ | ⟨hq, h⟩
    · rcases g_if h with ⟨hq, h⟩ | ⟨hq, h⟩
      · have e := Option.some.inj h
        subst e
        exact (Sg.rf _ _)
      · rcases g_if h with ⟨hq, h⟩ | ⟨hq, h⟩
        · have ⟨_, hc2, h⟩ := b_some h
          have e := Option.some.inj h
          subst e
          exact (Sg.rf _ _)
        · have e := Option.some.inj h
          subst e
          exact (Sg.rf _ _)
    · have ⟨_, hc2, h⟩ := b_some h
      have qhc2 := f12_blowsBy_g hc2
      rcases g_if h with ⟨hq, h⟩ | ⟨hq, h⟩
      · exact Sg.trans (Sg.trans (Sg.rf _ _) (Sg.mono qhc2 (fun c hw => by unfold Ym12_blowsBy at hw; unfold Ym12_rota; first | exact hw.elim | omega))) (ih _ _ _ _ h)
      · rcases g_if h with ⟨hq, h⟩ | ⟨hq, h⟩
        · exact Sg.trans (Sg.trans (Sg.rf _ _) (Sg.mono qhc2 (fun c hw => by unfold Ym12_blowsBy at hw; unfold Ym12_rota; first | exact hw.elim | omega))) (ih _ _ _ _ h)
        · exact Sg.trans (Sg.trans (Sg.rf _ _) (Sg.mono qhc2 (fun c hw => by unfold Ym12_blowsBy at hw; unfold Ym12_rota; first | exact hw.elim | omega))) (ih _ _ _ _ h)
set_option maxHeartbeats 1000000 in
theorem f12_rota_g {F : Nat} {i1 : Int32} {i2 : Int32} {σ : Mem} {r : Int32 × Mem} (h : m12_rota F i1 i2 σ = some r) : Sg (Ym12_rota) σ r.2 := by
  unfold m12_rota at h
  have ⟨_, hc1, h⟩ := b_some h
  rcases g_if h with ⟨hq, h⟩ | ⟨hq, h⟩
  · have e := Option.some.inj h
    subst e
    exact (Sg.rf _ _)
  · have ⟨_, hc2, h⟩ := b_some h
    rcases g_if h with ⟨hq, h⟩ | ⟨hq, h⟩
    · have e := Option.some.inj h
      subst e
      exact (Sg.rf _ _)
    · have ⟨_, hc3, h⟩ := b_some h
      rcases g_if h with ⟨hq, h⟩ | ⟨hq, h⟩
      · have e := Option.some.inj h
        subst e
        exact (Sg.rf _ _)
      · exact Sg.trans (Sg.rf _ _) (f12_rota_g41 (F := F) F _ _ _ _ h)
def Ym12_heatsThen (c : Nat) : Prop := False
set_option maxHeartbeats 1000000 in
theorem f12_heatsThen_g58 {F : Nat} {i1 : Int32} {r : Int32 × Mem} : ∀ (n : Nat) (x3 : Int32) (x4 : Int32) (σ : Mem), m12_heatsThen_58 F i1 n x3 x4 σ = some r → Sg (Ym12_heatsThen) σ r.2 := by
  intro n
  induction n with
  | zero => intro x3 x4 σ h; unfold m12_heatsThen_58 at h; cases h
  | succ n ih =>
    intro x3 x4 σ h
    unfold m12_heatsThen_58 at h
    rcases g_if h with ⟨hq, h⟩ | ⟨hq, h⟩
    · have e := Option.some.inj h
      subst e
      exact (Sg.rf _ _)
    · have ⟨_, hc1, h⟩ := b_some h
      exact Sg.trans (Sg.rf _ _) (ih _ _ _ h)
set_option maxHeartbeats 1000000 in
theorem f12_heatsThen_g4 {F : Nat} {i1 : Int32} {r : Int32 × Mem} : ∀ (n : Nat) (x2 : Int32) (x3 : Int32) (σ : Mem), m12_heatsThen_4 F i1 n x2 x3 σ = some r → Sg (Ym12_heatsThen) σ r.2 := by
  intro n
  induction n with
  | zero => intro x2 x3 σ h; unfold m12_heatsThen_4 at h; cases h
  | succ n ih =>
    intro x2 x3 σ h
    unfold m12_heatsThen_4 at h
    have ⟨hg, h⟩ := g_gd h
    have hb := inB_lt hg
    rcases g_if h with ⟨hq, h⟩ | ⟨hq, h⟩
    · have ⟨_, hc1, h⟩ := b_some h
      have qhc1 := f12_passes_g hc1
      have ⟨hg, h⟩ := g_gd h
      have hb := inB_lt hg
      exact Sg.trans (Sg.trans (Sg.rf _ _) (Sg.mono qhc1 (fun c hw => by unfold Ym12_passes at hw; unfold Ym12_heatsThen; first | exact hw.elim | omega))) (f12_heatsThen_g58 (F := F) F _ _ _ h)
    · have ⟨hg, h⟩ := g_gd h
      have hb := inB_lt hg
      exact Sg.trans (Sg.sI (Sg.rf _ _)) (ih _ _ _ h)
set_option maxHeartbeats 1000000 in
theorem f12_heatsThen_g {F : Nat} {i1 : Int32} {σ : Mem} {r : Int32 × Mem} (h : m12_heatsThen F i1 σ = some r) : Sg (Ym12_heatsThen) σ r.2 := by
  unfold m12_heatsThen at h
  exact Sg.trans (Sg.rf _ _) (f12_heatsThen_g4 (F := F) F _ _ _ h)
def Ym12_roundNow (c : Nat) : Prop := False
set_option maxHeartbeats 1000000 in
theorem f12_roundNow_g106 {F : Nat} {r : Int32 × Mem} {k88 : Int32 → Int32 → Int32 → Mem → Option (Int32 × Mem)} (hk88 : ∀ (x1 : Int32) (x2 : Int32) (x3 : Int32) (σ : Mem), k88 x1 x2 x3 σ = some r → Sg (Ym12_roundNow) σ r.2) : ∀ (n : Nat) (x1 : Int32) (x2 : Int32) (x3 : Int32) (x4 : Int32) (σ : Mem), m12_roundNow_106 F k88 n x1 x2 x3 x4 σ = some r → Sg (Ym12_roundNow) σ r.2 := by
  intro n
  induction n with
  | zero => intro x1 x2 x3 x4 σ h; unfold m12_roundNow_106 at h; cases h
  | succ n ih =>
    intro x1 x2 x3 x4 σ h
    unfold m12_roundNow_106 at h
    have ⟨hg, h⟩ := g_gd h
    have hb := inB_lt hg
    rcases g_if h with ⟨hq, h⟩ | ⟨hq, h⟩
    · exact Sg.trans (Sg.rf _ _) (hk88 _ _ _ _ h)
    · have ⟨hg, h⟩ := g_gd h
      have hb := inB_lt hg
      have ⟨hg, h⟩ := g_gd h
      have hb := inB_lt hg
      have ⟨hg, h⟩ := g_gd h
      have hb := inB_lt hg
      exact Sg.trans (Sg.sI (Sg.rf _ _)) (ih _ _ _ _ _ h)
set_option maxHeartbeats 1000000 in
theorem f12_roundNow_g97 {F : Nat} {r : Int32 × Mem} {k88 : Int32 → Int32 → Int32 → Mem → Option (Int32 × Mem)} (hk88 : ∀ (x1 : Int32) (x2 : Int32) (x3 : Int32) (σ : Mem), k88 x1 x2 x3 σ = some r → Sg (Ym12_roundNow) σ r.2) : ∀ (x1 : Int32) (x2 : Int32) (x3 : Int32) (σ : Mem), m12_roundNow_97 F k88 x1 x2 x3 σ = some r → Sg (Ym12_roundNow) σ r.2 := by
  intro x1 x2 x3 σ h
  unfold m12_roundNow_97 at h
  have ⟨_, hc1, h⟩ := b_some h
  have qhc1 := f12_heatsThen_g hc1
  exact Sg.trans (Sg.trans (Sg.rf _ _) (Sg.mono qhc1 (fun c hw => by unfold Ym12_heatsThen at hw; unfold Ym12_roundNow; first | exact hw.elim | omega))) (f12_roundNow_g106 (F := F) (fun _ _ _ _ h => (hk88 _ _ _ _ h)) F _ _ _ _ _ h)
set_option maxHeartbeats 1000000 in
theorem f12_roundNow_g88 {F : Nat} {r : Int32 × Mem} : ∀ (n : Nat) (x1 : Int32) (x2 : Int32) (x3 : Int32) (σ : Mem), m12_roundNow_88 F n x1 x2 x3 σ = some r → Sg (Ym12_roundNow) σ r.2 := by
  intro n
  induction n with
  | zero => intro x1 x2 x3 σ h; unfold m12_roundNow_88 at h; cases h
  | succ n ih =>
    intro x1 x2 x3 σ h
    unfold m12_roundNow_88 at h
    rcases g_if h with ⟨hq, h⟩ | ⟨hq, h⟩
    · exact Sg.trans (Sg.rf _ _) (f12_roundNow_g97 (F := F) (fun _ _ _ _ h => (ih _ _ _ _ h)) _ _ _ _ h)
    · rcases g_if h with ⟨hq, h⟩ | ⟨hq, h⟩
      · have e := Option.some.inj h
        subst e
        exact (Sg.rf _ _)
      · exact Sg.trans (Sg.rf _ _) (f12_roundNow_g97 (F := F) (fun _ _ _ _ h => (ih _ _ _ _ h)) _ _ _ _ h)
set_option maxHeartbeats 1000000 in
theorem f12_roundNow_g68 {F : Nat} {r : Int32 × Mem} : ∀ (n : Nat) (x1 : Int32) (x2 : Int32) (x3 : Int32) (x4 : Int32) (σ : Mem), m12_roundNow_68 F n x1 x2 x3 x4 σ = some r → Sg (Ym12_roundNow) σ r.2 := by
  intro n
  induction n with
  | zero => intro x1 x2 x3 x4 σ h; unfold m12_roundNow_68 at h; cases h
  | succ n ih =>
    intro x1 x2 x3 x4 σ h
    unfold m12_roundNow_68 at h
    rcases g_if h with ⟨hq, h⟩ | ⟨hq, h⟩
    · exact Sg.trans (Sg.rf _ _) (f12_roundNow_g88 (F := F) F _ _ _ _ h)
    · have ⟨hg, h⟩ := g_gd h
      have hb := inB_lt hg
      exact Sg.trans (Sg.sI (Sg.rf _ _)) (ih _ _ _ _ _ h)
set_option maxHeartbeats 1000000 in
theorem f12_roundNow_g39 {F : Nat} {r : Int32 × Mem} : ∀ (n : Nat) (x1 : Int32) (x2 : Int32) (σ : Mem), m12_roundNow_39 F n x1 x2 σ = some r → Sg (Ym12_roundNow) σ r.2 := by
  intro n
  induction n with
  | zero => intro x1 x2 σ h; unfold m12_roundNow_39 at h; cases h
  | succ n ih =>
    intro x1 x2 σ h
    unfold m12_roundNow_39 at h
    rcases g_if h with ⟨hq, h⟩ | ⟨hq, h⟩
    · exact Sg.trans (Sg.rf _ _) (f12_roundNow_g68 (F := F) F _ _ _ _ _ h)
    · have ⟨_, hc1, h⟩ := b_some h
      have qhc1 := f12_heatsThen_g hc1
      have ⟨_, hc2, h⟩ := b_some h
      have qhc2 := f12_heatsThen_g hc2
      have ⟨_, hc3, h⟩ := b_some h
      have qhc3 := f12_heatsThen_g hc3
      exact Sg.trans (Sg.trans (Sg.trans (Sg.trans (Sg.rf _ _) (Sg.mono qhc1 (fun c hw => by unfold Ym12_heatsThen at hw; unfold Ym12_roundNow; first | exact hw.elim | omega))) (Sg.mono qhc2 (fun c hw => by unfold Ym12_heatsThen at hw; unfold Ym12_roundNow; first | exact hw.elim | omega))) (Sg.mono qhc3 (fun c hw => by unfold Ym12_heatsThen at hw; unfold Ym12_roundNow; first | exact hw.elim | omega))) (ih _ _ _ h)
set_option maxHeartbeats 1000000 in
theorem f12_roundNow_g11 {F : Nat} {r : Int32 × Mem} : ∀ (n : Nat) (x1 : Int32) (x2 : Int32) (σ : Mem), m12_roundNow_11 F n x1 x2 σ = some r → Sg (Ym12_roundNow) σ r.2 := by
  intro n
  induction n with
  | zero => intro x1 x2 σ h; unfold m12_roundNow_11 at h; cases h
  | succ n ih =>
    intro x1 x2 σ h
    unfold m12_roundNow_11 at h
    rcases g_if h with ⟨hq, h⟩ | ⟨hq, h⟩
    · have ⟨_, hc1, h⟩ := b_some h
      have qhc1 := f12_heatsThen_g hc1
      exact Sg.trans (Sg.trans (Sg.rf _ _) (Sg.mono qhc1 (fun c hw => by unfold Ym12_heatsThen at hw; unfold Ym12_roundNow; first | exact hw.elim | omega))) (f12_roundNow_g39 (F := F) F _ _ _ h)
    · have ⟨_, hc1, h⟩ := b_some h
      exact Sg.trans (Sg.rf _ _) (ih _ _ _ h)
set_option maxHeartbeats 1000000 in
theorem f12_roundNow_g {F : Nat} {σ : Mem} {r : Int32 × Mem} (h : m12_roundNow F  σ = some r) : Sg (Ym12_roundNow) σ r.2 := by
  unfold m12_roundNow at h
  have ⟨hg, h⟩ := g_gd h
  have hb := inB_lt hg
  exact Sg.trans (Sg.rf _ _) (f12_roundNow_g11 (F := F) F _ _ _ h)
def Ym12_round (c : Nat) : Prop := False
set_option maxHeartbeats 1000000 in
theorem f12_round_g {F : Nat} {i1 : Int32} {σ : Mem} {r : Int32 × Mem} (h : m12_round F i1 σ = some r) : Sg (Ym12_round) σ r.2 := by
  unfold m12_round at h
  have ⟨_, hc1, h⟩ := b_some h
  rcases g_if h with ⟨hq, h⟩ | ⟨hq, h⟩
  · have e := Option.some.inj h
    subst e
    exact (Sg.rf _ _)
  · have ⟨_, hc2, h⟩ := b_some h
    rcases g_if h with ⟨hq, h⟩ | ⟨hq, h⟩
    · have e := Option.some.inj h
      subst e
      exact (Sg.rf _ _)
    · have ⟨_, hc3, h⟩ := b_some h
      have qhc3 := f12_keeps_g hc3
      have ⟨_, hc4, h⟩ := b_some h
      have qhc4 := f12_roundNow_g hc4
      have ⟨_, hc5, h⟩ := b_some h
      have qhc5 := f12_laysBack_g hc5
      rcases g_if h with ⟨hq, h⟩ | ⟨hq, h⟩
      · have e := Option.some.inj h
        subst e
        exact (Sg.trans (Sg.sI (Sg.trans (Sg.sI (Sg.trans (Sg.rf _ _) (Sg.mono qhc3 (fun c hw => by unfold Ym12_keeps at hw; unfold Ym12_round; first | exact hw.elim | omega)))) (Sg.mono qhc4 (fun c hw => by unfold Ym12_roundNow at hw; unfold Ym12_round; first | exact hw.elim | omega)))) (Sg.mono qhc5 (fun c hw => by unfold Ym12_laysBack at hw; unfold Ym12_round; first | exact hw.elim | omega)))
      · have ⟨hg, h⟩ := g_gd h
        have hb := inB_lt hg
        rcases g_if h with ⟨hq, h⟩ | ⟨hq, h⟩
        · have ⟨hg, h⟩ := g_gd h
          have hb := inB_lt hg
          have e := Option.some.inj h
          subst e
          exact (Sg.trans (Sg.sI (Sg.trans (Sg.sI (Sg.trans (Sg.rf _ _) (Sg.mono qhc3 (fun c hw => by unfold Ym12_keeps at hw; unfold Ym12_round; first | exact hw.elim | omega)))) (Sg.mono qhc4 (fun c hw => by unfold Ym12_roundNow at hw; unfold Ym12_round; first | exact hw.elim | omega)))) (Sg.mono qhc5 (fun c hw => by unfold Ym12_laysBack at hw; unfold Ym12_round; first | exact hw.elim | omega)))
        · have e := Option.some.inj h
          subst e
          exact (Sg.trans (Sg.sI (Sg.trans (Sg.sI (Sg.trans (Sg.rf _ _) (Sg.mono qhc3 (fun c hw => by unfold Ym12_keeps at hw; unfold Ym12_round; first | exact hw.elim | omega)))) (Sg.mono qhc4 (fun c hw => by unfold Ym12_roundNow at hw; unfold Ym12_round; first | exact hw.elim | omega)))) (Sg.mono qhc5 (fun c hw => by unfold Ym12_laysBack at hw; unfold Ym12_round; first | exact hw.elim | omega)))
def Ym12_countsBeside (c : Nat) : Prop := False
set_option maxHeartbeats 1000000 in
theorem f12_countsBeside_g140 {F : Nat} {i1 : Int32} {r : Mem} : ∀ (n : Nat) (x5 : Int32) (σ : Mem), m12_countsBeside_140 F i1 n x5 σ = some r → Sg (Ym12_countsBeside) σ r := by
  intro n
  induction n with
  | zero => intro x5 σ h; unfold m12_countsBeside_140 at h; cases h
  | succ n ih =>
    intro x5 σ h
    unfold m12_countsBeside_140 at h
    have ⟨hg, h⟩ := g_gd h
    have hb := inB_lt hg
    rcases g_if h with ⟨hq, h⟩ | ⟨hq, h⟩
    · have e := Option.some.inj h
      subst e
      exact (Sg.rf _ _)
    · have ⟨_, hc1, h⟩ := b_some h
      have ⟨hg, h⟩ := g_gd h
      have hb := inB_lt hg
      exact Sg.trans (Sg.sI (Sg.rf _ _)) (ih _ _ h)
set_option maxHeartbeats 1000000 in
theorem f12_countsBeside_g126 {F : Nat} {i1 : Int32} {r : Mem} : ∀ (x3 : Int32) (x4 : Int32) (σ : Mem), m12_countsBeside_126 F i1 x3 x4 σ = some r → Sg (Ym12_countsBeside) σ r := by
  intro x3 x4 σ h
  unfold m12_countsBeside_126 at h
  exact Sg.trans (Sg.sI (Sg.sI (Sg.rf _ _))) (f12_countsBeside_g140 (F := F) F _ _ h)
set_option maxHeartbeats 1000000 in
theorem f12_countsBeside_g10 {F : Nat} {i1 : Int32} {r : Mem} : ∀ (n : Nat) (x2 : Int32) (x3 : Int32) (x4 : Int32) (x5 : Int32) (σ : Mem), m12_countsBeside_10 F i1 n x2 x3 x4 x5 σ = some r → Sg (Ym12_countsBeside) σ r := by
  intro n
  induction n with
  | zero => intro x2 x3 x4 x5 σ h; unfold m12_countsBeside_10 at h; cases h
  | succ n ih =>
    intro x2 x3 x4 x5 σ h
    unfold m12_countsBeside_10 at h
    have ⟨hg, h⟩ := g_gd h
    have hb := inB_lt hg
    rcases g_if h with ⟨hq, h⟩ | ⟨hq, h⟩
    · rcases g_if h with ⟨hq, h⟩ | ⟨hq, h⟩
      · have e := Option.some.inj h
        subst e
        exact (Sg.rf _ _)
      · rcases g_if h with ⟨hq, h⟩ | ⟨hq, h⟩
        · rcases g_if h with ⟨hq, h⟩ | ⟨hq, h⟩
          · exact Sg.trans (Sg.rf _ _) (f12_countsBeside_g126 (F := F) _ _ _ h)
          · have e := Option.some.inj h
            subst e
            exact (Sg.rf _ _)
        · exact Sg.trans (Sg.rf _ _) (f12_countsBeside_g126 (F := F) _ _ _ h)
    · have ⟨_, hc1, h⟩ := b_some h
      rcases g_if h with ⟨hq, h⟩ | ⟨hq, h⟩
      · have ⟨_, hc2, h⟩ := b_some h
        rcases g_if h with ⟨hq, h⟩ | ⟨hq, h⟩
        · have e := Option.some.inj h
          subst e
          exact (Sg.rf _ _)
        · have ⟨_, hc3, h⟩ := b_some h
          rcases g_if h with ⟨hq, h⟩ | ⟨hq, h⟩
          · have e := Option.some.inj h
            subst e
            exact (Sg.rf _ _)
          · have ⟨_, hc4, h⟩ := b_some h
            rcases g_if h with ⟨hq, h⟩ | ⟨hq, h⟩
            · have ⟨_, hc5, h⟩ := b_some h
              have ⟨_, hc6, h⟩ := b_some h
              exact Sg.trans (Sg.rf _ _) (ih _ _ _ _ _ h)
            · have e := Option.some.inj h
              subst e
              exact (Sg.rf _ _)
      · exact Sg.trans (Sg.rf _ _) (ih _ _ _ _ _ h)
set_option maxHeartbeats 1000000 in
theorem f12_countsBeside_g {F : Nat} {i1 : Int32} {σ : Mem} {r : Mem} (h : m12_countsBeside F i1 σ = some r) : Sg (Ym12_countsBeside) σ r := by
  unfold m12_countsBeside at h
  exact Sg.trans (Sg.rf _ _) (f12_countsBeside_g10 (F := F) F _ _ _ _ _ h)
def Ym12_beside (c : Nat) : Prop := False
set_option maxHeartbeats 1000000 in
theorem f12_beside_g54 {F : Nat} {i1 : Int32} {r : Int32 × Mem} : ∀ (n : Nat) (x2 : Int32) (σ : Mem), m12_beside_54 F i1 n x2 σ = some r → Sg (Ym12_beside) σ r.2 := by
  intro n
  induction n with
  | zero => intro x2 σ h; unfold m12_beside_54 at h; cases h
  | succ n ih =>
    intro x2 σ h
    unfold m12_beside_54 at h
    have ⟨hg, h⟩ := g_gd h
    have hb := inB_lt hg
    have ⟨_, hc1, h⟩ := b_some h
    rcases g_if h with ⟨hq, h⟩ | ⟨hq, h⟩
    · rcases g_if h with ⟨hq, h⟩ | ⟨hq, h⟩
      · have ⟨hg, h⟩ := g_gd h
        have hb := inB_lt hg
        rcases g_if h with ⟨hq, h⟩ | ⟨hq, h⟩
        · have e := Option.some.inj h
          subst e
          exact (Sg.rf _ _)
        · have ⟨hg, h⟩ := g_gd h
          have hb := inB_lt hg
          have e := Option.some.inj h
          subst e
          exact (Sg.rf _ _)
      · rcases g_if h with ⟨hq, h⟩ | ⟨hq, h⟩
        · have e := Option.some.inj h
          subst e
          exact (Sg.rf _ _)
        · have e := Option.some.inj h
          subst e
          exact (Sg.rf _ _)
    · have ⟨_, hc2, h⟩ := b_some h
      have qhc2 := f12_countsBeside_g hc2
      exact Sg.trans (Sg.trans (Sg.rf _ _) (Sg.mono qhc2 (fun c hw => by unfold Ym12_countsBeside at hw; unfold Ym12_beside; first | exact hw.elim | omega))) (ih _ _ h)
set_option maxHeartbeats 1000000 in
theorem f12_beside_g34 {F : Nat} {i1 : Int32} {r : Int32 × Mem} : ∀ (n : Nat) (x2 : Int32) (σ : Mem), m12_beside_34 F i1 n x2 σ = some r → Sg (Ym12_beside) σ r.2 := by
  intro n
  induction n with
  | zero => intro x2 σ h; unfold m12_beside_34 at h; cases h
  | succ n ih =>
    intro x2 σ h
    unfold m12_beside_34 at h
    rcases g_if h with ⟨hq, h⟩ | ⟨hq, h⟩
    · exact Sg.trans (Sg.rf _ _) (f12_beside_g54 (F := F) F _ _ h)
    · have ⟨hg, h⟩ := g_gd h
      have hb := inB_lt hg
      exact Sg.trans (Sg.sI (Sg.rf _ _)) (ih _ _ h)
set_option maxHeartbeats 1000000 in
theorem f12_beside_g {F : Nat} {i1 : Int32} {σ : Mem} {r : Int32 × Mem} (h : m12_beside F i1 σ = some r) : Sg (Ym12_beside) σ r.2 := by
  unfold m12_beside at h
  have ⟨_, hc1, h⟩ := b_some h
  rcases g_if h with ⟨hq, h⟩ | ⟨hq, h⟩
  · have e := Option.some.inj h
    subst e
    exact (Sg.rf _ _)
  · have ⟨_, hc2, h⟩ := b_some h
    rcases g_if h with ⟨hq, h⟩ | ⟨hq, h⟩
    · have e := Option.some.inj h
      subst e
      exact (Sg.rf _ _)
    · exact Sg.trans (Sg.sI (Sg.sI (Sg.rf _ _))) (f12_beside_g34 (F := F) F _ _ h)
def Ym12_othersBlows (c : Nat) : Prop := False
set_option maxHeartbeats 1000000 in
theorem f12_othersBlows_g23 {F : Nat} {i1 : Int32} {i2 : Int32} {r : Int32 × Mem} {k9 : Int32 → Int32 → Mem → Option (Int32 × Mem)} (hk9 : ∀ (x3 : Int32) (x4 : Int32) (σ : Mem), k9 x3 x4 σ = some r → Sg (Ym12_othersBlows) σ r.2) : ∀ (n : Nat) (x3 : Int32) (x4 : Int32) (x5 : Int32) (σ : Mem), m12_othersBlows_23 F i1 i2 k9 n x3 x4 x5 σ = some r → Sg (Ym12_othersBlows) σ r.2 := by
  intro n
  induction n with
  | zero => intro x3 x4 x5 σ h; unfold m12_othersBlows_23 at h; cases h
  | succ n ih =>
    intro x3 x4 x5 σ h
    unfold m12_othersBlows_23 at h
    have ⟨hg, h⟩ := g_gd h
    have hb := inB_lt hg
    rcases g_if h with ⟨hq, h⟩ | ⟨hq, h⟩
    · exact Sg.trans (Sg.rf _ _) (hk9 _ _ _ h)
    · rcases g_if h with ⟨hq, h⟩ | ⟨hq, h⟩
      · exact Sg.trans (Sg.rf _ _) (ih _ _ _ _ h)
      · have ⟨hg, h⟩ := g_gd h
        have hb := inB_lt hg
        exact Sg.trans (Sg.rf _ _) (ih _ _ _ _ h)
set_option maxHeartbeats 1000000 in
theorem f12_othersBlows_g9 {F : Nat} {i1 : Int32} {i2 : Int32} {r : Int32 × Mem} : ∀ (n : Nat) (x3 : Int32) (x4 : Int32) (σ : Mem), m12_othersBlows_9 F i1 i2 n x3 x4 σ = some r → Sg (Ym12_othersBlows) σ r.2 := by
  intro n
  induction n with
  | zero => intro x3 x4 σ h; unfold m12_othersBlows_9 at h; cases h
  | succ n ih =>
    intro x3 x4 σ h
    unfold m12_othersBlows_9 at h
    rcases g_if h with ⟨hq, h⟩ | ⟨hq, h⟩
    · have ⟨_, hc1, h⟩ := b_some h
      have qhc1 := f12_laysBack_g hc1
      have e := Option.some.inj h
      subst e
      exact (Sg.trans (Sg.rf _ _) (Sg.mono qhc1 (fun c hw => by unfold Ym12_laysBack at hw; unfold Ym12_othersBlows; first | exact hw.elim | omega)))
    · have ⟨_, hc1, h⟩ := b_some h
      have qhc1 := f12_passes_g hc1
      exact Sg.trans (Sg.trans (Sg.rf _ _) (Sg.mono qhc1 (fun c hw => by unfold Ym12_passes at hw; unfold Ym12_othersBlows; first | exact hw.elim | omega))) (f12_othersBlows_g23 (F := F) (fun _ _ _ h => (ih _ _ _ h)) F _ _ _ _ h)
set_option maxHeartbeats 1000000 in
theorem f12_othersBlows_g {F : Nat} {i1 : Int32} {i2 : Int32} {σ : Mem} {r : Int32 × Mem} (h : m12_othersBlows F i1 i2 σ = some r) : Sg (Ym12_othersBlows) σ r.2 := by
  unfold m12_othersBlows at h
  have ⟨_, hc1, h⟩ := b_some h
  have qhc1 := f12_keeps_g hc1
  exact Sg.trans (Sg.trans (Sg.rf _ _) (Sg.mono qhc1 (fun c hw => by unfold Ym12_keeps at hw; unfold Ym12_othersBlows; first | exact hw.elim | omega))) (f12_othersBlows_g9 (F := F) F _ _ _ h)
def Ym12_worth (c : Nat) : Prop := False
set_option maxHeartbeats 1000000 in
theorem f12_worth_g {F : Nat} {i1 : Int32} {i2 : Int32} {σ : Mem} {r : Int32 × Mem} (h : m12_worth F i1 i2 σ = some r) : Sg (Ym12_worth) σ r.2 := by
  unfold m12_worth at h
  have ⟨_, hc1, h⟩ := b_some h
  rcases g_if h with ⟨hq, h⟩ | ⟨hq, h⟩
  · have e := Option.some.inj h
    subst e
    exact (Sg.rf _ _)
  · have ⟨_, hc2, h⟩ := b_some h
    rcases g_if h with ⟨hq, h⟩ | ⟨hq, h⟩
    · have e := Option.some.inj h
      subst e
      exact (Sg.rf _ _)
    · have ⟨_, hc3, h⟩ := b_some h
      have qhc3 := f12_othersBlows_g hc3
      have ⟨_, hc4, h⟩ := b_some h
      have qhc4 := f12_othersBlows_g hc4
      have e := Option.some.inj h
      subst e
      exact (Sg.sI (Sg.trans (Sg.sI (Sg.trans (Sg.rf _ _) (Sg.mono qhc3 (fun c hw => by unfold Ym12_othersBlows at hw; unfold Ym12_worth; first | exact hw.elim | omega)))) (Sg.mono qhc4 (fun c hw => by unfold Ym12_othersBlows at hw; unfold Ym12_worth; first | exact hw.elim | omega))))
def Ym12_splits (c : Nat) : Prop := False
set_option maxHeartbeats 1000000 in
theorem f12_splits_g127 {F : Nat} {i1 : Int32} {i2 : Int32} {r : Int32 × Mem} : ∀ (x3 : Int32) (x4 : Int32) (σ : Mem), m12_splits_127 F i1 i2 x3 x4 σ = some r → Sg (Ym12_splits) σ r.2 := by
  intro x3 x4 σ h
  unfold m12_splits_127 at h
  have ⟨_, hc1, h⟩ := b_some h
  have qhc1 := f12_laysBack_g hc1
  rcases g_if h with ⟨hq, h⟩ | ⟨hq, h⟩
  · have e := Option.some.inj h
    subst e
    exact (Sg.trans (Sg.rf _ _) (Sg.mono qhc1 (fun c hw => by unfold Ym12_laysBack at hw; unfold Ym12_splits; first | exact hw.elim | omega)))
  · have e := Option.some.inj h
    subst e
    exact (Sg.trans (Sg.rf _ _) (Sg.mono qhc1 (fun c hw => by unfold Ym12_laysBack at hw; unfold Ym12_splits; first | exact hw.elim | omega)))
set_option maxHeartbeats 1000000 in
theorem f12_splits_g66 {F : Nat} {i1 : Int32} {i2 : Int32} {r : Int32 × Mem} : ∀ (n : Nat) (x3 : Int32) (x4 : Int32) (x5 : Int32) (σ : Mem), m12_splits_66 F i1 i2 n x3 x4 x5 σ = some r → Sg (Ym12_splits) σ r.2 := by
  intro n
  induction n with
  | zero => intro x3 x4 x5 σ h; unfold m12_splits_66 at h; cases h
  | succ n ih =>
    intro x3 x4 x5 σ h
    unfold m12_splits_66 at h
    rcases g_if h with ⟨hq, h⟩ | ⟨hq, h⟩
    · exact Sg.trans (Sg.rf _ _) (f12_splits_g127 (F := F) _ _ _ h)
    · rcases g_if h with ⟨hq, h⟩ | ⟨hq, h⟩
      · exact Sg.trans (Sg.rf _ _) (f12_splits_g127 (F := F) _ _ _ h)
      · have ⟨_, hc1, h⟩ := b_some h
        have qhc1 := f12_passes_g hc1
        have ⟨hg, h⟩ := g_gd h
        have hb := inB_lt hg
        have ⟨hg, h⟩ := g_gd h
        have hb := inB_lt hg
        rcases g_if h with ⟨hq, h⟩ | ⟨hq, h⟩
        · have ⟨hg, h⟩ := g_gd h
          have hb := inB_lt hg
          have ⟨hg, h⟩ := g_gd h
          have hb := inB_lt hg
          exact Sg.trans (Sg.trans (Sg.rf _ _) (Sg.mono qhc1 (fun c hw => by unfold Ym12_passes at hw; unfold Ym12_splits; first | exact hw.elim | omega))) (ih _ _ _ _ h)
        · exact Sg.trans (Sg.trans (Sg.rf _ _) (Sg.mono qhc1 (fun c hw => by unfold Ym12_passes at hw; unfold Ym12_splits; first | exact hw.elim | omega))) (ih _ _ _ _ h)
set_option maxHeartbeats 1000000 in
theorem f12_splits_g {F : Nat} {i1 : Int32} {i2 : Int32} {σ : Mem} {r : Int32 × Mem} (h : m12_splits F i1 i2 σ = some r) : Sg (Ym12_splits) σ r.2 := by
  unfold m12_splits at h
  have ⟨_, hc1, h⟩ := b_some h
  rcases g_if h with ⟨hq, h⟩ | ⟨hq, h⟩
  · have e := Option.some.inj h
    subst e
    exact (Sg.rf _ _)
  · have ⟨_, hc2, h⟩ := b_some h
    rcases g_if h with ⟨hq, h⟩ | ⟨hq, h⟩
    · have e := Option.some.inj h
      subst e
      exact (Sg.rf _ _)
    · have ⟨_, hc3, h⟩ := b_some h
      rcases g_if h with ⟨hq, h⟩ | ⟨hq, h⟩
      · have e := Option.some.inj h
        subst e
        exact (Sg.rf _ _)
      · have ⟨hg, h⟩ := g_gd h
        have hb := inB_lt hg
        have ⟨hg, h⟩ := g_gd h
        have hb := inB_lt hg
        rcases g_if h with ⟨hq, h⟩ | ⟨hq, h⟩
        · have ⟨_, hc4, h⟩ := b_some h
          have qhc4 := f12_keeps_g hc4
          exact Sg.trans (Sg.trans (Sg.rf _ _) (Sg.mono qhc4 (fun c hw => by unfold Ym12_keeps at hw; unfold Ym12_splits; first | exact hw.elim | omega))) (f12_splits_g66 (F := F) F _ _ _ _ h)
        · have e := Option.some.inj h
          subst e
          exact (Sg.rf _ _)
def Ym12_laysOrder (c : Nat) : Prop := False
set_option maxHeartbeats 1000000 in
theorem f12_laysOrder_g59 {F : Nat} {i1 : Int32} {i2 : Int32} {r : Mem} {k45 : Int32 → Int32 → Int32 → Int32 → Int32 → Mem → Option (Mem)} (hk45 : ∀ (x3 : Int32) (x4 : Int32) (x5 : Int32) (x6 : Int32) (x7 : Int32) (σ : Mem), k45 x3 x4 x5 x6 x7 σ = some r → Sg (Ym12_laysOrder) σ r) : ∀ (x3 : Int32) (x4 : Int32) (x5 : Int32) (x6 : Int32) (x7 : Int32) (σ : Mem), m12_laysOrder_59 F i1 i2 k45 x3 x4 x5 x6 x7 σ = some r → Sg (Ym12_laysOrder) σ r := by
  intro x3 x4 x5 x6 x7 σ h
  unfold m12_laysOrder_59 at h
  have ⟨_, hc1, h⟩ := b_some h
  rcases g_if h with ⟨hq, h⟩ | ⟨hq, h⟩
  · exact Sg.trans (Sg.rf _ _) (hk45 _ _ _ _ _ _ h)
  · exact Sg.trans (Sg.rf _ _) (hk45 _ _ _ _ _ _ h)
set_option maxHeartbeats 1000000 in
theorem f12_laysOrder_g45 {F : Nat} {i1 : Int32} {i2 : Int32} {r : Mem} {k8 : Int32 → Int32 → Int32 → Mem → Option (Mem)} (hk8 : ∀ (x3 : Int32) (x4 : Int32) (x5 : Int32) (σ : Mem), k8 x3 x4 x5 σ = some r → Sg (Ym12_laysOrder) σ r) : ∀ (n : Nat) (x3 : Int32) (x4 : Int32) (x5 : Int32) (x6 : Int32) (x7 : Int32) (σ : Mem), m12_laysOrder_45 F i1 i2 k8 n x3 x4 x5 x6 x7 σ = some r → Sg (Ym12_laysOrder) σ r := by
  intro n
  induction n with
  | zero => intro x3 x4 x5 x6 x7 σ h; unfold m12_laysOrder_45 at h; cases h
  | succ n ih =>
    intro x3 x4 x5 x6 x7 σ h
    unfold m12_laysOrder_45 at h
    have ⟨_, hc1, h⟩ := b_some h
    rcases g_if h with ⟨hq, h⟩ | ⟨hq, h⟩
    · rcases g_if h with ⟨hq, h⟩ | ⟨hq, h⟩
      · have ⟨hg, h⟩ := g_gd h
        have hb := inB_lt hg
        have ⟨hg, h⟩ := g_gd h
        have hb := inB_lt hg
        exact Sg.trans (Sg.sI (Sg.rf _ _)) (hk8 _ _ _ _ h)
      · exact Sg.trans (Sg.rf _ _) (f12_laysOrder_g59 (F := F) (fun _ _ _ _ _ _ h => (ih _ _ _ _ _ _ h)) _ _ _ _ _ _ h)
    · exact Sg.trans (Sg.rf _ _) (f12_laysOrder_g59 (F := F) (fun _ _ _ _ _ _ h => (ih _ _ _ _ _ _ h)) _ _ _ _ _ _ h)
set_option maxHeartbeats 1000000 in
theorem f12_laysOrder_g8 {F : Nat} {i1 : Int32} {i2 : Int32} {r : Mem} : ∀ (n : Nat) (x3 : Int32) (x4 : Int32) (x5 : Int32) (σ : Mem), m12_laysOrder_8 F i1 i2 n x3 x4 x5 σ = some r → Sg (Ym12_laysOrder) σ r := by
  intro n
  induction n with
  | zero => intro x3 x4 x5 σ h; unfold m12_laysOrder_8 at h; cases h
  | succ n ih =>
    intro x3 x4 x5 σ h
    unfold m12_laysOrder_8 at h
    rcases g_if h with ⟨hq, h⟩ | ⟨hq, h⟩
    · have e := Option.some.inj h
      subst e
      exact (Sg.rf _ _)
    · have ⟨_, hc1, h⟩ := b_some h
      have ⟨hg, h⟩ := g_gd h
      have ⟨_, hc2, h⟩ := b_some h
      have ⟨hg, h⟩ := g_gd h
      exact Sg.trans (Sg.rf _ _) (f12_laysOrder_g45 (F := F) (fun _ _ _ _ h => (ih _ _ _ _ h)) F _ _ _ _ _ _ h)
set_option maxHeartbeats 1000000 in
theorem f12_laysOrder_g {F : Nat} {i1 : Int32} {i2 : Int32} {σ : Mem} {r : Mem} (h : m12_laysOrder F i1 i2 σ = some r) : Sg (Ym12_laysOrder) σ r := by
  unfold m12_laysOrder at h
  exact Sg.trans (Sg.rf _ _) (f12_laysOrder_g8 (F := F) F _ _ _ _ h)
def Ym12_momentsBy (c : Nat) : Prop := False
set_option maxHeartbeats 1000000 in
theorem f12_momentsBy_g96 {F : Nat} {i1 : Int32} {i2 : Int32} {r : Int32 × Mem} : ∀ (x3 : Int32) (σ : Mem), m12_momentsBy_96 F i1 i2 x3 σ = some r → Sg (Ym12_momentsBy) σ r.2 := by
  intro x3 σ h
  unfold m12_momentsBy_96 at h
  have ⟨_, hc1, h⟩ := b_some h
  have qhc1 := f12_laysBack_g hc1
  have e := Option.some.inj h
  subst e
  exact (Sg.trans (Sg.rf _ _) (Sg.mono qhc1 (fun c hw => by unfold Ym12_laysBack at hw; unfold Ym12_momentsBy; first | exact hw.elim | omega)))
set_option maxHeartbeats 1000000 in
theorem f12_momentsBy_g85 {F : Nat} {i1 : Int32} {i2 : Int32} {r : Int32 × Mem} {k62 : Int32 → Int32 → Mem → Option (Int32 × Mem)} (hk62 : ∀ (x3 : Int32) (x4 : Int32) (σ : Mem), k62 x3 x4 σ = some r → Sg (Ym12_momentsBy) σ r.2) : ∀ (x3 : Int32) (x4 : Int32) (σ : Mem), m12_momentsBy_85 F i1 i2 k62 x3 x4 σ = some r → Sg (Ym12_momentsBy) σ r.2 := by
  intro x3 x4 σ h
  unfold m12_momentsBy_85 at h
  have ⟨_, hc1, h⟩ := b_some h
  have qhc1 := f12_passes_g hc1
  exact Sg.trans (Sg.trans (Sg.rf _ _) (Sg.mono qhc1 (fun c hw => by unfold Ym12_passes at hw; unfold Ym12_momentsBy; first | exact hw.elim | omega))) (hk62 _ _ _ h)
set_option maxHeartbeats 1000000 in
theorem f12_momentsBy_g62 {F : Nat} {i1 : Int32} {i2 : Int32} {r : Int32 × Mem} : ∀ (n : Nat) (x3 : Int32) (x4 : Int32) (σ : Mem), m12_momentsBy_62 F i1 i2 n x3 x4 σ = some r → Sg (Ym12_momentsBy) σ r.2 := by
  intro n
  induction n with
  | zero => intro x3 x4 σ h; unfold m12_momentsBy_62 at h; cases h
  | succ n ih =>
    intro x3 x4 σ h
    unfold m12_momentsBy_62 at h
    rcases g_if h with ⟨hq, h⟩ | ⟨hq, h⟩
    · exact Sg.trans (Sg.rf _ _) (f12_momentsBy_g96 (F := F) _ _ h)
    · rcases g_if h with ⟨hq, h⟩ | ⟨hq, h⟩
      · exact Sg.trans (Sg.rf _ _) (f12_momentsBy_g96 (F := F) _ _ h)
      · have ⟨_, hc1, h⟩ := b_some h
        rcases g_if h with ⟨hq, h⟩ | ⟨hq, h⟩
        · exact Sg.trans (Sg.rf _ _) (f12_momentsBy_g85 (F := F) (fun _ _ _ h => (ih _ _ _ h)) _ _ _ h)
        · exact Sg.trans (Sg.rf _ _) (f12_momentsBy_g85 (F := F) (fun _ _ _ h => (ih _ _ _ h)) _ _ _ h)
set_option maxHeartbeats 1000000 in
theorem f12_momentsBy_g36 {F : Nat} {i1 : Int32} {i2 : Int32} {r : Int32 × Mem} : ∀ (n : Nat) (x3 : Int32) (x4 : Int32) (σ : Mem), m12_momentsBy_36 F i1 i2 n x3 x4 σ = some r → Sg (Ym12_momentsBy) σ r.2 := by
  intro n
  induction n with
  | zero => intro x3 x4 σ h; unfold m12_momentsBy_36 at h; cases h
  | succ n ih =>
    intro x3 x4 σ h
    unfold m12_momentsBy_36 at h
    rcases g_if h with ⟨hq, h⟩ | ⟨hq, h⟩
    · exact Sg.trans (Sg.rf _ _) (f12_momentsBy_g62 (F := F) F _ _ _ h)
    · have ⟨hg, h⟩ := g_gd h
      have hb := inB_lt hg
      have ⟨_, hc1, h⟩ := b_some h
      have qhc1 := f12_putsBehind_g hc1
      exact Sg.trans (Sg.trans (Sg.rf _ _) (Sg.mono qhc1 (fun c hw => by unfold Ym12_putsBehind at hw; unfold Ym12_momentsBy; first | exact hw.elim | omega))) (ih _ _ _ h)
set_option maxHeartbeats 1000000 in
theorem f12_momentsBy_g {F : Nat} {i1 : Int32} {i2 : Int32} {σ : Mem} {r : Int32 × Mem} (h : m12_momentsBy F i1 i2 σ = some r) : Sg (Ym12_momentsBy) σ r.2 := by
  unfold m12_momentsBy at h
  have ⟨_, hc1, h⟩ := b_some h
  have qhc1 := f12_keeps_g hc1
  have ⟨hg, h⟩ := g_gd h
  have hb := inB_lt hg
  have ⟨_, hc2, h⟩ := b_some h
  rcases g_if h with ⟨hq, h⟩ | ⟨hq, h⟩
  · exact Sg.trans (Sg.trans (Sg.rf _ _) (Sg.mono qhc1 (fun c hw => by unfold Ym12_keeps at hw; unfold Ym12_momentsBy; first | exact hw.elim | omega))) (f12_momentsBy_g36 (F := F) F _ _ _ h)
  · have ⟨hg, h⟩ := g_gd h
    have hb := inB_lt hg
    exact Sg.trans (Sg.sI (Sg.trans (Sg.rf _ _) (Sg.mono qhc1 (fun c hw => by unfold Ym12_keeps at hw; unfold Ym12_momentsBy; first | exact hw.elim | omega)))) (f12_momentsBy_g36 (F := F) F _ _ _ h)
def Ym12_order (c : Nat) : Prop := False
set_option maxHeartbeats 1000000 in
theorem f12_order_g153 {F : Nat} {i1 : Int32} {i2 : Int32} {r : Int32 × Mem} {k102 : Int32 → Int32 → Int32 → Mem → Option (Int32 × Mem)} (hk102 : ∀ (x3 : Int32) (x4 : Int32) (x5 : Int32) (σ : Mem), k102 x3 x4 x5 σ = some r → Sg (Ym12_order) σ r.2) : ∀ (n : Nat) (x3 : Int32) (x4 : Int32) (x5 : Int32) (x7 : Int32) (σ : Mem), m12_order_153 F i1 i2 k102 n x3 x4 x5 x7 σ = some r → Sg (Ym12_order) σ r.2 := by
  intro n
  induction n with
  | zero => intro x3 x4 x5 x7 σ h; unfold m12_order_153 at h; cases h
  | succ n ih =>
    intro x3 x4 x5 x7 σ h
    unfold m12_order_153 at h
    rcases g_if h with ⟨hq, h⟩ | ⟨hq, h⟩
    · exact Sg.trans (Sg.rf _ _) (hk102 _ _ _ _ h)
    · have ⟨hg, h⟩ := g_gd h
      have hb := inB_lt hg
      have ⟨hg, h⟩ := g_gd h
      have hb := inB_lt hg
      exact Sg.trans (Sg.sI (Sg.rf _ _)) (ih _ _ _ _ _ h)
set_option maxHeartbeats 1000000 in
theorem f12_order_g102 {F : Nat} {i1 : Int32} {i2 : Int32} {r : Int32 × Mem} : ∀ (n : Nat) (x3 : Int32) (x4 : Int32) (x5 : Int32) (σ : Mem), m12_order_102 F i1 i2 n x3 x4 x5 σ = some r → Sg (Ym12_order) σ r.2 := by
  intro n
  induction n with
  | zero => intro x3 x4 x5 σ h; unfold m12_order_102 at h; cases h
  | succ n ih =>
    intro x3 x4 x5 σ h
    unfold m12_order_102 at h
    have ⟨_, hc1, h⟩ := b_some h
    rcases g_if h with ⟨hq, h⟩ | ⟨hq, h⟩
    · rcases g_if h with ⟨hq, h⟩ | ⟨hq, h⟩
      · have e := Option.some.inj h
        subst e
        exact (Sg.rf _ _)
      · rcases g_if h with ⟨hq, h⟩ | ⟨hq, h⟩
        · rcases g_if h with ⟨hq, h⟩ | ⟨hq, h⟩
          · have ⟨hg, h⟩ := g_gd h
            have hb := inB_lt hg
            have e := Option.some.inj h
            subst e
            exact (Sg.rf _ _)
          · have ⟨hg, h⟩ := g_gd h
            have hb := inB_lt hg
            have e := Option.some.inj h
            subst e
            exact (Sg.rf _ _)
        · have e := Option.some.inj h
          subst e
          exact (Sg.rf _ _)
    · have ⟨_, hc2, h⟩ := b_some h
      have qhc2 := f12_laysOrder_g hc2
      have ⟨_, hc3, h⟩ := b_some h
      have qhc3 := f12_momentsBy_g hc3
      rcases g_if h with ⟨hq, h⟩ | ⟨hq, h⟩
      · exact Sg.trans (Sg.trans (Sg.trans (Sg.rf _ _) (Sg.mono qhc2 (fun c hw => by unfold Ym12_laysOrder at hw; unfold Ym12_order; first | exact hw.elim | omega))) (Sg.mono qhc3 (fun c hw => by unfold Ym12_momentsBy at hw; unfold Ym12_order; first | exact hw.elim | omega))) (ih _ _ _ _ h)
      · rcases g_if h with ⟨hq, h⟩ | ⟨hq, h⟩
        · exact Sg.trans (Sg.trans (Sg.trans (Sg.rf _ _) (Sg.mono qhc2 (fun c hw => by unfold Ym12_laysOrder at hw; unfold Ym12_order; first | exact hw.elim | omega))) (Sg.mono qhc3 (fun c hw => by unfold Ym12_momentsBy at hw; unfold Ym12_order; first | exact hw.elim | omega))) (f12_order_g153 (F := F) (fun _ _ _ _ h => (ih _ _ _ _ h)) F _ _ _ _ _ h)
        · rcases g_if h with ⟨hq, h⟩ | ⟨hq, h⟩
          · exact Sg.trans (Sg.trans (Sg.trans (Sg.rf _ _) (Sg.mono qhc2 (fun c hw => by unfold Ym12_laysOrder at hw; unfold Ym12_order; first | exact hw.elim | omega))) (Sg.mono qhc3 (fun c hw => by unfold Ym12_momentsBy at hw; unfold Ym12_order; first | exact hw.elim | omega))) (f12_order_g153 (F := F) (fun _ _ _ _ h => (ih _ _ _ _ h)) F _ _ _ _ _ h)
          · exact Sg.trans (Sg.trans (Sg.trans (Sg.rf _ _) (Sg.mono qhc2 (fun c hw => by unfold Ym12_laysOrder at hw; unfold Ym12_order; first | exact hw.elim | omega))) (Sg.mono qhc3 (fun c hw => by unfold Ym12_momentsBy at hw; unfold Ym12_order; first | exact hw.elim | omega))) (ih _ _ _ _ h)
set_option maxHeartbeats 1000000 in
theorem f12_order_g27 {F : Nat} {i1 : Int32} {i2 : Int32} {r : Int32 × Mem} : ∀ (n : Nat) (x3 : Int32) (x4 : Int32) (σ : Mem), m12_order_27 F i1 i2 n x3 x4 σ = some r → Sg (Ym12_order) σ r.2 := by
  intro n
  induction n with
  | zero => intro x3 x4 σ h; unfold m12_order_27 at h; cases h
  | succ n ih =>
    intro x3 x4 σ h
    unfold m12_order_27 at h
    have ⟨hg, h⟩ := g_gd h
    have hb := inB_lt hg
    rcases g_if h with ⟨hq, h⟩ | ⟨hq, h⟩
    · rcases g_if h with ⟨hq, h⟩ | ⟨hq, h⟩
      · rcases g_if h with ⟨hq, h⟩ | ⟨hq, h⟩
        · rcases g_if h with ⟨hq, h⟩ | ⟨hq, h⟩
          · have ⟨hg, h⟩ := g_gd h
            have hb := inB_lt hg
            have e := Option.some.inj h
            subst e
            exact (Sg.rf _ _)
          · have e := Option.some.inj h
            subst e
            exact (Sg.rf _ _)
        · exact Sg.trans (Sg.rf _ _) (f12_order_g102 (F := F) F _ _ _ _ h)
      · have e := Option.some.inj h
        subst e
        exact (Sg.rf _ _)
    · have ⟨_, hc1, h⟩ := b_some h
      rcases g_if h with ⟨hq, h⟩ | ⟨hq, h⟩
      · exact Sg.trans (Sg.rf _ _) (ih _ _ _ h)
      · have ⟨hg, h⟩ := g_gd h
        have hb := inB_lt hg
        exact Sg.trans (Sg.sI (Sg.rf _ _)) (ih _ _ _ h)
set_option maxHeartbeats 1000000 in
theorem f12_order_g {F : Nat} {i1 : Int32} {i2 : Int32} {σ : Mem} {r : Int32 × Mem} (h : m12_order F i1 i2 σ = some r) : Sg (Ym12_order) σ r.2 := by
  unfold m12_order at h
  have ⟨_, hc1, h⟩ := b_some h
  rcases g_if h with ⟨hq, h⟩ | ⟨hq, h⟩
  · have e := Option.some.inj h
    subst e
    exact (Sg.rf _ _)
  · have ⟨_, hc2, h⟩ := b_some h
    rcases g_if h with ⟨hq, h⟩ | ⟨hq, h⟩
    · have e := Option.some.inj h
      subst e
      exact (Sg.rf _ _)
    · exact Sg.trans (Sg.rf _ _) (f12_order_g27 (F := F) F _ _ _ h)
def Ym12_note (c : Nat) : Prop := False
set_option maxHeartbeats 1000000 in
theorem f12_note_g {F : Nat} {i1 : Int32} {i2 : Int32} {i3 : Int32} {σ : Mem} {r : Int32 × Mem} (h : m12_note F i1 i2 i3 σ = some r) : Sg (Ym12_note) σ r.2 := by
  unfold m12_note at h
  rcases g_if h with ⟨hq, h⟩ | ⟨hq, h⟩
  · have ⟨hg, h⟩ := g_gd h
    have hb := inB_lt hg
    have e := Option.some.inj h
    subst e
    exact (Sg.sI (Sg.rf _ _))
  · have ⟨_, hc1, h⟩ := b_some h
    rcases g_if h with ⟨hq, h⟩ | ⟨hq, h⟩
    · have e := Option.some.inj h
      subst e
      exact (Sg.rf _ _)
    · have ⟨_, hc2, h⟩ := b_some h
      rcases g_if h with ⟨hq, h⟩ | ⟨hq, h⟩
      · have e := Option.some.inj h
        subst e
        exact (Sg.rf _ _)
      · have ⟨_, hc3, h⟩ := b_some h
        rcases g_if h with ⟨hq, h⟩ | ⟨hq, h⟩
        · have e := Option.some.inj h
          subst e
          exact (Sg.rf _ _)
        · have ⟨_, hc4, h⟩ := b_some h
          rcases g_if h with ⟨hq, h⟩ | ⟨hq, h⟩
          · have e := Option.some.inj h
            subst e
            exact (Sg.rf _ _)
          · have ⟨hg, h⟩ := g_gd h
            have hb := inB_lt hg
            rcases g_if h with ⟨hq, h⟩ | ⟨hq, h⟩
            · have e := Option.some.inj h
              subst e
              exact (Sg.rf _ _)
            · have ⟨hg, h⟩ := g_gd h
              have hb := inB_lt hg
              have ⟨hg, h⟩ := g_gd h
              have hb := inB_lt hg
              have ⟨hg, h⟩ := g_gd h
              have hb := inB_lt hg
              have ⟨hg, h⟩ := g_gd h
              have hb := inB_lt hg
              have ⟨hg, h⟩ := g_gd h
              have hb := inB_lt hg
              have ⟨hg, h⟩ := g_gd h
              have hb := inB_lt hg
              have ⟨hg, h⟩ := g_gd h
              have hb := inB_lt hg
              have e := Option.some.inj h
              subst e
              exact (Sg.sI (Sg.sI (Sg.sI (Sg.sI (Sg.rf _ _)))))
def Ym12_begins (c : Nat) : Prop := False
set_option maxHeartbeats 1000000 in
theorem f12_begins_g123 {F : Nat} {r : Mem} : ∀ (n : Nat) (x1 : Int32) (σ : Mem), m12_begins_123 F n x1 σ = some r → Sg (Ym12_begins) σ r := by
  intro n
  induction n with
  | zero => intro x1 σ h; unfold m12_begins_123 at h; cases h
  | succ n ih =>
    intro x1 σ h
    unfold m12_begins_123 at h
    rcases g_if h with ⟨hq, h⟩ | ⟨hq, h⟩
    · have e := Option.some.inj h
      subst e
      exact (Sg.rf _ _)
    · have ⟨hg, h⟩ := g_gd h
      have hb := inB_lt hg
      have ⟨hg, h⟩ := g_gd h
      have hb := inB_lt hg
      exact Sg.trans (Sg.sI (Sg.rf _ _)) (ih _ _ h)
set_option maxHeartbeats 1000000 in
theorem f12_begins_g61 {F : Nat} {r : Mem} : ∀ (n : Nat) (x1 : Int32) (σ : Mem), m12_begins_61 F n x1 σ = some r → Sg (Ym12_begins) σ r := by
  intro n
  induction n with
  | zero => intro x1 σ h; unfold m12_begins_61 at h; cases h
  | succ n ih =>
    intro x1 σ h
    unfold m12_begins_61 at h
    have ⟨hg, h⟩ := g_gd h
    have hb := inB_lt hg
    rcases g_if h with ⟨hq, h⟩ | ⟨hq, h⟩
    · exact Sg.trans (Sg.rf _ _) (f12_begins_g123 (F := F) F _ _ h)
    · have ⟨hg, h⟩ := g_gd h
      have hb := inB_lt hg
      have ⟨hg, h⟩ := g_gd h
      have hb := inB_lt hg
      have ⟨hg, h⟩ := g_gd h
      have hb := inB_lt hg
      have ⟨hg, h⟩ := g_gd h
      have hb := inB_lt hg
      exact Sg.trans (Sg.sI (Sg.sI (Sg.sI (Sg.rf _ _)))) (ih _ _ h)
set_option maxHeartbeats 1000000 in
theorem f12_begins_g21 {F : Nat} {r : Mem} {k9 : Int32 → Mem → Option (Mem)} (hk9 : ∀ (x1 : Int32) (σ : Mem), k9 x1 σ = some r → Sg (Ym12_begins) σ r) : ∀ (n : Nat) (x1 : Int32) (x2 : Int32) (σ : Mem), m12_begins_21 F k9 n x1 x2 σ = some r → Sg (Ym12_begins) σ r := by
  intro n
  induction n with
  | zero => intro x1 x2 σ h; unfold m12_begins_21 at h; cases h
  | succ n ih =>
    intro x1 x2 σ h
    unfold m12_begins_21 at h
    rcases g_if h with ⟨hq, h⟩ | ⟨hq, h⟩
    · exact Sg.trans (Sg.rf _ _) (hk9 _ _ h)
    · rcases g_if h with ⟨hq, h⟩ | ⟨hq, h⟩
      · exact Sg.trans (Sg.rf _ _) (ih _ _ _ h)
      · have ⟨hg, h⟩ := g_gd h
        have hb := inB_lt hg
        exact Sg.trans (Sg.sI (Sg.rf _ _)) (ih _ _ _ h)
set_option maxHeartbeats 1000000 in
theorem f12_begins_g9 {F : Nat} {r : Mem} : ∀ (n : Nat) (x1 : Int32) (σ : Mem), m12_begins_9 F n x1 σ = some r → Sg (Ym12_begins) σ r := by
  intro n
  induction n with
  | zero => intro x1 σ h; unfold m12_begins_9 at h; cases h
  | succ n ih =>
    intro x1 σ h
    unfold m12_begins_9 at h
    have ⟨hg, h⟩ := g_gd h
    have hb := inB_lt hg
    rcases g_if h with ⟨hq, h⟩ | ⟨hq, h⟩
    · exact Sg.trans (Sg.rf _ _) (f12_begins_g61 (F := F) F _ _ h)
    · exact Sg.trans (Sg.rf _ _) (f12_begins_g21 (F := F) (fun _ _ h => (ih _ _ h)) F _ _ _ h)
set_option maxHeartbeats 1000000 in
theorem f12_begins_g {F : Nat} {σ : Mem} {r : Mem} (h : m12_begins F  σ = some r) : Sg (Ym12_begins) σ r := by
  unfold m12_begins at h
  have ⟨hg, h⟩ := g_gd h
  have hb := inB_lt hg
  exact Sg.trans (Sg.sI (Sg.rf _ _)) (f12_begins_g9 (F := F) F _ _ h)
def Ym12_gathersRules (c : Nat) : Prop := False
set_option maxHeartbeats 1000000 in
theorem f12_gathersRules_g116 {F : Nat} {i1 : Int32} {r : Mem} {k40 : Int32 → Int32 → Int32 → Mem → Option (Mem)} (hk40 : ∀ (x2 : Int32) (x3 : Int32) (x4 : Int32) (σ : Mem), k40 x2 x3 x4 σ = some r → Sg (Ym12_gathersRules) σ r) : ∀ (x2 : Int32) (x3 : Int32) (x4 : Int32) (σ : Mem), m12_gathersRules_116 F i1 k40 x2 x3 x4 σ = some r → Sg (Ym12_gathersRules) σ r := by
  intro x2 x3 x4 σ h
  unfold m12_gathersRules_116 at h
  have ⟨_, hc1, h⟩ := b_some h
  have qhc1 := f12_passes_g hc1
  exact Sg.trans (Sg.trans (Sg.rf _ _) (Sg.mono qhc1 (fun c hw => by unfold Ym12_passes at hw; unfold Ym12_gathersRules; first | exact hw.elim | omega))) (hk40 _ _ _ _ h)
set_option maxHeartbeats 1000000 in
theorem f12_gathersRules_g77 {F : Nat} {i1 : Int32} {r : Mem} {k40 : Int32 → Int32 → Int32 → Mem → Option (Mem)} (hk40 : ∀ (x2 : Int32) (x3 : Int32) (x4 : Int32) (σ : Mem), k40 x2 x3 x4 σ = some r → Sg (Ym12_gathersRules) σ r) : ∀ (n : Nat) (x2 : Int32) (x3 : Int32) (x4 : Int32) (x5 : Int32) (σ : Mem), m12_gathersRules_77 F i1 k40 n x2 x3 x4 x5 σ = some r → Sg (Ym12_gathersRules) σ r := by
  intro n
  induction n with
  | zero => intro x2 x3 x4 x5 σ h; unfold m12_gathersRules_77 at h; cases h
  | succ n ih =>
    intro x2 x3 x4 x5 σ h
    unfold m12_gathersRules_77 at h
    rcases g_if h with ⟨hq, h⟩ | ⟨hq, h⟩
    · exact Sg.trans (Sg.rf _ _) (f12_gathersRules_g116 (F := F) (fun _ _ _ _ h => (hk40 _ _ _ _ h)) _ _ _ _ h)
    · rcases g_if h with ⟨hq, h⟩ | ⟨hq, h⟩
      · have ⟨hg, h⟩ := g_gd h
        have hb := inB_lt hg
        have ⟨hg, h⟩ := g_gd h
        have hb := inB_lt hg
        exact Sg.trans (Sg.sI (Sg.rf _ _)) (ih _ _ _ _ _ h)
      · exact Sg.trans (Sg.rf _ _) (f12_gathersRules_g116 (F := F) (fun _ _ _ _ h => (hk40 _ _ _ _ h)) _ _ _ _ h)
set_option maxHeartbeats 1000000 in
theorem f12_gathersRules_g40 {F : Nat} {i1 : Int32} {r : Mem} {k11 : Int32 → Int32 → Mem → Option (Mem)} (hk11 : ∀ (x2 : Int32) (x3 : Int32) (σ : Mem), k11 x2 x3 σ = some r → Sg (Ym12_gathersRules) σ r) : ∀ (n : Nat) (x2 : Int32) (x3 : Int32) (x4 : Int32) (σ : Mem), m12_gathersRules_40 F i1 k11 n x2 x3 x4 σ = some r → Sg (Ym12_gathersRules) σ r := by
  intro n
  induction n with
  | zero => intro x2 x3 x4 σ h; unfold m12_gathersRules_40 at h; cases h
  | succ n ih =>
    intro x2 x3 x4 σ h
    unfold m12_gathersRules_40 at h
    rcases g_if h with ⟨hq, h⟩ | ⟨hq, h⟩
    · have ⟨_, hc1, h⟩ := b_some h
      have qhc1 := f12_laysBack_g hc1
      exact Sg.trans (Sg.trans (Sg.rf _ _) (Sg.mono qhc1 (fun c hw => by unfold Ym12_laysBack at hw; unfold Ym12_gathersRules; first | exact hw.elim | omega))) (hk11 _ _ _ h)
    · have ⟨hg, h⟩ := g_gd h
      have hb := inB_lt hg
      rcases g_if h with ⟨hq, h⟩ | ⟨hq, h⟩
      · have ⟨hg, h⟩ := g_gd h
        have hb := inB_lt hg
        exact Sg.trans (Sg.sI (Sg.rf _ _)) (f12_gathersRules_g77 (F := F) (fun _ _ _ _ h => (ih _ _ _ _ h)) F _ _ _ _ _ h)
      · have ⟨_, hc1, h⟩ := b_some h
        rcases g_if h with ⟨hq, h⟩ | ⟨hq, h⟩
        · have ⟨hg, h⟩ := g_gd h
          have hb := inB_lt hg
          exact Sg.trans (Sg.sI (Sg.rf _ _)) (f12_gathersRules_g77 (F := F) (fun _ _ _ _ h => (ih _ _ _ _ h)) F _ _ _ _ _ h)
        · have ⟨hg, h⟩ := g_gd h
          have hb := inB_lt hg
          exact Sg.trans (Sg.sI (Sg.rf _ _)) (f12_gathersRules_g77 (F := F) (fun _ _ _ _ h => (ih _ _ _ _ h)) F _ _ _ _ _ h)
set_option maxHeartbeats 1000000 in
theorem f12_gathersRules_g11 {F : Nat} {i1 : Int32} {r : Mem} : ∀ (n : Nat) (x2 : Int32) (x3 : Int32) (σ : Mem), m12_gathersRules_11 F i1 n x2 x3 σ = some r → Sg (Ym12_gathersRules) σ r := by
  intro n
  induction n with
  | zero => intro x2 x3 σ h; unfold m12_gathersRules_11 at h; cases h
  | succ n ih =>
    intro x2 x3 σ h
    unfold m12_gathersRules_11 at h
    rcases g_if h with ⟨hq, h⟩ | ⟨hq, h⟩
    · have e := Option.some.inj h
      subst e
      exact (Sg.sI (Sg.rf _ _))
    · have ⟨_, hc1, h⟩ := b_some h
      have qhc1 := f12_begins_g hc1
      have ⟨hg, h⟩ := g_gd h
      have hb := inB_lt hg
      exact Sg.trans (Sg.sI (Sg.trans (Sg.sI (Sg.rf _ _)) (Sg.mono qhc1 (fun c hw => by unfold Ym12_begins at hw; unfold Ym12_gathersRules; first | exact hw.elim | omega)))) (f12_gathersRules_g40 (F := F) (fun _ _ _ h => (ih _ _ _ h)) F _ _ _ _ h)
set_option maxHeartbeats 1000000 in
theorem f12_gathersRules_g {F : Nat} {i1 : Int32} {σ : Mem} {r : Mem} (h : m12_gathersRules F i1 σ = some r) : Sg (Ym12_gathersRules) σ r := by
  unfold m12_gathersRules at h
  have ⟨_, hc1, h⟩ := b_some h
  have qhc1 := f12_keeps_g hc1
  exact Sg.trans (Sg.trans (Sg.rf _ _) (Sg.mono qhc1 (fun c hw => by unfold Ym12_keeps at hw; unfold Ym12_gathersRules; first | exact hw.elim | omega))) (f12_gathersRules_g11 (F := F) F _ _ _ h)
def Ym12_ruled (c : Nat) : Prop := False
set_option maxHeartbeats 1000000 in
theorem f12_ruled_g36 {F : Nat} {i1 : Int32} {r : Int32 × Mem} : ∀ (n : Nat) (x2 : Int32) (x3 : Int32) (x4 : Int32) (σ : Mem), m12_ruled_36 F i1 n x2 x3 x4 σ = some r → Sg (Ym12_ruled) σ r.2 := by
  intro n
  induction n with
  | zero => intro x2 x3 x4 σ h; unfold m12_ruled_36 at h; cases h
  | succ n ih =>
    intro x2 x3 x4 σ h
    unfold m12_ruled_36 at h
    rcases g_if h with ⟨hq, h⟩ | ⟨hq, h⟩
    · rcases g_if h with ⟨hq, h⟩ | ⟨hq, h⟩
      · have e := Option.some.inj h
        subst e
        exact (Sg.rf _ _)
      · have e := Option.some.inj h
        subst e
        exact (Sg.rf _ _)
    · have ⟨hg, h⟩ := g_gd h
      have hb := inB_lt hg
      rcases g_if h with ⟨hq, h⟩ | ⟨hq, h⟩
      · exact Sg.trans (Sg.rf _ _) (ih _ _ _ _ h)
      · exact Sg.trans (Sg.rf _ _) (ih _ _ _ _ h)
set_option maxHeartbeats 1000000 in
theorem f12_ruled_g {F : Nat} {i1 : Int32} {σ : Mem} {r : Int32 × Mem} (h : m12_ruled F i1 σ = some r) : Sg (Ym12_ruled) σ r.2 := by
  unfold m12_ruled at h
  have ⟨_, hc1, h⟩ := b_some h
  rcases g_if h with ⟨hq, h⟩ | ⟨hq, h⟩
  · have e := Option.some.inj h
    subst e
    exact (Sg.rf _ _)
  · have ⟨_, hc2, h⟩ := b_some h
    rcases g_if h with ⟨hq, h⟩ | ⟨hq, h⟩
    · have e := Option.some.inj h
      subst e
      exact (Sg.rf _ _)
    · have ⟨_, hc3, h⟩ := b_some h
      have qhc3 := f12_gathersRules_g hc3
      exact Sg.trans (Sg.trans (Sg.rf _ _) (Sg.mono qhc3 (fun c hw => by unfold Ym12_gathersRules at hw; unfold Ym12_ruled; first | exact hw.elim | omega))) (f12_ruled_g36 (F := F) F _ _ _ _ h)
def Ym12_look (c : Nat) : Prop := False
set_option maxHeartbeats 1000000 in
theorem f12_look_g41 {F : Nat} {i1 : Int32} {i2 : Int32} {r : Int32 × Mem} : ∀ (n : Nat) (x3 : Int32) (x4 : Int32) (σ : Mem), m12_look_41 F i1 i2 n x3 x4 σ = some r → Sg (Ym12_look) σ r.2 := by
  intro n
  induction n with
  | zero => intro x3 x4 σ h; unfold m12_look_41 at h; cases h
  | succ n ih =>
    intro x3 x4 σ h
    unfold m12_look_41 at h
    rcases g_if h with ⟨hq, h⟩ | ⟨hq, h⟩
    · have ⟨_, hc1, h⟩ := b_some h
      rcases g_if h with ⟨hq, h⟩ | ⟨hq, h⟩
      · have e := Option.some.inj h
        subst e
        exact (Sg.rf _ _)
      · rcases g_if h with ⟨hq, h⟩ | ⟨hq, h⟩
        · have e := Option.some.inj h
          subst e
          exact (Sg.rf _ _)
        · have ⟨_, hc2, h⟩ := b_some h
          have e := Option.some.inj h
          subst e
          exact (Sg.rf _ _)
    · have ⟨_, hc1, h⟩ := b_some h
      have ⟨_, hc2, h⟩ := b_some h
      rcases g_if h with ⟨hq, h⟩ | ⟨hq, h⟩
      · exact Sg.trans (Sg.rf _ _) (ih _ _ _ h)
      · exact Sg.trans (Sg.rf _ _) (ih _ _ _ h)
set_option maxHeartbeats 1000000 in
theorem f12_look_g {F : Nat} {i1 : Int32} {i2 : Int32} {σ : Mem} {r : Int32 × Mem} (h : m12_look F i1 i2 σ = some r) : Sg (Ym12_look) σ r.2 := by
  unfold m12_look at h
  have ⟨_, hc1, h⟩ := b_some h
  rcases g_if h with ⟨hq, h⟩ | ⟨hq, h⟩
  · have e := Option.some.inj h
    subst e
    exact (Sg.rf _ _)
  · have ⟨_, hc2, h⟩ := b_some h
    rcases g_if h with ⟨hq, h⟩ | ⟨hq, h⟩
    · have e := Option.some.inj h
      subst e
      exact (Sg.rf _ _)
    · have ⟨_, hc3, h⟩ := b_some h
      rcases g_if h with ⟨hq, h⟩ | ⟨hq, h⟩
      · have e := Option.some.inj h
        subst e
        exact (Sg.rf _ _)
      · have ⟨_, hc4, h⟩ := b_some h
        have qhc4 := f12_gathersRules_g hc4
        exact Sg.trans (Sg.trans (Sg.rf _ _) (Sg.mono qhc4 (fun c hw => by unfold Ym12_gathersRules at hw; unfold Ym12_look; first | exact hw.elim | omega))) (f12_look_g41 (F := F) F _ _ _ h)
def Ym12_second (c : Nat) : Prop := False
set_option maxHeartbeats 1000000 in
theorem f12_second_g45 {F : Nat} {r : Int32 × Mem} : ∀ (x2 : Int32) (s0 : Int32) (σ : Mem), m12_second_45 F x2 s0 σ = some r → Sg (Ym12_second) σ r.2 := by
  intro x2 s0 σ h
  unfold m12_second_45 at h
  rcases g_if h with ⟨hq, h⟩ | ⟨hq, h⟩
  · have e := Option.some.inj h
    subst e
    exact (Sg.rf _ _)
  · have e := Option.some.inj h
    subst e
    exact (Sg.rf _ _)
set_option maxHeartbeats 1000000 in
theorem f12_second_g {F : Nat} {σ : Mem} {r : Int32 × Mem} (h : m12_second F  σ = some r) : Sg (Ym12_second) σ r.2 := by
  unfold m12_second at h
  have ⟨_, hc1, h⟩ := b_some h
  rcases g_if h with ⟨hq, h⟩ | ⟨hq, h⟩
  · have e := Option.some.inj h
    subst e
    exact (Sg.rf _ _)
  · have ⟨_, hc2, h⟩ := b_some h
    have qhc2 := f12_momentsLeft_g hc2
    have ⟨_, hc3, h⟩ := b_some h
    have qhc3 := f12_momentsLeft_g hc3
    rcases g_if h with ⟨hq, h⟩ | ⟨hq, h⟩
    · exact Sg.trans (Sg.sI (Sg.trans (Sg.sI (Sg.trans (Sg.rf _ _) (Sg.mono qhc2 (fun c hw => by unfold Ym12_momentsLeft at hw; unfold Ym12_second; first | exact hw.elim | omega)))) (Sg.mono qhc3 (fun c hw => by unfold Ym12_momentsLeft at hw; unfold Ym12_second; first | exact hw.elim | omega)))) (f12_second_g45 (F := F) _ _ _ h)
    · exact Sg.trans (Sg.sI (Sg.trans (Sg.sI (Sg.trans (Sg.rf _ _) (Sg.mono qhc2 (fun c hw => by unfold Ym12_momentsLeft at hw; unfold Ym12_second; first | exact hw.elim | omega)))) (Sg.mono qhc3 (fun c hw => by unfold Ym12_momentsLeft at hw; unfold Ym12_second; first | exact hw.elim | omega)))) (f12_second_g45 (F := F) _ _ _ h)
def Ym12_seed (c : Nat) : Prop := False
set_option maxHeartbeats 1000000 in
theorem f12_seed_g {F : Nat} {i1 : Int32} {σ : Mem} {r : Int32 × Mem} (h : m12_seed F i1 σ = some r) : Sg (Ym12_seed) σ r.2 := by
  unfold m12_seed at h
  rcases g_if h with ⟨hq, h⟩ | ⟨hq, h⟩
  · have e := Option.some.inj h
    subst e
    exact (Sg.sI (Sg.rf _ _))
  · have e := Option.some.inj h
    subst e
    exact (Sg.rf _ _)
def Ym12_draw (c : Nat) : Prop := c = 45
set_option maxHeartbeats 1000000 in
theorem f12_draw_g {F : Nat} {i1 : Int32} {σ : Mem} {r : Int32 × Mem} (h : m12_draw F i1 σ = some r) : Sg (Ym12_draw) σ r.2 := by
  unfold m12_draw at h
  have ⟨hg, h⟩ := g_gd h
  have e := Option.some.inj h
  subst e
  exact (Sg.at (Sg.rf _ _) rfl)
def Ym12_days (c : Nat) : Prop := c = 45
set_option maxHeartbeats 1000000 in
theorem f12_days_g116 {F : Nat} {i1 : Int32} {i2 : Int32} {i3 : Int32} {i4 : Int32} {r : Int32 × Mem} {k94 : Int32 → Int32 → Int32 → Int32 → Int32 → Mem → Option (Int32 × Mem)} (hk94 : ∀ (x5 : Int32) (x6 : Int32) (x7 : Int32) (x8 : Int32) (x9 : Int32) (σ : Mem), k94 x5 x6 x7 x8 x9 σ = some r → Sg (Ym12_days) σ r.2) : ∀ (x5 : Int32) (x6 : Int32) (x7 : Int32) (x8 : Int32) (x9 : Int32) (s1 : Int32) (σ : Mem), m12_days_116 F i1 i2 i3 i4 k94 x5 x6 x7 x8 x9 s1 σ = some r → Sg (Ym12_days) σ r.2 := by
  intro x5 x6 x7 x8 x9 s1 σ h
  unfold m12_days_116 at h
  have ⟨hg, h⟩ := g_gd h
  have ⟨_, hc1, h⟩ := b_some h
  have qhc1 := f12_passes_g hc1
  exact Sg.trans (Sg.trans (Sg.sI (Sg.rf _ _)) (Sg.mono qhc1 (fun c hw => by unfold Ym12_passes at hw; unfold Ym12_days; first | exact hw.elim | omega))) (hk94 _ _ _ _ _ _ h)
set_option maxHeartbeats 1000000 in
theorem f12_days_g94 {F : Nat} {i1 : Int32} {i2 : Int32} {i3 : Int32} {i4 : Int32} {r : Int32 × Mem} {k78 : Int32 → Int32 → Int32 → Mem → Option (Int32 × Mem)} (hk78 : ∀ (x5 : Int32) (x6 : Int32) (x7 : Int32) (σ : Mem), k78 x5 x6 x7 σ = some r → Sg (Ym12_days) σ r.2) : ∀ (n : Nat) (x5 : Int32) (x6 : Int32) (x7 : Int32) (x8 : Int32) (x9 : Int32) (σ : Mem), m12_days_94 F i1 i2 i3 i4 k78 n x5 x6 x7 x8 x9 σ = some r → Sg (Ym12_days) σ r.2 := by
  intro n
  induction n with
  | zero => intro x5 x6 x7 x8 x9 σ h; unfold m12_days_94 at h; cases h
  | succ n ih =>
    intro x5 x6 x7 x8 x9 σ h
    unfold m12_days_94 at h
    rcases g_if h with ⟨hq, h⟩ | ⟨hq, h⟩
    · have ⟨_, hc1, h⟩ := b_some h
      have ⟨_, hc2, h⟩ := b_some h
      have qhc2 := f12_laysBack_g hc2
      exact Sg.trans (Sg.trans (Sg.rf _ _) (Sg.mono qhc2 (fun c hw => by unfold Ym12_laysBack at hw; unfold Ym12_days; first | exact hw.elim | omega))) (hk78 _ _ _ _ h)
    · have ⟨_, hc1, h⟩ := b_some h
      have qhc1 := f12_draw_g hc1
      rcases g_if h with ⟨hq, h⟩ | ⟨hq, h⟩
      · exact Sg.trans (Sg.trans (Sg.rf _ _) (Sg.mono qhc1 (fun c hw => by unfold Ym12_draw at hw; unfold Ym12_days; first | exact hw.elim | omega))) (f12_days_g116 (F := F) (fun _ _ _ _ _ _ h => (ih _ _ _ _ _ _ h)) _ _ _ _ _ _ _ h)
      · exact Sg.trans (Sg.trans (Sg.rf _ _) (Sg.mono qhc1 (fun c hw => by unfold Ym12_draw at hw; unfold Ym12_days; first | exact hw.elim | omega))) (f12_days_g116 (F := F) (fun _ _ _ _ _ _ h => (ih _ _ _ _ _ _ h)) _ _ _ _ _ _ _ h)
set_option maxHeartbeats 1000000 in
theorem f12_days_g78 {F : Nat} {i1 : Int32} {i2 : Int32} {i3 : Int32} {i4 : Int32} {r : Int32 × Mem} : ∀ (n : Nat) (x5 : Int32) (x6 : Int32) (x7 : Int32) (σ : Mem), m12_days_78 F i1 i2 i3 i4 n x5 x6 x7 σ = some r → Sg (Ym12_days) σ r.2 := by
  intro n
  induction n with
  | zero => intro x5 x6 x7 σ h; unfold m12_days_78 at h; cases h
  | succ n ih =>
    intro x5 x6 x7 σ h
    unfold m12_days_78 at h
    rcases g_if h with ⟨hq, h⟩ | ⟨hq, h⟩
    · rcases g_if h with ⟨hq, h⟩ | ⟨hq, h⟩
      · have e := Option.some.inj h
        subst e
        exact (Sg.sI (Sg.rf _ _))
      · have e := Option.some.inj h
        subst e
        exact (Sg.sI (Sg.rf _ _))
    · have ⟨_, hc1, h⟩ := b_some h
      exact Sg.trans (Sg.rf _ _) (f12_days_g94 (F := F) (fun _ _ _ _ h => (ih _ _ _ _ h)) F _ _ _ _ _ _ h)
set_option maxHeartbeats 1000000 in
theorem f12_days_g {F : Nat} {i1 : Int32} {i2 : Int32} {i3 : Int32} {i4 : Int32} {σ : Mem} {r : Int32 × Mem} (h : m12_days F i1 i2 i3 i4 σ = some r) : Sg (Ym12_days) σ r.2 := by
  unfold m12_days at h
  have ⟨_, hc1, h⟩ := b_some h
  rcases g_if h with ⟨hq, h⟩ | ⟨hq, h⟩
  · have e := Option.some.inj h
    subst e
    exact (Sg.rf _ _)
  · have ⟨_, hc2, h⟩ := b_some h
    rcases g_if h with ⟨hq, h⟩ | ⟨hq, h⟩
    · have e := Option.some.inj h
      subst e
      exact (Sg.rf _ _)
    · have ⟨_, hc3, h⟩ := b_some h
      rcases g_if h with ⟨hq, h⟩ | ⟨hq, h⟩
      · have e := Option.some.inj h
        subst e
        exact (Sg.rf _ _)
      · have ⟨_, hc4, h⟩ := b_some h
        rcases g_if h with ⟨hq, h⟩ | ⟨hq, h⟩
        · have e := Option.some.inj h
          subst e
          exact (Sg.rf _ _)
        · have ⟨_, hc5, h⟩ := b_some h
          rcases g_if h with ⟨hq, h⟩ | ⟨hq, h⟩
          · have e := Option.some.inj h
            subst e
            exact (Sg.rf _ _)
          · have ⟨_, hc6, h⟩ := b_some h
            have qhc6 := f12_keeps_g hc6
            exact Sg.trans (Sg.trans (Sg.at (Sg.rf _ _) rfl) (Sg.mono qhc6 (fun c hw => by unfold Ym12_keeps at hw; unfold Ym12_days; first | exact hw.elim | omega))) (f12_days_g78 (F := F) F _ _ _ _ h)
def Ym12_image (c : Nat) : Prop := False
set_option maxHeartbeats 1000000 in
theorem f12_image_g43 {F : Nat} {i1 : Int32} {r : Int32 × Mem} : ∀ (n : Nat) (x2 : Int32) (σ : Mem), m12_image_43 F i1 n x2 σ = some r → Sg (Ym12_image) σ r.2 := by
  intro n
  induction n with
  | zero => intro x2 σ h; unfold m12_image_43 at h; cases h
  | succ n ih =>
    intro x2 σ h
    unfold m12_image_43 at h
    rcases g_if h with ⟨hq, h⟩ | ⟨hq, h⟩
    · have ⟨hg, h⟩ := g_gd h
      have hb := inB_lt hg
      have e := Option.some.inj h
      subst e
      exact (Sg.rf _ _)
    · have ⟨hg, h⟩ := g_gd h
      have hb := inB_lt hg
      have ⟨hg, h⟩ := g_gd h
      have hb := inB_lt hg
      exact Sg.trans (Sg.sI (Sg.rf _ _)) (ih _ _ h)
set_option maxHeartbeats 1000000 in
theorem f12_image_g {F : Nat} {i1 : Int32} {σ : Mem} {r : Int32 × Mem} (h : m12_image F i1 σ = some r) : Sg (Ym12_image) σ r.2 := by
  unfold m12_image at h
  have ⟨_, hc1, h⟩ := b_some h
  rcases g_if h with ⟨hq, h⟩ | ⟨hq, h⟩
  · have e := Option.some.inj h
    subst e
    exact (Sg.rf _ _)
  · have ⟨hg, h⟩ := g_gd h
    have hb := inB_lt hg
    have ⟨hg, h⟩ := g_gd h
    have hb := inB_lt hg
    have ⟨hg, h⟩ := g_gd h
    have hb := inB_lt hg
    exact Sg.trans (Sg.sI (Sg.sI (Sg.sI (Sg.rf _ _)))) (f12_image_g43 (F := F) F _ _ h)
def Ym12_back (c : Nat) : Prop := False
set_option maxHeartbeats 1000000 in
theorem f12_back_g50 {F : Nat} {i1 : Int32} {r : Int32 × Mem} : ∀ (n : Nat) (x2 : Int32) (σ : Mem), m12_back_50 F i1 n x2 σ = some r → Sg (Ym12_back) σ r.2 := by
  intro n
  induction n with
  | zero => intro x2 σ h; unfold m12_back_50 at h; cases h
  | succ n ih =>
    intro x2 σ h
    unfold m12_back_50 at h
    rcases g_if h with ⟨hq, h⟩ | ⟨hq, h⟩
    · have ⟨hg, h⟩ := g_gd h
      have hb := inB_lt hg
      have e := Option.some.inj h
      subst e
      exact (Sg.rf _ _)
    · have ⟨hg, h⟩ := g_gd h
      have hb := inB_lt hg
      have ⟨hg, h⟩ := g_gd h
      have hb := inB_lt hg
      exact Sg.trans (Sg.sI (Sg.rf _ _)) (ih _ _ h)
set_option maxHeartbeats 1000000 in
theorem f12_back_g {F : Nat} {i1 : Int32} {σ : Mem} {r : Int32 × Mem} (h : m12_back F i1 σ = some r) : Sg (Ym12_back) σ r.2 := by
  unfold m12_back at h
  have ⟨_, hc1, h⟩ := b_some h
  rcases g_if h with ⟨hq, h⟩ | ⟨hq, h⟩
  · have e := Option.some.inj h
    subst e
    exact (Sg.rf _ _)
  · have ⟨hg, h⟩ := g_gd h
    have hb := inB_lt hg
    rcases g_if h with ⟨hq, h⟩ | ⟨hq, h⟩
    · have e := Option.some.inj h
      subst e
      exact (Sg.rf _ _)
    · have ⟨hg, h⟩ := g_gd h
      have hb := inB_lt hg
      have ⟨hg, h⟩ := g_gd h
      have hb := inB_lt hg
      exact Sg.trans (Sg.sI (Sg.sI (Sg.sI (Sg.rf _ _)))) (f12_back_g50 (F := F) F _ _ h)
