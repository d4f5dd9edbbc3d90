/-! the reference's own fields that a method may write -/
def Sl (W : Nat → Prop) (σ σ' : Mem) : Prop := ∀ j, ¬ W j → gI σ' 483 j = gI σ 483 j
theorem Sl.rf (W : Nat → Prop) (σ : Mem) : Sl W σ σ := fun _ _ => rfl
theorem Sl.trans {W : Nat → Prop} {σ σ1 σ2 : Mem} (h : Sl W σ σ1) (g : Sl W σ1 σ2) : Sl W σ σ2 := fun j hj => (g j hj).trans (h j hj)
theorem Sl.mono {W V : Nat → Prop} {σ σ1 : Mem} (h : Sl W σ σ1) (m : ∀ j, W j → V j) : Sl V σ σ1 := fun j hj => h j (fun q => hj (m j q))
theorem Sl.at {W : Nat → Prop} {σ σ1 : Mem} {j : Nat} {v : Int32} (h : Sl W σ σ1) (hw : W j) : Sl W σ (sI σ1 483 j v) := fun j' hj => by
  have hne : j' ≠ j := fun e => hj (e ▸ hw)
  rw [← h j' hj]
  exact if_neg (fun q => hne q.2)
theorem Sl.ne {W : Nat → Prop} {σ σ1 : Mem} {c j : Nat} {v : Int32} (h : Sl W σ σ1) (hc : 483 ≠ c) : Sl W σ (sI σ1 c j v) := fun j' hj => by
  rw [← h j' hj]
  exact if_neg (fun q => hc q.1)
theorem Sl.sL {W : Nat → Prop} {σ σ1 : Mem} {c j : Nat} {v : Int64} (h : Sl W σ σ1) : Sl W σ (sL σ1 c j v) := h
def Vm12_four (c : Nat) : Prop := c = 1
set_option maxHeartbeats 1000000 in
theorem f12_four_s3 {F : Nat} {i1 : Int32} {r : Mem} : ∀ (n : Nat) (x2 : Int32) (σ : Mem), m12_four_3 F i1 n x2 σ = some r → Sl (Vm12_four) σ r := by
  intro n
  induction n with
  | zero => intro x2 σ h; unfold m12_four_3 at h; cases h
  | succ n ih =>
    intro x2 σ h
    unfold m12_four_3 at h
    rcases g_if h with ⟨hq, h⟩ | ⟨hq, h⟩
    · have e := Option.some.inj h
      subst e
      exact (Sl.rf _ _)
    · have ⟨hg, h⟩ := g_gd h
      have hb := inB_lt hg
      exact Sl.trans (Sl.at (Sl.ne (Sl.rf _ _) (by decide)) (by unfold Vm12_four; omega)) (ih _ _ h)
set_option maxHeartbeats 1000000 in
theorem f12_four_s {F : Nat} {i1 : Int32} {σ : Mem} {r : Mem} (h : m12_four F i1 σ = some r) : Sl (Vm12_four) σ r := by
  unfold m12_four at h
  exact Sl.trans (Sl.rf _ _) (f12_four_s3 (F := F) F _ _ h)
def Vm12_feed (c : Nat) : Prop := c = 1
set_option maxHeartbeats 1000000 in
theorem f12_feed_s {F : Nat} {i1 : Int32} {i2 : Int32} {i3 : Int32} {i4 : Int32} {i5 : Int32} {σ : Mem} {r : Int32 × Mem} (h : m12_feed F i1 i2 i3 i4 i5 σ = some r) : Sl (Vm12_feed) σ r.2 := by
  unfold m12_feed at h
  rcases g_if h with ⟨hq, h⟩ | ⟨hq, h⟩
  · have ⟨_, hc1, h⟩ := b_some h
    have qhc1 := f12_four_s hc1
    have ⟨_, hc2, h⟩ := b_some h
    have qhc2 := f12_four_s hc2
    have ⟨_, hc3, h⟩ := b_some h
    have qhc3 := f12_four_s hc3
    have ⟨_, hc4, h⟩ := b_some h
    have qhc4 := f12_four_s hc4
    have ⟨_, hc5, h⟩ := b_some h
    have qhc5 := f12_four_s hc5
    have e := Option.some.inj h
    subst e
    exact (Sl.trans (Sl.trans (Sl.trans (Sl.trans (Sl.trans (Sl.rf _ _) (Sl.mono qhc1 (fun c hw => by unfold Vm12_four at hw; unfold Vm12_feed; first | exact hw.elim | omega))) (Sl.mono qhc2 (fun c hw => by unfold Vm12_four at hw; unfold Vm12_feed; first | exact hw.elim | omega))) (Sl.mono qhc3 (fun c hw => by unfold Vm12_four at hw; unfold Vm12_feed; first | exact hw.elim | omega))) (Sl.mono qhc4 (fun c hw => by unfold Vm12_four at hw; unfold Vm12_feed; first | exact hw.elim | omega))) (Sl.mono qhc5 (fun c hw => by unfold Vm12_four at hw; unfold Vm12_feed; first | exact hw.elim | omega)))
  · have e := Option.some.inj h
    subst e
    exact (Sl.rf _ _)
def Vm12_end (c : Nat) : Prop := c = 1
set_option maxHeartbeats 1000000 in
theorem f12_end_s {F : Nat} {i1 : Int32} {σ : Mem} {r : Int32 × Mem} (h : m12_end F i1 σ = some r) : Sl (Vm12_end) σ r.2 := by
  unfold m12_end at h
  rcases g_if h with ⟨hq, h⟩ | ⟨hq, h⟩
  · have e := Option.some.inj h
    subst e
    exact (Sl.rf _ _)
  · rcases g_if h with ⟨hq, h⟩ | ⟨hq, h⟩
    · have e := Option.some.inj h
      subst e
      exact (Sl.at (Sl.rf _ _) (by unfold Vm12_end; omega))
    · have e := Option.some.inj h
      subst e
      exact (Sl.rf _ _)
def Vm12_fails (c : Nat) : Prop := c = 9
set_option maxHeartbeats 1000000 in
theorem f12_fails_s {F : Nat} {i1 : Int32} {i2 : Int32} {σ : Mem} {r : Int32 × Mem} (h : m12_fails F i1 i2 σ = some r) : Sl (Vm12_fails) σ r.2 := by
  unfold m12_fails at h
  rcases g_if h with ⟨hq, h⟩ | ⟨hq, h⟩
  · have e := Option.some.inj h
    subst e
    exact (Sl.at (Sl.rf _ _) (by unfold Vm12_fails; omega))
  · have e := Option.some.inj h
    subst e
    exact (Sl.rf _ _)
def Vm12_see (c : Nat) : Prop := c = 8
set_option maxHeartbeats 1000000 in
theorem f12_see_s38 {F : Nat} {r : Int32 × Mem} : ∀ (σ : Mem), m12_see_38 F σ = some r → Sl (Vm12_see) σ r.2 := by
  intro σ h
  unfold m12_see_38 at h
  rcases g_if h with ⟨hq, h⟩ | ⟨hq, h⟩
  · have e := Option.some.inj h
    subst e
    exact (Sl.rf _ _)
  · have ⟨hg, h⟩ := g_gd h
    have hb := inB_lt hg
    have e := Option.some.inj h
    subst e
    exact (Sl.rf _ _)
set_option maxHeartbeats 1000000 in
theorem f12_see_s0 {F : Nat} {r : Int32 × Mem} : ∀ (n : Nat) (σ : Mem), m12_see_0 F n σ = some r → Sl (Vm12_see) σ r.2 := by
  intro n
  induction n with
  | zero => intro σ h; unfold m12_see_0 at h; cases h
  | succ n ih =>
    intro σ h
    unfold m12_see_0 at h
    rcases g_if h with ⟨hq, h⟩ | ⟨hq, h⟩
    · exact Sl.trans (Sl.rf _ _) (f12_see_s38 (F := F) _ h)
    · have ⟨hg, h⟩ := g_gd h
      have hb := inB_lt hg
      rcases g_if h with ⟨hq, h⟩ | ⟨hq, h⟩
      · exact Sl.trans (Sl.at (Sl.rf _ _) (by unfold Vm12_see; omega)) (ih _ h)
      · exact Sl.trans (Sl.rf _ _) (f12_see_s38 (F := F) _ h)
set_option maxHeartbeats 1000000 in
theorem f12_see_s {F : Nat} {σ : Mem} {r : Int32 × Mem} (h : m12_see F  σ = some r) : Sl (Vm12_see) σ r.2 := by
  unfold m12_see at h
  exact (f12_see_s0 (F := F) F _ h)
def Vm12_isWord (c : Nat) : Prop := c = 8
set_option maxHeartbeats 1000000 in
theorem f12_isWord_s10 {F : Nat} {j1 : Int64} {r : Int32 × Mem} : ∀ (n : Nat) (x3 : Int64) (x5 : Int32) (σ : Mem), m12_isWord_10 F j1 n x3 x5 σ = some r → Sl (Vm12_isWord) σ r.2 := by
  intro n
  induction n with
  | zero => intro x3 x5 σ h; unfold m12_isWord_10 at h; cases h
  | succ n ih =>
    intro x3 x5 σ h
    unfold m12_isWord_10 at h
    have ⟨_, hc1, h⟩ := b_some h
    rcases g_if h with ⟨hq, h⟩ | ⟨hq, h⟩
    · rcases g_if h with ⟨hq, h⟩ | ⟨hq, h⟩
      · have e := Option.some.inj h
        subst e
        exact (Sl.rf _ _)
      · rcases g_if h with ⟨hq, h⟩ | ⟨hq, h⟩
        · have e := Option.some.inj h
          subst e
          exact (Sl.rf _ _)
        · rcases g_if h with ⟨hq, h⟩ | ⟨hq, h⟩
          · have e := Option.some.inj h
            subst e
            exact (Sl.rf _ _)
          · have e := Option.some.inj h
            subst e
            exact (Sl.rf _ _)
    · rcases g_if h with ⟨hq, h⟩ | ⟨hq, h⟩
      · exact Sl.trans (Sl.rf _ _) (ih _ _ _ h)
      · have ⟨hg, h⟩ := g_gd h
        have hb := inB_lt hg
        exact Sl.trans (Sl.rf _ _) (ih _ _ _ h)
set_option maxHeartbeats 1000000 in
theorem f12_isWord_s {F : Nat} {j1 : Int64} {σ : Mem} {r : Int32 × Mem} (h : m12_isWord F j1 σ = some r) : Sl (Vm12_isWord) σ r.2 := by
  unfold m12_isWord at h
  have ⟨_, hc1, h⟩ := b_some h
  have qhc1 := f12_see_s hc1
  exact Sl.trans (Sl.trans (Sl.rf _ _) (Sl.mono qhc1 (fun c hw => by unfold Vm12_see at hw; unfold Vm12_isWord; first | exact hw.elim | omega))) (f12_isWord_s10 (F := F) F _ _ _ h)
def Vm12_passWord (c : Nat) : Prop := c = 8
set_option maxHeartbeats 1000000 in
theorem f12_passWord_s0 {F : Nat} {r : Mem} : ∀ (n : Nat) (σ : Mem), m12_passWord_0 F n σ = some r → Sl (Vm12_passWord) σ r := by
  intro n
  induction n with
  | zero => intro σ h; unfold m12_passWord_0 at h; cases h
  | succ n ih =>
    intro σ h
    unfold m12_passWord_0 at h
    have ⟨_, hc1, h⟩ := b_some h
    rcases g_if h with ⟨hq, h⟩ | ⟨hq, h⟩
    · have e := Option.some.inj h
      subst e
      exact (Sl.rf _ _)
    · exact Sl.trans (Sl.at (Sl.rf _ _) (by unfold Vm12_passWord; omega)) (ih _ h)
set_option maxHeartbeats 1000000 in
theorem f12_passWord_s {F : Nat} {σ : Mem} {r : Mem} (h : m12_passWord F  σ = some r) : Sl (Vm12_passWord) σ r := by
  unfold m12_passWord at h
  exact (f12_passWord_s0 (F := F) F _ h)
def Vm12_takesWord (c : Nat) : Prop := c = 8
set_option maxHeartbeats 1000000 in
theorem f12_takesWord_s {F : Nat} {j1 : Int64} {σ : Mem} {r : Int32 × Mem} (h : m12_takesWord F j1 σ = some r) : Sl (Vm12_takesWord) σ r.2 := by
  unfold m12_takesWord at h
  have ⟨_, hc1, h⟩ := b_some h
  have qhc1 := f12_isWord_s hc1
  rcases g_if h with ⟨hq, h⟩ | ⟨hq, h⟩
  · have e := Option.some.inj h
    subst e
    exact (Sl.trans (Sl.rf _ _) (Sl.mono qhc1 (fun c hw => by unfold Vm12_isWord at hw; unfold Vm12_takesWord; first | exact hw.elim | omega)))
  · have ⟨_, hc2, h⟩ := b_some h
    have qhc2 := f12_passWord_s hc2
    have e := Option.some.inj h
    subst e
    exact (Sl.trans (Sl.trans (Sl.rf _ _) (Sl.mono qhc1 (fun c hw => by unfold Vm12_isWord at hw; unfold Vm12_takesWord; first | exact hw.elim | omega))) (Sl.mono qhc2 (fun c hw => by unfold Vm12_passWord at hw; unfold Vm12_takesWord; first | exact hw.elim | omega)))
def Vm12_numberHere (c : Nat) : Prop := (8 ≤ c ∧ c ≤ 10)
set_option maxHeartbeats 1000000 in
theorem f12_numberHere_s117 {F : Nat} {i1 : Int32} {i2 : Int32} {r : Int32 × Mem} : ∀ (x3 : Int32) (σ : Mem), m12_numberHere_117 F i1 i2 x3 σ = some r → Sl (Vm12_numberHere) σ r.2 := by
  intro x3 σ h
  unfold m12_numberHere_117 at h
  have ⟨_, hc1, h⟩ := b_some h
  have qhc1 := f12_fails_s hc1
  rcases g_if h with ⟨hq, h⟩ | ⟨hq, h⟩
  · have e := Option.some.inj h
    subst e
    exact (Sl.trans (Sl.rf _ _) (Sl.mono qhc1 (fun c hw => by unfold Vm12_fails at hw; unfold Vm12_numberHere; first | exact hw.elim | omega)))
  · have e := Option.some.inj h
    subst e
    exact (Sl.trans (Sl.rf _ _) (Sl.mono qhc1 (fun c hw => by unfold Vm12_fails at hw; unfold Vm12_numberHere; first | exact hw.elim | omega)))
set_option maxHeartbeats 1000000 in
theorem f12_numberHere_s34 {F : Nat} {i1 : Int32} {i2 : Int32} {r : Int32 × Mem} : ∀ (n : Nat) (x3 : Int32) (x4 : Int32) (σ : Mem), m12_numberHere_34 F i1 i2 n x3 x4 σ = some r → Sl (Vm12_numberHere) σ r.2 := by
  intro n
  induction n with
  | zero => intro x3 x4 σ h; unfold m12_numberHere_34 at h; cases h
  | succ n ih =>
    intro x3 x4 σ h
    unfold m12_numberHere_34 at h
    have ⟨_, hc1, h⟩ := b_some h
    rcases g_if h with ⟨hq, h⟩ | ⟨hq, h⟩
    · rcases g_if h with ⟨hq, h⟩ | ⟨hq, h⟩
      · exact Sl.trans (Sl.at (Sl.rf _ _) (by unfold Vm12_numberHere; omega)) (f12_numberHere_s117 (F := F) _ _ h)
      · have ⟨_, hc2, h⟩ := b_some h
        rcases g_if h with ⟨hq, h⟩ | ⟨hq, h⟩
        · exact Sl.trans (Sl.at (Sl.rf _ _) (by unfold Vm12_numberHere; omega)) (f12_numberHere_s117 (F := F) _ _ h)
        · have e := Option.some.inj h
          subst e
          exact (Sl.at (Sl.rf _ _) (by unfold Vm12_numberHere; omega))
    · rcases g_if h with ⟨hq, h⟩ | ⟨hq, h⟩
      · exact Sl.trans (Sl.at (Sl.rf _ _) (by unfold Vm12_numberHere; omega)) (ih _ _ _ h)
      · have ⟨hg, h⟩ := g_gd h
        have hb := inB_lt hg
        exact Sl.trans (Sl.at (Sl.rf _ _) (by unfold Vm12_numberHere; omega)) (ih _ _ _ h)
set_option maxHeartbeats 1000000 in
theorem f12_numberHere_s {F : Nat} {i1 : Int32} {i2 : Int32} {σ : Mem} {r : Int32 × Mem} (h : m12_numberHere F i1 i2 σ = some r) : Sl (Vm12_numberHere) σ r.2 := by
  unfold m12_numberHere at h
  have ⟨_, hc1, h⟩ := b_some h
  have qhc1 := f12_see_s hc1
  have ⟨_, hc2, h⟩ := b_some h
  rcases g_if h with ⟨hq, h⟩ | ⟨hq, h⟩
  · have ⟨_, hc3, h⟩ := b_some h
    have qhc3 := f12_fails_s hc3
    have ⟨hg, h⟩ := g_gd h
    have e := Option.some.inj h
    subst e
    exact (Sl.trans (Sl.trans (Sl.rf _ _) (Sl.mono qhc1 (fun c hw => by unfold Vm12_see at hw; unfold Vm12_numberHere; first | exact hw.elim | omega))) (Sl.mono qhc3 (fun c hw => by unfold Vm12_fails at hw; unfold Vm12_numberHere; first | exact hw.elim | omega)))
  · exact Sl.trans (Sl.trans (Sl.rf _ _) (Sl.mono qhc1 (fun c hw => by unfold Vm12_see at hw; unfold Vm12_numberHere; first | exact hw.elim | omega))) (f12_numberHere_s34 (F := F) F _ _ _ h)
def Vm12_wordHere (c : Nat) : Prop := c = 8
set_option maxHeartbeats 1000000 in
theorem f12_wordHere_s {F : Nat} {σ : Mem} {r : Int32 × Mem} (h : m12_wordHere F  σ = some r) : Sl (Vm12_wordHere) σ r.2 := by
  unfold m12_wordHere at h
  have ⟨_, hc1, h⟩ := b_some h
  have qhc1 := f12_isWord_s hc1
  rcases g_if h with ⟨hq, h⟩ | ⟨hq, h⟩
  · have ⟨_, hc2, h⟩ := b_some h
    have qhc2 := f12_isWord_s hc2
    rcases g_if h with ⟨hq, h⟩ | ⟨hq, h⟩
    · have ⟨_, hc3, h⟩ := b_some h
      have qhc3 := f12_isWord_s hc3
      rcases g_if h with ⟨hq, h⟩ | ⟨hq, h⟩
      · have ⟨_, hc4, h⟩ := b_some h
        have qhc4 := f12_isWord_s hc4
        rcases g_if h with ⟨hq, h⟩ | ⟨hq, h⟩
        · have ⟨_, hc5, h⟩ := b_some h
          have qhc5 := f12_isWord_s hc5
          rcases g_if h with ⟨hq, h⟩ | ⟨hq, h⟩
          · have ⟨_, hc6, h⟩ := b_some h
            have qhc6 := f12_isWord_s hc6
            rcases g_if h with ⟨hq, h⟩ | ⟨hq, h⟩
            · have ⟨_, hc7, h⟩ := b_some h
              have qhc7 := f12_isWord_s hc7
              rcases g_if h with ⟨hq, h⟩ | ⟨hq, h⟩
              · have ⟨_, hc8, h⟩ := b_some h
                have qhc8 := f12_isWord_s hc8
                rcases g_if h with ⟨hq, h⟩ | ⟨hq, h⟩
                · have ⟨_, hc9, h⟩ := b_some h
                  have qhc9 := f12_isWord_s hc9
                  rcases g_if h with ⟨hq, h⟩ | ⟨hq, h⟩
                  · have ⟨_, hc10, h⟩ := b_some h
                    have qhc10 := f12_isWord_s hc10
                    rcases g_if h with ⟨hq, h⟩ | ⟨hq, h⟩
                    · have ⟨_, hc11, h⟩ := b_some h
                      have qhc11 := f12_isWord_s hc11
                      rcases g_if h with ⟨hq, h⟩ | ⟨hq, h⟩
                      · have ⟨_, hc12, h⟩ := b_some h
                        have qhc12 := f12_isWord_s hc12
                        rcases g_if h with ⟨hq, h⟩ | ⟨hq, h⟩
                        · have ⟨_, hc13, h⟩ := b_some h
                          have qhc13 := f12_isWord_s hc13
                          rcases g_if h with ⟨hq, h⟩ | ⟨hq, h⟩
                          · have e := Option.some.inj h
                            subst e
                            exact (Sl.trans (Sl.trans (Sl.trans (Sl.trans (Sl.trans (Sl.trans (Sl.trans (Sl.trans (Sl.trans (Sl.trans (Sl.trans (Sl.trans (Sl.trans (Sl.rf _ _) (Sl.mono qhc1 (fun c hw => by unfold Vm12_isWord at hw; unfold Vm12_wordHere; first | exact hw.elim | omega))) (Sl.mono qhc2 (fun c hw => by unfold Vm12_isWord at hw; unfold Vm12_wordHere; first | exact hw.elim | omega))) (Sl.mono qhc3 (fun c hw => by unfold Vm12_isWord at hw; unfold Vm12_wordHere; first | exact hw.elim | omega))) (Sl.mono qhc4 (fun c hw => by unfold Vm12_isWord at hw; unfold Vm12_wordHere; first | exact hw.elim | omega))) (Sl.mono qhc5 (fun c hw => by unfold Vm12_isWord at hw; unfold Vm12_wordHere; first | exact hw.elim | omega))) (Sl.mono qhc6 (fun c hw => by unfold Vm12_isWord at hw; unfold Vm12_wordHere; first | exact hw.elim | omega))) (Sl.mono qhc7 (fun c hw => by unfold Vm12_isWord at hw; unfold Vm12_wordHere; first | exact hw.elim | omega))) (Sl.mono qhc8 (fun c hw => by unfold Vm12_isWord at hw; unfold Vm12_wordHere; first | exact hw.elim | omega))) (Sl.mono qhc9 (fun c hw => by unfold Vm12_isWord at hw; unfold Vm12_wordHere; first | exact hw.elim | omega))) (Sl.mono qhc10 (fun c hw => by unfold Vm12_isWord at hw; unfold Vm12_wordHere; first | exact hw.elim | omega))) (Sl.mono qhc11 (fun c hw => by unfold Vm12_isWord at hw; unfold Vm12_wordHere; first | exact hw.elim | omega))) (Sl.mono qhc12 (fun c hw => by unfold Vm12_isWord at hw; unfold Vm12_wordHere; first | exact hw.elim | omega))) (Sl.mono qhc13 (fun c hw => by unfold Vm12_isWord at hw; unfold Vm12_wordHere; first | exact hw.elim | omega)))
                          · have e := Option.some.inj h
                            subst e
                            exact (Sl.trans (Sl.trans (Sl.trans (Sl.trans (Sl.trans (Sl.trans (Sl.trans (Sl.trans (Sl.trans (Sl.trans (Sl.trans (Sl.trans (Sl.trans (Sl.rf _ _) (Sl.mono qhc1 (fun c hw => by unfold Vm12_isWord at hw; unfold Vm12_wordHere; first | exact hw.elim | omega))) (Sl.mono qhc2 (fun c hw => by unfold Vm12_isWord at hw; unfold Vm12_wordHere; first | exact hw.elim | omega))) (Sl.mono qhc3 (fun c hw => by unfold Vm12_isWord at hw; unfold Vm12_wordHere; first | exact hw.elim | omega))) (Sl.mono qhc4 (fun c hw => by unfold Vm12_isWord at hw; unfold Vm12_wordHere; first | exact hw.elim | omega))) (Sl.mono qhc5 (fun c hw => by unfold Vm12_isWord at hw; unfold Vm12_wordHere; first | exact hw.elim | omega))) (Sl.mono qhc6 (fun c hw => by unfold Vm12_isWord at hw; unfold Vm12_wordHere; first | exact hw.elim | omega))) (Sl.mono qhc7 (fun c hw => by unfold Vm12_isWord at hw; unfold Vm12_wordHere; first | exact hw.elim | omega))) (Sl.mono qhc8 (fun c hw => by unfold Vm12_isWord at hw; unfold Vm12_wordHere; first | exact hw.elim | omega))) (Sl.mono qhc9 (fun c hw => by unfold Vm12_isWord at hw; unfold Vm12_wordHere; first | exact hw.elim | omega))) (Sl.mono qhc10 (fun c hw => by unfold Vm12_isWord at hw; unfold Vm12_wordHere; first | exact hw.elim | omega))) (Sl.mono qhc11 (fun c hw => by unfold Vm12_isWord at hw; unfold Vm12_wordHere; first | exact hw.elim | omega))) (Sl.mono qhc12 (fun c hw => by unfold Vm12_isWord at hw; unfold Vm12_wordHere; first | exact hw.elim | omega))) (Sl.mono qhc13 (fun c hw => by unfold Vm12_isWord at hw; unfold Vm12_wordHere; first | exact hw.elim | omega)))
                        · have e := Option.some.inj h
                          subst e
                          exact (Sl.trans (Sl.trans (Sl.trans (Sl.trans (Sl.trans (Sl.trans (Sl.trans (Sl.trans (Sl.trans (Sl.trans (Sl.trans (Sl.trans (Sl.rf _ _) (Sl.mono qhc1 (fun c hw => by unfold Vm12_isWord at hw; unfold Vm12_wordHere; first | exact hw.elim | omega))) (Sl.mono qhc2 (fun c hw => by unfold Vm12_isWord at hw; unfold Vm12_wordHere; first | exact hw.elim | omega))) (Sl.mono qhc3 (fun c hw => by unfold Vm12_isWord at hw; unfold Vm12_wordHere; first | exact hw.elim | omega))) (Sl.mono qhc4 (fun c hw => by unfold Vm12_isWord at hw; unfold Vm12_wordHere; first | exact hw.elim | omega))) (Sl.mono qhc5 (fun c hw => by unfold Vm12_isWord at hw; unfold Vm12_wordHere; first | exact hw.elim | omega))) (Sl.mono qhc6 (fun c hw => by unfold Vm12_isWord at hw; unfold Vm12_wordHere; first | exact hw.elim | omega))) (Sl.mono qhc7 (fun c hw => by unfold Vm12_isWord at hw; unfold Vm12_wordHere; first | exact hw.elim | omega))) (Sl.mono qhc8 (fun c hw => by unfold Vm12_isWord at hw; unfold Vm12_wordHere; first | exact hw.elim | omega))) (Sl.mono qhc9 (fun c hw => by unfold Vm12_isWord at hw; unfold Vm12_wordHere; first | exact hw.elim | omega))) (Sl.mono qhc10 (fun c hw => by unfold Vm12_isWord at hw; unfold Vm12_wordHere; first | exact hw.elim | omega))) (Sl.mono qhc11 (fun c hw => by unfold Vm12_isWord at hw; unfold Vm12_wordHere; first | exact hw.elim | omega))) (Sl.mono qhc12 (fun c hw => by unfold Vm12_isWord at hw; unfold Vm12_wordHere; first | exact hw.elim | omega)))
                      · have e := Option.some.inj h
                        subst e
                        exact (Sl.trans (Sl.trans (Sl.trans (Sl.trans (Sl.trans (Sl.trans (Sl.trans (Sl.trans (Sl.trans (Sl.trans (Sl.trans (Sl.rf _ _) (Sl.mono qhc1 (fun c hw => by unfold Vm12_isWord at hw; unfold Vm12_wordHere; first | exact hw.elim | omega))) (Sl.mono qhc2 (fun c hw => by unfold Vm12_isWord at hw; unfold Vm12_wordHere; first | exact hw.elim | omega))) (Sl.mono qhc3 (fun c hw => by unfold Vm12_isWord at hw; unfold Vm12_wordHere; first | exact hw.elim | omega))) (Sl.mono qhc4 (fun c hw => by unfold Vm12_isWord at hw; unfold Vm12_wordHere; first | exact hw.elim | omega))) (Sl.mono qhc5 (fun c hw => by unfold Vm12_isWord at hw; unfold Vm12_wordHere; first | exact hw.elim | omega))) (Sl.mono qhc6 (fun c hw => by unfold Vm12_isWord at hw; unfold Vm12_wordHere; first | exact hw.elim | omega))) (Sl.mono qhc7 (fun c hw => by unfold Vm12_isWord at hw; unfold Vm12_wordHere; first | exact hw.elim | omega))) (Sl.mono qhc8 (fun c hw => by unfold Vm12_isWord at hw; unfold Vm12_wordHere; first | exact hw.elim | omega))) (Sl.mono qhc9 (fun c hw => by unfold Vm12_isWord at hw; unfold Vm12_wordHere; first | exact hw.elim | omega))) (Sl.mono qhc10 (fun c hw => by unfold Vm12_isWord at hw; unfold Vm12_wordHere; first | exact hw.elim | omega))) (Sl.mono qhc11 (fun c hw => by unfold Vm12_isWord at hw; unfold Vm12_wordHere; first | exact hw.elim | omega)))
                    · have e := Option.some.inj h
                      subst e
                      exact (Sl.trans (Sl.trans (Sl.trans (Sl.trans (Sl.trans (Sl.trans (Sl.trans (Sl.trans (Sl.trans (Sl.trans (Sl.rf _ _) (Sl.mono qhc1 (fun c hw => by unfold Vm12_isWord at hw; unfold Vm12_wordHere; first | exact hw.elim | omega))) (Sl.mono qhc2 (fun c hw => by unfold Vm12_isWord at hw; unfold Vm12_wordHere; first | exact hw.elim | omega))) (Sl.mono qhc3 (fun c hw => by unfold Vm12_isWord at hw; unfold Vm12_wordHere; first | exact hw.elim | omega))) (Sl.mono qhc4 (fun c hw => by unfold Vm12_isWord at hw; unfold Vm12_wordHere; first | exact hw.elim | omega))) (Sl.mono qhc5 (fun c hw => by unfold Vm12_isWord at hw; unfold Vm12_wordHere; first | exact hw.elim | omega))) (Sl.mono qhc6 (fun c hw => by unfold Vm12_isWord at hw; unfold Vm12_wordHere; first | exact hw.elim | omega))) (Sl.mono qhc7 (fun c hw => by unfold Vm12_isWord at hw; unfold Vm12_wordHere; first | exact hw.elim | omega))) (Sl.mono qhc8 (fun c hw => by unfold Vm12_isWord at hw; unfold Vm12_wordHere; first | exact hw.elim | omega))) (Sl.mono qhc9 (fun c hw => by unfold Vm12_isWord at hw; unfold Vm12_wordHere; first | exact hw.elim | omega))) (Sl.mono qhc10 (fun c hw => by unfold Vm12_isWord at hw; unfold Vm12_wordHere; first | exact hw.elim | omega)))
                  · have e := Option.some.inj h
                    subst e
                    exact (Sl.trans (Sl.trans (Sl.trans (Sl.trans (Sl.trans (Sl.trans (Sl.trans (Sl.trans (Sl.trans (Sl.rf _ _) (Sl.mono qhc1 (fun c hw => by unfold Vm12_isWord at hw; unfold Vm12_wordHere; first | exact hw.elim | omega))) (Sl.mono qhc2 (fun c hw => by unfold Vm12_isWord at hw; unfold Vm12_wordHere; first | exact hw.elim | omega))) (Sl.mono qhc3 (fun c hw => by unfold Vm12_isWord at hw; unfold Vm12_wordHere; first | exact hw.elim | omega))) (Sl.mono qhc4 (fun c hw => by unfold Vm12_isWord at hw; unfold Vm12_wordHere; first | exact hw.elim | omega))) (Sl.mono qhc5 (fun c hw => by unfold Vm12_isWord at hw; unfold Vm12_wordHere; first | exact hw.elim | omega))) (Sl.mono qhc6 (fun c hw => by unfold Vm12_isWord at hw; unfold Vm12_wordHere; first | exact hw.elim | omega))) (Sl.mono qhc7 (fun c hw => by unfold Vm12_isWord at hw; unfold Vm12_wordHere; first | exact hw.elim | omega))) (Sl.mono qhc8 (fun c hw => by unfold Vm12_isWord at hw; unfold Vm12_wordHere; first | exact hw.elim | omega))) (Sl.mono qhc9 (fun c hw => by unfold Vm12_isWord at hw; unfold Vm12_wordHere; first | exact hw.elim | omega)))
                · have e := Option.some.inj h
                  subst e
                  exact (Sl.trans (Sl.trans (Sl.trans (Sl.trans (Sl.trans (Sl.trans (Sl.trans (Sl.trans (Sl.rf _ _) (Sl.mono qhc1 (fun c hw => by unfold Vm12_isWord at hw; unfold Vm12_wordHere; first | exact hw.elim | omega))) (Sl.mono qhc2 (fun c hw => by unfold Vm12_isWord at hw; unfold Vm12_wordHere; first | exact hw.elim | omega))) (Sl.mono qhc3 (fun c hw => by unfold Vm12_isWord at hw; unfold Vm12_wordHere; first | exact hw.elim | omega))) (Sl.mono qhc4 (fun c hw => by unfold Vm12_isWord at hw; unfold Vm12_wordHere; first | exact hw.elim | omega))) (Sl.mono qhc5 (fun c hw => by unfold Vm12_isWord at hw; unfold Vm12_wordHere; first | exact hw.elim | omega))) (Sl.mono qhc6 (fun c hw => by unfold Vm12_isWord at hw; unfold Vm12_wordHere; first | exact hw.elim | omega))) (Sl.mono qhc7 (fun c hw => by unfold Vm12_isWord at hw; unfold Vm12_wordHere; first | exact hw.elim | omega))) (Sl.mono qhc8 (fun c hw => by unfold Vm12_isWord at hw; unfold Vm12_wordHere; first | exact hw.elim | omega)))
              · have e := Option.some.inj h
                subst e
                exact (Sl.trans (Sl.trans (Sl.trans (Sl.trans (Sl.trans (Sl.trans (Sl.trans (Sl.rf _ _) (Sl.mono qhc1 (fun c hw => by unfold Vm12_isWord at hw; unfold Vm12_wordHere; first | exact hw.elim | omega))) (Sl.mono qhc2 (fun c hw => by unfold Vm12_isWord at hw; unfold Vm12_wordHere; first | exact hw.elim | omega))) (Sl.mono qhc3 (fun c hw => by unfold Vm12_isWord at hw; unfold Vm12_wordHere; first | exact hw.elim | omega))) (Sl.mono qhc4 (fun c hw => by unfold Vm12_isWord at hw; unfold Vm12_wordHere; first | exact hw.elim | omega))) (Sl.mono qhc5 (fun c hw => by unfold Vm12_isWord at hw; unfold Vm12_wordHere; first | exact hw.elim | omega))) (Sl.mono qhc6 (fun c hw => by unfold Vm12_isWord at hw; unfold Vm12_wordHere; first | exact hw.elim | omega))) (Sl.mono qhc7 (fun c hw => by unfold Vm12_isWord at hw; unfold Vm12_wordHere; first | exact hw.elim | omega)))
            · have e := Option.some.inj h
              subst e
              exact (Sl.trans (Sl.trans (Sl.trans (Sl.trans (Sl.trans (Sl.trans (Sl.rf _ _) (Sl.mono qhc1 (fun c hw => by unfold Vm12_isWord at hw; unfold Vm12_wordHere; first | exact hw.elim | omega))) (Sl.mono qhc2 (fun c hw => by unfold Vm12_isWord at hw; unfold Vm12_wordHere; first | exact hw.elim | omega))) (Sl.mono qhc3 (fun c hw => by unfold Vm12_isWord at hw; unfold Vm12_wordHere; first | exact hw.elim | omega))) (Sl.mono qhc4 (fun c hw => by unfold Vm12_isWord at hw; unfold Vm12_wordHere; first | exact hw.elim | omega))) (Sl.mono qhc5 (fun c hw => by unfold Vm12_isWord at hw; unfold Vm12_wordHere; first | exact hw.elim | omega))) (Sl.mono qhc6 (fun c hw => by unfold Vm12_isWord at hw; unfold Vm12_wordHere; first | exact hw.elim | omega)))
          · have e := Option.some.inj h
            subst e
            exact (Sl.trans (Sl.trans (Sl.trans (Sl.trans (Sl.trans (Sl.rf _ _) (Sl.mono qhc1 (fun c hw => by unfold Vm12_isWord at hw; unfold Vm12_wordHere; first | exact hw.elim | omega))) (Sl.mono qhc2 (fun c hw => by unfold Vm12_isWord at hw; unfold Vm12_wordHere; first | exact hw.elim | omega))) (Sl.mono qhc3 (fun c hw => by unfold Vm12_isWord at hw; unfold Vm12_wordHere; first | exact hw.elim | omega))) (Sl.mono qhc4 (fun c hw => by unfold Vm12_isWord at hw; unfold Vm12_wordHere; first | exact hw.elim | omega))) (Sl.mono qhc5 (fun c hw => by unfold Vm12_isWord at hw; unfold Vm12_wordHere; first | exact hw.elim | omega)))
        · have e := Option.some.inj h
          subst e
          exact (Sl.trans (Sl.trans (Sl.trans (Sl.trans (Sl.rf _ _) (Sl.mono qhc1 (fun c hw => by unfold Vm12_isWord at hw; unfold Vm12_wordHere; first | exact hw.elim | omega))) (Sl.mono qhc2 (fun c hw => by unfold Vm12_isWord at hw; unfold Vm12_wordHere; first | exact hw.elim | omega))) (Sl.mono qhc3 (fun c hw => by unfold Vm12_isWord at hw; unfold Vm12_wordHere; first | exact hw.elim | omega))) (Sl.mono qhc4 (fun c hw => by unfold Vm12_isWord at hw; unfold Vm12_wordHere; first | exact hw.elim | omega)))
      · have e := Option.some.inj h
        subst e
        exact (Sl.trans (Sl.trans (Sl.trans (Sl.rf _ _) (Sl.mono qhc1 (fun c hw => by unfold Vm12_isWord at hw; unfold Vm12_wordHere; first | exact hw.elim | omega))) (Sl.mono qhc2 (fun c hw => by unfold Vm12_isWord at hw; unfold Vm12_wordHere; first | exact hw.elim | omega))) (Sl.mono qhc3 (fun c hw => by unfold Vm12_isWord at hw; unfold Vm12_wordHere; first | exact hw.elim | omega)))
    · have e := Option.some.inj h
      subst e
      exact (Sl.trans (Sl.trans (Sl.rf _ _) (Sl.mono qhc1 (fun c hw => by unfold Vm12_isWord at hw; unfold Vm12_wordHere; first | exact hw.elim | omega))) (Sl.mono qhc2 (fun c hw => by unfold Vm12_isWord at hw; unfold Vm12_wordHere; first | exact hw.elim | omega)))
  · have e := Option.some.inj h
    subst e
    exact (Sl.trans (Sl.rf _ _) (Sl.mono qhc1 (fun c hw => by unfold Vm12_isWord at hw; unfold Vm12_wordHere; first | exact hw.elim | omega)))
def Vm12_puts (c : Nat) : Prop := False
set_option maxHeartbeats 1000000 in
theorem f12_puts_s {F : Nat} {i1 : Int32} {i2 : Int32} {σ : Mem} {r : Mem} (h : m12_puts F i1 i2 σ = some r) : Sl (Vm12_puts) σ r := by
  unfold m12_puts at h
  have ⟨hg, h⟩ := g_gd h
  have hb := inB_lt hg
  have ⟨hg, h⟩ := g_gd h
  have hb := inB_lt hg
  have ⟨hg, h⟩ := g_gd h
  have hb := inB_lt hg
  have ⟨hg, h⟩ := g_gd h
  have hb := inB_lt hg
  have e := Option.some.inj h
  subst e
  exact (Sl.ne (Sl.ne (Sl.rf _ _) (by decide)) (by decide))
def Vm12_makes (c : Nat) : Prop := c = 9 ∨ c = 12
set_option maxHeartbeats 1000000 in
theorem f12_makes_s {F : Nat} {i1 : Int32} {σ : Mem} {r : Int32 × Mem} (h : m12_makes F i1 σ = some r) : Sl (Vm12_makes) σ r.2 := by
  unfold m12_makes at h
  rcases g_if h with ⟨hq, h⟩ | ⟨hq, h⟩
  · have ⟨_, hc1, h⟩ := b_some h
    have qhc1 := f12_fails_s hc1
    have ⟨hg, h⟩ := g_gd h
    have e := Option.some.inj h
    subst e
    exact (Sl.trans (Sl.rf _ _) (Sl.mono qhc1 (fun c hw => by unfold Vm12_fails at hw; unfold Vm12_makes; first | exact hw.elim | omega)))
  · have e := Option.some.inj h
    subst e
    exact (Sl.at (Sl.rf _ _) (by unfold Vm12_makes; omega))
def Vm12_opens (c : Nat) : Prop := c = 9 ∨ c = 13 ∨ c = 16
set_option maxHeartbeats 1000000 in
theorem f12_opens_s {F : Nat} {i1 : Int32} {σ : Mem} {r : Int32 × Mem} (h : m12_opens F i1 σ = some r) : Sl (Vm12_opens) σ r.2 := by
  unfold m12_opens at h
  rcases g_if h with ⟨hq, h⟩ | ⟨hq, h⟩
  · have ⟨_, hc1, h⟩ := b_some h
    have qhc1 := f12_fails_s hc1
    have ⟨hg, h⟩ := g_gd h
    have e := Option.some.inj h
    subst e
    exact (Sl.trans (Sl.rf _ _) (Sl.mono qhc1 (fun c hw => by unfold Vm12_fails at hw; unfold Vm12_opens; first | exact hw.elim | omega)))
  · have ⟨hg, h⟩ := g_gd h
    have hb := inB_lt hg
    have e := Option.some.inj h
    subst e
    exact (Sl.at (Sl.ne (Sl.at (Sl.rf _ _) (by unfold Vm12_opens; omega)) (by decide)) (by unfold Vm12_opens; omega))
def Vm12_settles (c : Nat) : Prop := c = 13 ∨ c = 16
set_option maxHeartbeats 1000000 in
theorem f12_settles_s0 {F : Nat} {i1 : Int32} {r : Mem} : ∀ (n : Nat) (σ : Mem), m12_settles_0 F i1 n σ = some r → Sl (Vm12_settles) σ r := by
  intro n
  induction n with
  | zero => intro σ h; unfold m12_settles_0 at h; cases h
  | succ n ih =>
    intro σ h
    unfold m12_settles_0 at h
    rcases g_if h with ⟨hq, h⟩ | ⟨hq, h⟩
    · have e := Option.some.inj h
      subst e
      exact (Sl.rf _ _)
    · have ⟨hg, h⟩ := g_gd h
      have hb := inB_lt hg
      have ⟨_, hc1, h⟩ := b_some h
      rcases g_if h with ⟨hq, h⟩ | ⟨hq, h⟩
      · have e := Option.some.inj h
        subst e
        exact (Sl.rf _ _)
      · have ⟨hg, h⟩ := g_gd h
        have hb := inB_lt hg
        have ⟨_, hc2, h⟩ := b_some h
        have qhc2 := f12_puts_s hc2
        have ⟨hg, h⟩ := g_gd h
        have hb := inB_lt hg
        rcases g_if h with ⟨hq, h⟩ | ⟨hq, h⟩
        · exact Sl.trans (Sl.at (Sl.trans (Sl.at (Sl.rf _ _) (by unfold Vm12_settles; omega)) (Sl.mono qhc2 (fun c hw => by unfold Vm12_puts at hw; unfold Vm12_settles; first | exact hw.elim | omega))) (by unfold Vm12_settles; omega)) (ih _ h)
        · exact Sl.trans (Sl.trans (Sl.at (Sl.rf _ _) (by unfold Vm12_settles; omega)) (Sl.mono qhc2 (fun c hw => by unfold Vm12_puts at hw; unfold Vm12_settles; first | exact hw.elim | omega))) (ih _ h)
set_option maxHeartbeats 1000000 in
theorem f12_settles_s {F : Nat} {i1 : Int32} {σ : Mem} {r : Mem} (h : m12_settles F i1 σ = some r) : Sl (Vm12_settles) σ r := by
  unfold m12_settles at h
  exact (f12_settles_s0 (F := F) F _ h)
def Vm12_value (c : Nat) : Prop := (8 ≤ c ∧ c ≤ 10) ∨ c = 12
set_option maxHeartbeats 1000000 in
theorem f12_value_s {F : Nat} {σ : Mem} {r : Int32 × Mem} (h : m12_value F  σ = some r) : Sl (Vm12_value) σ r.2 := by
  unfold m12_value at h
  have ⟨_, hc1, h⟩ := b_some h
  have qhc1 := f12_see_s hc1
  have ⟨_, hc2, h⟩ := b_some h
  rcases g_if h with ⟨hq, h⟩ | ⟨hq, h⟩
  · have ⟨_, hc3, h⟩ := b_some h
    have qhc3 := f12_wordHere_s hc3
    rcases g_if h with ⟨hq, h⟩ | ⟨hq, h⟩
    · have ⟨_, hc4, h⟩ := b_some h
      have qhc4 := f12_makes_s hc4
      rcases g_if h with ⟨hq, h⟩ | ⟨hq, h⟩
      · have e := Option.some.inj h
        subst e
        exact (Sl.trans (Sl.trans (Sl.trans (Sl.rf _ _) (Sl.mono qhc1 (fun c hw => by unfold Vm12_see at hw; unfold Vm12_value; first | exact hw.elim | omega))) (Sl.mono qhc3 (fun c hw => by unfold Vm12_wordHere at hw; unfold Vm12_value; first | exact hw.elim | omega))) (Sl.mono qhc4 (fun c hw => by unfold Vm12_makes at hw; unfold Vm12_value; first | exact hw.elim | omega)))
      · have ⟨_, hc5, h⟩ := b_some h
        have qhc5 := f12_passWord_s hc5
        have ⟨_, hc6, h⟩ := b_some h
        have qhc6 := f12_puts_s hc6
        have e := Option.some.inj h
        subst e
        exact (Sl.trans (Sl.trans (Sl.trans (Sl.trans (Sl.trans (Sl.rf _ _) (Sl.mono qhc1 (fun c hw => by unfold Vm12_see at hw; unfold Vm12_value; first | exact hw.elim | omega))) (Sl.mono qhc3 (fun c hw => by unfold Vm12_wordHere at hw; unfold Vm12_value; first | exact hw.elim | omega))) (Sl.mono qhc4 (fun c hw => by unfold Vm12_makes at hw; unfold Vm12_value; first | exact hw.elim | omega))) (Sl.mono qhc5 (fun c hw => by unfold Vm12_passWord at hw; unfold Vm12_value; first | exact hw.elim | omega))) (Sl.mono qhc6 (fun c hw => by unfold Vm12_puts at hw; unfold Vm12_value; first | exact hw.elim | omega)))
    · have ⟨_, hc4, h⟩ := b_some h
      have qhc4 := f12_fails_s hc4
      have ⟨hg, h⟩ := g_gd h
      have e := Option.some.inj h
      subst e
      exact (Sl.trans (Sl.trans (Sl.trans (Sl.rf _ _) (Sl.mono qhc1 (fun c hw => by unfold Vm12_see at hw; unfold Vm12_value; first | exact hw.elim | omega))) (Sl.mono qhc3 (fun c hw => by unfold Vm12_wordHere at hw; unfold Vm12_value; first | exact hw.elim | omega))) (Sl.mono qhc4 (fun c hw => by unfold Vm12_fails at hw; unfold Vm12_value; first | exact hw.elim | omega)))
  · have ⟨_, hc3, h⟩ := b_some h
    have qhc3 := f12_numberHere_s hc3
    rcases g_if h with ⟨hq, h⟩ | ⟨hq, h⟩
    · have e := Option.some.inj h
      subst e
      exact (Sl.trans (Sl.trans (Sl.rf _ _) (Sl.mono qhc1 (fun c hw => by unfold Vm12_see at hw; unfold Vm12_value; first | exact hw.elim | omega))) (Sl.mono qhc3 (fun c hw => by unfold Vm12_numberHere at hw; unfold Vm12_value; first | exact hw.elim | omega)))
    · have ⟨_, hc4, h⟩ := b_some h
      have qhc4 := f12_makes_s hc4
      rcases g_if h with ⟨hq, h⟩ | ⟨hq, h⟩
      · have e := Option.some.inj h
        subst e
        exact (Sl.trans (Sl.trans (Sl.trans (Sl.rf _ _) (Sl.mono qhc1 (fun c hw => by unfold Vm12_see at hw; unfold Vm12_value; first | exact hw.elim | omega))) (Sl.mono qhc3 (fun c hw => by unfold Vm12_numberHere at hw; unfold Vm12_value; first | exact hw.elim | omega))) (Sl.mono qhc4 (fun c hw => by unfold Vm12_makes at hw; unfold Vm12_value; first | exact hw.elim | omega)))
      · have ⟨_, hc5, h⟩ := b_some h
        have qhc5 := f12_puts_s hc5
        have e := Option.some.inj h
        subst e
        exact (Sl.trans (Sl.trans (Sl.trans (Sl.trans (Sl.rf _ _) (Sl.mono qhc1 (fun c hw => by unfold Vm12_see at hw; unfold Vm12_value; first | exact hw.elim | omega))) (Sl.mono qhc3 (fun c hw => by unfold Vm12_numberHere at hw; unfold Vm12_value; first | exact hw.elim | omega))) (Sl.mono qhc4 (fun c hw => by unfold Vm12_makes at hw; unfold Vm12_value; first | exact hw.elim | omega))) (Sl.mono qhc5 (fun c hw => by unfold Vm12_puts at hw; unfold Vm12_value; first | exact hw.elim | omega)))
def Vm12_term (c : Nat) : Prop := (8 ≤ c ∧ c ≤ 10) ∨ c = 12
set_option maxHeartbeats 1000000 in
theorem f12_term_s74 {F : Nat} {r : Int32 × Mem} {k9 : Mem → Option (Int32 × Mem)} (hk9 : ∀ (σ : Mem), k9 σ = some r → Sl (Vm12_term) σ r.2) : ∀ (s0 : Int32) (σ : Mem), m12_term_74 F k9 s0 σ = some r → Sl (Vm12_term) σ r.2 := by
  intro s0 σ h
  unfold m12_term_74 at h
  have ⟨_, hc1, h⟩ := b_some h
  have qhc1 := f12_value_s hc1
  rcases g_if h with ⟨hq, h⟩ | ⟨hq, h⟩
  · have e := Option.some.inj h
    subst e
    exact (Sl.trans (Sl.at (Sl.rf _ _) (by unfold Vm12_term; omega)) (Sl.mono qhc1 (fun c hw => by unfold Vm12_value at hw; unfold Vm12_term; first | exact hw.elim | omega)))
  · have ⟨_, hc2, h⟩ := b_some h
    have qhc2 := f12_puts_s hc2
    exact Sl.trans (Sl.trans (Sl.trans (Sl.at (Sl.rf _ _) (by unfold Vm12_term; omega)) (Sl.mono qhc1 (fun c hw => by unfold Vm12_value at hw; unfold Vm12_term; first | exact hw.elim | omega))) (Sl.mono qhc2 (fun c hw => by unfold Vm12_puts at hw; unfold Vm12_term; first | exact hw.elim | omega))) (hk9 _ h)
set_option maxHeartbeats 1000000 in
theorem f12_term_s36 {F : Nat} {r : Int32 × Mem} {k9 : Mem → Option (Int32 × Mem)} (hk9 : ∀ (σ : Mem), k9 σ = some r → Sl (Vm12_term) σ r.2) : ∀ (σ : Mem), m12_term_36 F k9 σ = some r → Sl (Vm12_term) σ r.2 := by
  intro σ h
  unfold m12_term_36 at h
  have ⟨hg, h⟩ := g_gd h
  have hb := inB_lt hg
  rcases g_if h with ⟨hq, h⟩ | ⟨hq, h⟩
  · exact Sl.trans (Sl.rf _ _) (f12_term_s74 (F := F) (fun _ h => (hk9 _ h)) _ _ h)
  · have ⟨hg, h⟩ := g_gd h
    have hb := inB_lt hg
    rcases g_if h with ⟨hq, h⟩ | ⟨hq, h⟩
    · exact Sl.trans (Sl.rf _ _) (f12_term_s74 (F := F) (fun _ h => (hk9 _ h)) _ _ h)
    · exact Sl.trans (Sl.rf _ _) (f12_term_s74 (F := F) (fun _ h => (hk9 _ h)) _ _ h)
set_option maxHeartbeats 1000000 in
theorem f12_term_s9 {F : Nat} {r : Int32 × Mem} : ∀ (n : Nat) (σ : Mem), m12_term_9 F n σ = some r → Sl (Vm12_term) σ r.2 := by
  intro n
  induction n with
  | zero => intro σ h; unfold m12_term_9 at h; cases h
  | succ n ih =>
    intro σ h
    unfold m12_term_9 at h
    have ⟨_, hc1, h⟩ := b_some h
    have qhc1 := f12_see_s hc1
    rcases g_if h with ⟨hq, h⟩ | ⟨hq, h⟩
    · exact Sl.trans (Sl.trans (Sl.rf _ _) (Sl.mono qhc1 (fun c hw => by unfold Vm12_see at hw; unfold Vm12_term; first | exact hw.elim | omega))) (f12_term_s36 (F := F) (fun _ h => (ih _ h)) _ h)
    · have ⟨_, hc2, h⟩ := b_some h
      have qhc2 := f12_see_s hc2
      rcases g_if h with ⟨hq, h⟩ | ⟨hq, h⟩
      · exact Sl.trans (Sl.trans (Sl.trans (Sl.rf _ _) (Sl.mono qhc1 (fun c hw => by unfold Vm12_see at hw; unfold Vm12_term; first | exact hw.elim | omega))) (Sl.mono qhc2 (fun c hw => by unfold Vm12_see at hw; unfold Vm12_term; first | exact hw.elim | omega))) (f12_term_s36 (F := F) (fun _ h => (ih _ h)) _ h)
      · have ⟨_, hc3, h⟩ := b_some h
        have qhc3 := f12_see_s hc3
        rcases g_if h with ⟨hq, h⟩ | ⟨hq, h⟩
        · exact Sl.trans (Sl.trans (Sl.trans (Sl.trans (Sl.rf _ _) (Sl.mono qhc1 (fun c hw => by unfold Vm12_see at hw; unfold Vm12_term; first | exact hw.elim | omega))) (Sl.mono qhc2 (fun c hw => by unfold Vm12_see at hw; unfold Vm12_term; first | exact hw.elim | omega))) (Sl.mono qhc3 (fun c hw => by unfold Vm12_see at hw; unfold Vm12_term; first | exact hw.elim | omega))) (f12_term_s36 (F := F) (fun _ h => (ih _ h)) _ h)
        · have e := Option.some.inj h
          subst e
          exact (Sl.trans (Sl.trans (Sl.trans (Sl.rf _ _) (Sl.mono qhc1 (fun c hw => by unfold Vm12_see at hw; unfold Vm12_term; first | exact hw.elim | omega))) (Sl.mono qhc2 (fun c hw => by unfold Vm12_see at hw; unfold Vm12_term; first | exact hw.elim | omega))) (Sl.mono qhc3 (fun c hw => by unfold Vm12_see at hw; unfold Vm12_term; first | exact hw.elim | omega)))
set_option maxHeartbeats 1000000 in
theorem f12_term_s {F : Nat} {σ : Mem} {r : Int32 × Mem} (h : m12_term F  σ = some r) : Sl (Vm12_term) σ r.2 := by
  unfold m12_term at h
  have ⟨_, hc1, h⟩ := b_some h
  have qhc1 := f12_value_s hc1
  rcases g_if h with ⟨hq, h⟩ | ⟨hq, h⟩
  · have e := Option.some.inj h
    subst e
    exact (Sl.trans (Sl.rf _ _) (Sl.mono qhc1 (fun c hw => by unfold Vm12_value at hw; unfold Vm12_term; first | exact hw.elim | omega)))
  · exact Sl.trans (Sl.trans (Sl.rf _ _) (Sl.mono qhc1 (fun c hw => by unfold Vm12_value at hw; unfold Vm12_term; first | exact hw.elim | omega))) (f12_term_s9 (F := F) F _ h)
def Vm12_sum (c : Nat) : Prop := (8 ≤ c ∧ c ≤ 10) ∨ c = 12
set_option maxHeartbeats 1000000 in
theorem f12_sum_s46 {F : Nat} {r : Int32 × Mem} {k9 : Mem → Option (Int32 × Mem)} (hk9 : ∀ (σ : Mem), k9 σ = some r → Sl (Vm12_sum) σ r.2) : ∀ (s0 : Int32) (σ : Mem), m12_sum_46 F k9 s0 σ = some r → Sl (Vm12_sum) σ r.2 := by
  intro s0 σ h
  unfold m12_sum_46 at h
  have ⟨_, hc1, h⟩ := b_some h
  have qhc1 := f12_term_s hc1
  rcases g_if h with ⟨hq, h⟩ | ⟨hq, h⟩
  · have e := Option.some.inj h
    subst e
    exact (Sl.trans (Sl.at (Sl.rf _ _) (by unfold Vm12_sum; omega)) (Sl.mono qhc1 (fun c hw => by unfold Vm12_term at hw; unfold Vm12_sum; first | exact hw.elim | omega)))
  · have ⟨_, hc2, h⟩ := b_some h
    have qhc2 := f12_puts_s hc2
    exact Sl.trans (Sl.trans (Sl.trans (Sl.at (Sl.rf _ _) (by unfold Vm12_sum; omega)) (Sl.mono qhc1 (fun c hw => by unfold Vm12_term at hw; unfold Vm12_sum; first | exact hw.elim | omega))) (Sl.mono qhc2 (fun c hw => by unfold Vm12_puts at hw; unfold Vm12_sum; first | exact hw.elim | omega))) (hk9 _ h)
set_option maxHeartbeats 1000000 in
theorem f12_sum_s27 {F : Nat} {r : Int32 × Mem} {k9 : Mem → Option (Int32 × Mem)} (hk9 : ∀ (σ : Mem), k9 σ = some r → Sl (Vm12_sum) σ r.2) : ∀ (σ : Mem), m12_sum_27 F k9 σ = some r → Sl (Vm12_sum) σ r.2 := by
  intro σ h
  unfold m12_sum_27 at h
  have ⟨hg, h⟩ := g_gd h
  have hb := inB_lt hg
  rcases g_if h with ⟨hq, h⟩ | ⟨hq, h⟩
  · exact Sl.trans (Sl.rf _ _) (f12_sum_s46 (F := F) (fun _ h => (hk9 _ h)) _ _ h)
  · exact Sl.trans (Sl.rf _ _) (f12_sum_s46 (F := F) (fun _ h => (hk9 _ h)) _ _ h)
set_option maxHeartbeats 1000000 in
theorem f12_sum_s9 {F : Nat} {r : Int32 × Mem} : ∀ (n : Nat) (σ : Mem), m12_sum_9 F n σ = some r → Sl (Vm12_sum) σ r.2 := by
  intro n
  induction n with
  | zero => intro σ h; unfold m12_sum_9 at h; cases h
  | succ n ih =>
    intro σ h
    unfold m12_sum_9 at h
    have ⟨_, hc1, h⟩ := b_some h
    have qhc1 := f12_see_s hc1
    rcases g_if h with ⟨hq, h⟩ | ⟨hq, h⟩
    · exact Sl.trans (Sl.trans (Sl.rf _ _) (Sl.mono qhc1 (fun c hw => by unfold Vm12_see at hw; unfold Vm12_sum; first | exact hw.elim | omega))) (f12_sum_s27 (F := F) (fun _ h => (ih _ h)) _ h)
    · have ⟨_, hc2, h⟩ := b_some h
      have qhc2 := f12_see_s hc2
      rcases g_if h with ⟨hq, h⟩ | ⟨hq, h⟩
      · exact Sl.trans (Sl.trans (Sl.trans (Sl.rf _ _) (Sl.mono qhc1 (fun c hw => by unfold Vm12_see at hw; unfold Vm12_sum; first | exact hw.elim | omega))) (Sl.mono qhc2 (fun c hw => by unfold Vm12_see at hw; unfold Vm12_sum; first | exact hw.elim | omega))) (f12_sum_s27 (F := F) (fun _ h => (ih _ h)) _ h)
      · have e := Option.some.inj h
        subst e
        exact (Sl.trans (Sl.trans (Sl.rf _ _) (Sl.mono qhc1 (fun c hw => by unfold Vm12_see at hw; unfold Vm12_sum; first | exact hw.elim | omega))) (Sl.mono qhc2 (fun c hw => by unfold Vm12_see at hw; unfold Vm12_sum; first | exact hw.elim | omega)))
set_option maxHeartbeats 1000000 in
theorem f12_sum_s {F : Nat} {σ : Mem} {r : Int32 × Mem} (h : m12_sum F  σ = some r) : Sl (Vm12_sum) σ r.2 := by
  unfold m12_sum at h
  have ⟨_, hc1, h⟩ := b_some h
  have qhc1 := f12_term_s hc1
  rcases g_if h with ⟨hq, h⟩ | ⟨hq, h⟩
  · have e := Option.some.inj h
    subst e
    exact (Sl.trans (Sl.rf _ _) (Sl.mono qhc1 (fun c hw => by unfold Vm12_term at hw; unfold Vm12_sum; first | exact hw.elim | omega)))
  · exact Sl.trans (Sl.trans (Sl.rf _ _) (Sl.mono qhc1 (fun c hw => by unfold Vm12_term at hw; unfold Vm12_sum; first | exact hw.elim | omega))) (f12_sum_s9 (F := F) F _ h)
def Vm12_compare (c : Nat) : Prop := (8 ≤ c ∧ c ≤ 10) ∨ c = 12
set_option maxHeartbeats 1000000 in
theorem f12_compare_s152 {F : Nat} {r : Int32 × Mem} : ∀ (s0 : Int32) (σ : Mem), m12_compare_152 F s0 σ = some r → Sl (Vm12_compare) σ r.2 := by
  intro s0 σ h
  unfold m12_compare_152 at h
  have ⟨_, hc1, h⟩ := b_some h
  have qhc1 := f12_sum_s hc1
  rcases g_if h with ⟨hq, h⟩ | ⟨hq, h⟩
  · have e := Option.some.inj h
    subst e
    exact (Sl.trans (Sl.rf _ _) (Sl.mono qhc1 (fun c hw => by unfold Vm12_sum at hw; unfold Vm12_compare; first | exact hw.elim | omega)))
  · have ⟨_, hc2, h⟩ := b_some h
    have qhc2 := f12_puts_s hc2
    have e := Option.some.inj h
    subst e
    exact (Sl.trans (Sl.trans (Sl.rf _ _) (Sl.mono qhc1 (fun c hw => by unfold Vm12_sum at hw; unfold Vm12_compare; first | exact hw.elim | omega))) (Sl.mono qhc2 (fun c hw => by unfold Vm12_puts at hw; unfold Vm12_compare; first | exact hw.elim | omega)))
set_option maxHeartbeats 1000000 in
theorem f12_compare_s105 {F : Nat} {r : Int32 × Mem} : ∀ (x1 : Int32) (x2 : Int32) (x3 : Int32) (σ : Mem), m12_compare_105 F x1 x2 x3 σ = some r → Sl (Vm12_compare) σ r.2 := by
  intro x1 x2 x3 σ h
  unfold m12_compare_105 at h
  have ⟨_, hc1, h⟩ := b_some h
  have qhc1 := f12_makes_s hc1
  rcases g_if h with ⟨hq, h⟩ | ⟨hq, h⟩
  · have e := Option.some.inj h
    subst e
    exact (Sl.trans (Sl.rf _ _) (Sl.mono qhc1 (fun c hw => by unfold Vm12_makes at hw; unfold Vm12_compare; first | exact hw.elim | omega)))
  · rcases g_if h with ⟨hq, h⟩ | ⟨hq, h⟩
    · rcases g_if h with ⟨hq, h⟩ | ⟨hq, h⟩
      · exact Sl.trans (Sl.trans (Sl.rf _ _) (Sl.mono qhc1 (fun c hw => by unfold Vm12_makes at hw; unfold Vm12_compare; first | exact hw.elim | omega))) (f12_compare_s152 (F := F) _ _ h)
      · exact Sl.trans (Sl.trans (Sl.rf _ _) (Sl.mono qhc1 (fun c hw => by unfold Vm12_makes at hw; unfold Vm12_compare; first | exact hw.elim | omega))) (f12_compare_s152 (F := F) _ _ h)
    · rcases g_if h with ⟨hq, h⟩ | ⟨hq, h⟩
      · exact Sl.trans (Sl.trans (Sl.rf _ _) (Sl.mono qhc1 (fun c hw => by unfold Vm12_makes at hw; unfold Vm12_compare; first | exact hw.elim | omega))) (f12_compare_s152 (F := F) _ _ h)
      · rcases g_if h with ⟨hq, h⟩ | ⟨hq, h⟩
        · exact Sl.trans (Sl.trans (Sl.rf _ _) (Sl.mono qhc1 (fun c hw => by unfold Vm12_makes at hw; unfold Vm12_compare; first | exact hw.elim | omega))) (f12_compare_s152 (F := F) _ _ h)
        · exact Sl.trans (Sl.trans (Sl.rf _ _) (Sl.mono qhc1 (fun c hw => by unfold Vm12_makes at hw; unfold Vm12_compare; first | exact hw.elim | omega))) (f12_compare_s152 (F := F) _ _ h)
set_option maxHeartbeats 1000000 in
theorem f12_compare_s90 {F : Nat} {r : Int32 × Mem} : ∀ (x1 : Int32) (x2 : Int32) (s0 : Int32) (σ : Mem), m12_compare_90 F x1 x2 s0 σ = some r → Sl (Vm12_compare) σ r.2 := by
  intro x1 x2 s0 σ h
  unfold m12_compare_90 at h
  rcases g_if h with ⟨hq, h⟩ | ⟨hq, h⟩
  · exact Sl.trans (Sl.rf _ _) (f12_compare_s105 (F := F) _ _ _ _ h)
  · exact Sl.trans (Sl.at (Sl.rf _ _) (by unfold Vm12_compare; omega)) (f12_compare_s105 (F := F) _ _ _ _ h)
set_option maxHeartbeats 1000000 in
theorem f12_compare_s89 {F : Nat} {r : Int32 × Mem} {k90 : Int32 → Int32 → Int32 → Mem → Option (Int32 × Mem)} (hk90 : ∀ (x1 : Int32) (x2 : Int32) (s0 : Int32) (σ : Mem), k90 x1 x2 s0 σ = some r → Sl (Vm12_compare) σ r.2) : ∀ (x1 : Int32) (x2 : Int32) (σ : Mem), m12_compare_89 F k90 x1 x2 σ = some r → Sl (Vm12_compare) σ r.2 := by
  intro x1 x2 σ h
  unfold m12_compare_89 at h
  exact Sl.trans (Sl.rf _ _) (hk90 _ _ _ _ h)
set_option maxHeartbeats 1000000 in
theorem f12_compare_s44 {F : Nat} {r : Int32 × Mem} : ∀ (x1 : Int32) (x2 : Int32) (σ : Mem), m12_compare_44 F x1 x2 σ = some r → Sl (Vm12_compare) σ r.2 := by
  intro x1 x2 σ h
  unfold m12_compare_44 at h
  rcases g_if h with ⟨hq, h⟩ | ⟨hq, h⟩
  · exact Sl.trans (Sl.at (Sl.rf _ _) (by unfold Vm12_compare; omega)) (f12_compare_s89 (F := F) (fun _ _ _ _ h => (f12_compare_s90 (F := F) _ _ _ _ h)) _ _ _ h)
  · rcases g_if h with ⟨hq, h⟩ | ⟨hq, h⟩
    · exact Sl.trans (Sl.at (Sl.rf _ _) (by unfold Vm12_compare; omega)) (f12_compare_s89 (F := F) (fun _ _ _ _ h => (f12_compare_s90 (F := F) _ _ _ _ h)) _ _ _ h)
    · have ⟨hg, h⟩ := g_gd h
      have hb := inB_lt hg
      rcases g_if h with ⟨hq, h⟩ | ⟨hq, h⟩
      · exact Sl.trans (Sl.at (Sl.rf _ _) (by unfold Vm12_compare; omega)) (f12_compare_s90 (F := F) _ _ _ _ h)
      · exact Sl.trans (Sl.at (Sl.rf _ _) (by unfold Vm12_compare; omega)) (f12_compare_s89 (F := F) (fun _ _ _ _ h => (f12_compare_s90 (F := F) _ _ _ _ h)) _ _ _ h)
set_option maxHeartbeats 1000000 in
theorem f12_compare_s {F : Nat} {σ : Mem} {r : Int32 × Mem} (h : m12_compare F  σ = some r) : Sl (Vm12_compare) σ r.2 := by
  unfold m12_compare at h
  have ⟨_, hc1, h⟩ := b_some h
  have qhc1 := f12_sum_s hc1
  rcases g_if h with ⟨hq, h⟩ | ⟨hq, h⟩
  · have e := Option.some.inj h
    subst e
    exact (Sl.trans (Sl.rf _ _) (Sl.mono qhc1 (fun c hw => by unfold Vm12_sum at hw; unfold Vm12_compare; first | exact hw.elim | omega)))
  · have ⟨_, hc2, h⟩ := b_some h
    have qhc2 := f12_see_s hc2
    rcases g_if h with ⟨hq, h⟩ | ⟨hq, h⟩
    · exact Sl.trans (Sl.trans (Sl.trans (Sl.rf _ _) (Sl.mono qhc1 (fun c hw => by unfold Vm12_sum at hw; unfold Vm12_compare; first | exact hw.elim | omega))) (Sl.mono qhc2 (fun c hw => by unfold Vm12_see at hw; unfold Vm12_compare; first | exact hw.elim | omega))) (f12_compare_s44 (F := F) _ _ _ h)
    · rcases g_if h with ⟨hq, h⟩ | ⟨hq, h⟩
      · exact Sl.trans (Sl.trans (Sl.trans (Sl.rf _ _) (Sl.mono qhc1 (fun c hw => by unfold Vm12_sum at hw; unfold Vm12_compare; first | exact hw.elim | omega))) (Sl.mono qhc2 (fun c hw => by unfold Vm12_see at hw; unfold Vm12_compare; first | exact hw.elim | omega))) (f12_compare_s44 (F := F) _ _ _ h)
      · rcases g_if h with ⟨hq, h⟩ | ⟨hq, h⟩
        · exact Sl.trans (Sl.trans (Sl.trans (Sl.rf _ _) (Sl.mono qhc1 (fun c hw => by unfold Vm12_sum at hw; unfold Vm12_compare; first | exact hw.elim | omega))) (Sl.mono qhc2 (fun c hw => by unfold Vm12_see at hw; unfold Vm12_compare; first | exact hw.elim | omega))) (f12_compare_s44 (F := F) _ _ _ h)
        · have ⟨_, hc3, h⟩ := b_some h
          have qhc3 := f12_fails_s hc3
          have ⟨hg, h⟩ := g_gd h
          have e := Option.some.inj h
          subst e
          exact (Sl.trans (Sl.trans (Sl.trans (Sl.rf _ _) (Sl.mono qhc1 (fun c hw => by unfold Vm12_sum at hw; unfold Vm12_compare; first | exact hw.elim | omega))) (Sl.mono qhc2 (fun c hw => by unfold Vm12_see at hw; unfold Vm12_compare; first | exact hw.elim | omega))) (Sl.mono qhc3 (fun c hw => by unfold Vm12_fails at hw; unfold Vm12_compare; first | exact hw.elim | omega)))
def Vm12_fact (c : Nat) : Prop := (8 ≤ c ∧ c ≤ 10) ∨ (12 ≤ c ∧ c ≤ 13) ∨ c = 16
set_option maxHeartbeats 1000000 in
theorem f12_fact_s2 {F : Nat} {r : Int32 × Mem} : ∀ (n : Nat) (x1 : Int32) (σ : Mem), m12_fact_2 F n x1 σ = some r → Sl (Vm12_fact) σ r.2 := by
  intro n
  induction n with
  | zero => intro x1 σ h; unfold m12_fact_2 at h; cases h
  | succ n ih =>
    intro x1 σ h
    unfold m12_fact_2 at h
    rcases g_if h with ⟨hq, h⟩ | ⟨hq, h⟩
    · have ⟨_, hc1, h⟩ := b_some h
      have qhc1 := f12_compare_s hc1
      have ⟨hg, h⟩ := g_gd h
      have e := Option.some.inj h
      subst e
      exact (Sl.trans (Sl.rf _ _) (Sl.mono qhc1 (fun c hw => by unfold Vm12_compare at hw; unfold Vm12_fact; first | exact hw.elim | omega)))
    · have ⟨_, hc1, h⟩ := b_some h
      have qhc1 := f12_see_s hc1
      have ⟨_, hc2, h⟩ := b_some h
      have qhc2 := f12_isWord_s hc2
      rcases g_if h with ⟨hq, h⟩ | ⟨hq, h⟩
      · rcases g_if h with ⟨hq, h⟩ | ⟨hq, h⟩
        · have ⟨_, hc3, h⟩ := b_some h
          have qhc3 := f12_opens_s hc3
          rcases g_if h with ⟨hq, h⟩ | ⟨hq, h⟩
          · have e := Option.some.inj h
            subst e
            exact (Sl.trans (Sl.trans (Sl.trans (Sl.rf _ _) (Sl.mono qhc1 (fun c hw => by unfold Vm12_see at hw; unfold Vm12_fact; first | exact hw.elim | omega))) (Sl.mono qhc2 (fun c hw => by unfold Vm12_isWord at hw; unfold Vm12_fact; first | exact hw.elim | omega))) (Sl.mono qhc3 (fun c hw => by unfold Vm12_opens at hw; unfold Vm12_fact; first | exact hw.elim | omega)))
          · exact Sl.trans (Sl.at (Sl.trans (Sl.trans (Sl.trans (Sl.rf _ _) (Sl.mono qhc1 (fun c hw => by unfold Vm12_see at hw; unfold Vm12_fact; first | exact hw.elim | omega))) (Sl.mono qhc2 (fun c hw => by unfold Vm12_isWord at hw; unfold Vm12_fact; first | exact hw.elim | omega))) (Sl.mono qhc3 (fun c hw => by unfold Vm12_opens at hw; unfold Vm12_fact; first | exact hw.elim | omega))) (by unfold Vm12_fact; omega)) (ih _ _ h)
        · exact Sl.trans (Sl.trans (Sl.trans (Sl.rf _ _) (Sl.mono qhc1 (fun c hw => by unfold Vm12_see at hw; unfold Vm12_fact; first | exact hw.elim | omega))) (Sl.mono qhc2 (fun c hw => by unfold Vm12_isWord at hw; unfold Vm12_fact; first | exact hw.elim | omega))) (ih _ _ h)
      · have ⟨_, hc3, h⟩ := b_some h
        have qhc3 := f12_opens_s hc3
        rcases g_if h with ⟨hq, h⟩ | ⟨hq, h⟩
        · have e := Option.some.inj h
          subst e
          exact (Sl.trans (Sl.trans (Sl.trans (Sl.rf _ _) (Sl.mono qhc1 (fun c hw => by unfold Vm12_see at hw; unfold Vm12_fact; first | exact hw.elim | omega))) (Sl.mono qhc2 (fun c hw => by unfold Vm12_isWord at hw; unfold Vm12_fact; first | exact hw.elim | omega))) (Sl.mono qhc3 (fun c hw => by unfold Vm12_opens at hw; unfold Vm12_fact; first | exact hw.elim | omega)))
        · have ⟨_, hc4, h⟩ := b_some h
          have qhc4 := f12_passWord_s hc4
          exact Sl.trans (Sl.trans (Sl.trans (Sl.trans (Sl.trans (Sl.rf _ _) (Sl.mono qhc1 (fun c hw => by unfold Vm12_see at hw; unfold Vm12_fact; first | exact hw.elim | omega))) (Sl.mono qhc2 (fun c hw => by unfold Vm12_isWord at hw; unfold Vm12_fact; first | exact hw.elim | omega))) (Sl.mono qhc3 (fun c hw => by unfold Vm12_opens at hw; unfold Vm12_fact; first | exact hw.elim | omega))) (Sl.mono qhc4 (fun c hw => by unfold Vm12_passWord at hw; unfold Vm12_fact; first | exact hw.elim | omega))) (ih _ _ h)
set_option maxHeartbeats 1000000 in
theorem f12_fact_s {F : Nat} {σ : Mem} {r : Int32 × Mem} (h : m12_fact F  σ = some r) : Sl (Vm12_fact) σ r.2 := by
  unfold m12_fact at h
  exact Sl.trans (Sl.rf _ _) (f12_fact_s2 (F := F) F _ _ h)
def Vm12_closes (c : Nat) : Prop := c = 8 ∨ c = 13 ∨ c = 16
set_option maxHeartbeats 1000000 in
theorem f12_closes_s5 {F : Nat} {r : Mem} : ∀ (n : Nat) (σ : Mem), m12_closes_5 F n σ = some r → Sl (Vm12_closes) σ r := by
  intro n
  induction n with
  | zero => intro σ h; unfold m12_closes_5 at h; cases h
  | succ n ih =>
    intro σ h
    unfold m12_closes_5 at h
    have ⟨_, hc1, h⟩ := b_some h
    have qhc1 := f12_see_s hc1
    rcases g_if h with ⟨hq, h⟩ | ⟨hq, h⟩
    · have ⟨_, hc2, h⟩ := b_some h
      rcases g_if h with ⟨hq, h⟩ | ⟨hq, h⟩
      · have e := Option.some.inj h
        subst e
        exact (Sl.trans (Sl.rf _ _) (Sl.mono qhc1 (fun c hw => by unfold Vm12_see at hw; unfold Vm12_closes; first | exact hw.elim | omega)))
      · have ⟨_, hc3, h⟩ := b_some h
        have qhc3 := f12_settles_s hc3
        have ⟨_, hc4, h⟩ := b_some h
        have qhc4 := f12_settles_s hc4
        exact Sl.trans (Sl.trans (Sl.at (Sl.at (Sl.at (Sl.trans (Sl.trans (Sl.rf _ _) (Sl.mono qhc1 (fun c hw => by unfold Vm12_see at hw; unfold Vm12_closes; first | exact hw.elim | omega))) (Sl.mono qhc3 (fun c hw => by unfold Vm12_settles at hw; unfold Vm12_closes; first | exact hw.elim | omega))) (by unfold Vm12_closes; omega)) (by unfold Vm12_closes; omega)) (by unfold Vm12_closes; omega)) (Sl.mono qhc4 (fun c hw => by unfold Vm12_settles at hw; unfold Vm12_closes; first | exact hw.elim | omega))) (ih _ h)
    · have e := Option.some.inj h
      subst e
      exact (Sl.trans (Sl.rf _ _) (Sl.mono qhc1 (fun c hw => by unfold Vm12_see at hw; unfold Vm12_closes; first | exact hw.elim | omega)))
set_option maxHeartbeats 1000000 in
theorem f12_closes_s {F : Nat} {σ : Mem} {r : Mem} (h : m12_closes F  σ = some r) : Sl (Vm12_closes) σ r := by
  unfold m12_closes at h
  have ⟨_, hc1, h⟩ := b_some h
  have qhc1 := f12_settles_s hc1
  exact Sl.trans (Sl.trans (Sl.rf _ _) (Sl.mono qhc1 (fun c hw => by unfold Vm12_settles at hw; unfold Vm12_closes; first | exact hw.elim | omega))) (f12_closes_s5 (F := F) F _ h)
def Vm12_tested (c : Nat) : Prop := (8 ≤ c ∧ c ≤ 10) ∨ (12 ≤ c ∧ c ≤ 13) ∨ c = 16
set_option maxHeartbeats 1000000 in
theorem f12_tested_s76 {F : Nat} {r : Int32 × Mem} {k12 : Int32 → Mem → Option (Int32 × Mem)} (hk12 : ∀ (x1 : Int32) (σ : Mem), k12 x1 σ = some r → Sl (Vm12_tested) σ r.2) : ∀ (x1 : Int32) (s0 : Int32) (σ : Mem), m12_tested_76 F k12 x1 s0 σ = some r → Sl (Vm12_tested) σ r.2 := by
  intro x1 s0 σ h
  unfold m12_tested_76 at h
  have ⟨_, hc1, h⟩ := b_some h
  have qhc1 := f12_passWord_s hc1
  have ⟨_, hc2, h⟩ := b_some h
  have ⟨_, hc3, h⟩ := b_some h
  have qhc3 := f12_settles_s hc3
  have ⟨hg, h⟩ := g_gd h
  have hb := inB_lt hg
  exact Sl.trans (Sl.at (Sl.ne (Sl.trans (Sl.trans (Sl.rf _ _) (Sl.mono qhc1 (fun c hw => by unfold Vm12_passWord at hw; unfold Vm12_tested; first | exact hw.elim | omega))) (Sl.mono qhc3 (fun c hw => by unfold Vm12_settles at hw; unfold Vm12_tested; first | exact hw.elim | omega))) (by decide)) (by unfold Vm12_tested; omega)) (hk12 _ _ h)
set_option maxHeartbeats 1000000 in
theorem f12_tested_s54 {F : Nat} {r : Int32 × Mem} {k12 : Int32 → Mem → Option (Int32 × Mem)} (hk12 : ∀ (x1 : Int32) (σ : Mem), k12 x1 σ = some r → Sl (Vm12_tested) σ r.2) : ∀ (s0 : Int32) (σ : Mem), m12_tested_54 F k12 s0 σ = some r → Sl (Vm12_tested) σ r.2 := by
  intro s0 σ h
  unfold m12_tested_54 at h
  rcases g_if h with ⟨hq, h⟩ | ⟨hq, h⟩
  · exact Sl.trans (Sl.rf _ _) (hk12 _ _ h)
  · have ⟨_, hc1, h⟩ := b_some h
    have qhc1 := f12_isWord_s hc1
    rcases g_if h with ⟨hq, h⟩ | ⟨hq, h⟩
    · exact Sl.trans (Sl.trans (Sl.rf _ _) (Sl.mono qhc1 (fun c hw => by unfold Vm12_isWord at hw; unfold Vm12_tested; first | exact hw.elim | omega))) (f12_tested_s76 (F := F) (fun _ _ h => (hk12 _ _ h)) _ _ _ h)
    · exact Sl.trans (Sl.trans (Sl.rf _ _) (Sl.mono qhc1 (fun c hw => by unfold Vm12_isWord at hw; unfold Vm12_tested; first | exact hw.elim | omega))) (f12_tested_s76 (F := F) (fun _ _ h => (hk12 _ _ h)) _ _ _ h)
set_option maxHeartbeats 1000000 in
theorem f12_tested_s49 {F : Nat} {r : Int32 × Mem} {k54 : Int32 → Mem → Option (Int32 × Mem)} (hk54 : ∀ (s0 : Int32) (σ : Mem), k54 s0 σ = some r → Sl (Vm12_tested) σ r.2) : ∀ (σ : Mem), m12_tested_49 F k54 σ = some r → Sl (Vm12_tested) σ r.2 := by
  intro σ h
  unfold m12_tested_49 at h
  exact Sl.trans (Sl.rf _ _) (hk54 _ _ h)
set_option maxHeartbeats 1000000 in
theorem f12_tested_s12 {F : Nat} {r : Int32 × Mem} : ∀ (n : Nat) (x1 : Int32) (σ : Mem), m12_tested_12 F n x1 σ = some r → Sl (Vm12_tested) σ r.2 := by
  intro n
  induction n with
  | zero => intro x1 σ h; unfold m12_tested_12 at h; cases h
  | succ n ih =>
    intro x1 σ h
    unfold m12_tested_12 at h
    rcases g_if h with ⟨hq, h⟩ | ⟨hq, h⟩
    · have ⟨_, hc1, h⟩ := b_some h
      rcases g_if h with ⟨hq, h⟩ | ⟨hq, h⟩
      · have ⟨_, hc2, h⟩ := b_some h
        have qhc2 := f12_settles_s hc2
        have e := Option.some.inj h
        subst e
        exact (Sl.trans (Sl.rf _ _) (Sl.mono qhc2 (fun c hw => by unfold Vm12_settles at hw; unfold Vm12_tested; first | exact hw.elim | omega)))
      · have ⟨_, hc2, h⟩ := b_some h
        have qhc2 := f12_see_s hc2
        have ⟨_, hc3, h⟩ := b_some h
        have qhc3 := f12_fails_s hc3
        have ⟨hg, h⟩ := g_gd h
        have e := Option.some.inj h
        subst e
        exact (Sl.trans (Sl.trans (Sl.rf _ _) (Sl.mono qhc2 (fun c hw => by unfold Vm12_see at hw; unfold Vm12_tested; first | exact hw.elim | omega))) (Sl.mono qhc3 (fun c hw => by unfold Vm12_fails at hw; unfold Vm12_tested; first | exact hw.elim | omega)))
    · have ⟨_, hc1, h⟩ := b_some h
      have qhc1 := f12_fact_s hc1
      rcases g_if h with ⟨hq, h⟩ | ⟨hq, h⟩
      · have e := Option.some.inj h
        subst e
        exact (Sl.trans (Sl.rf _ _) (Sl.mono qhc1 (fun c hw => by unfold Vm12_fact at hw; unfold Vm12_tested; first | exact hw.elim | omega)))
      · have ⟨_, hc2, h⟩ := b_some h
        have qhc2 := f12_closes_s hc2
        have ⟨_, hc3, h⟩ := b_some h
        have qhc3 := f12_isWord_s hc3
        rcases g_if h with ⟨hq, h⟩ | ⟨hq, h⟩
        · have ⟨_, hc4, h⟩ := b_some h
          have qhc4 := f12_isWord_s hc4
          rcases g_if h with ⟨hq, h⟩ | ⟨hq, h⟩
          · exact Sl.trans (Sl.trans (Sl.trans (Sl.trans (Sl.trans (Sl.rf _ _) (Sl.mono qhc1 (fun c hw => by unfold Vm12_fact at hw; unfold Vm12_tested; first | exact hw.elim | omega))) (Sl.mono qhc2 (fun c hw => by unfold Vm12_closes at hw; unfold Vm12_tested; first | exact hw.elim | omega))) (Sl.mono qhc3 (fun c hw => by unfold Vm12_isWord at hw; unfold Vm12_tested; first | exact hw.elim | omega))) (Sl.mono qhc4 (fun c hw => by unfold Vm12_isWord at hw; unfold Vm12_tested; first | exact hw.elim | omega))) (f12_tested_s54 (F := F) (fun _ _ h => (ih _ _ h)) _ _ h)
          · exact Sl.trans (Sl.trans (Sl.trans (Sl.trans (Sl.trans (Sl.rf _ _) (Sl.mono qhc1 (fun c hw => by unfold Vm12_fact at hw; unfold Vm12_tested; first | exact hw.elim | omega))) (Sl.mono qhc2 (fun c hw => by unfold Vm12_closes at hw; unfold Vm12_tested; first | exact hw.elim | omega))) (Sl.mono qhc3 (fun c hw => by unfold Vm12_isWord at hw; unfold Vm12_tested; first | exact hw.elim | omega))) (Sl.mono qhc4 (fun c hw => by unfold Vm12_isWord at hw; unfold Vm12_tested; first | exact hw.elim | omega))) (f12_tested_s49 (F := F) (fun _ _ h => (f12_tested_s54 (F := F) (fun _ _ h => (ih _ _ h)) _ _ h)) _ h)
        · exact Sl.trans (Sl.trans (Sl.trans (Sl.trans (Sl.rf _ _) (Sl.mono qhc1 (fun c hw => by unfold Vm12_fact at hw; unfold Vm12_tested; first | exact hw.elim | omega))) (Sl.mono qhc2 (fun c hw => by unfold Vm12_closes at hw; unfold Vm12_tested; first | exact hw.elim | omega))) (Sl.mono qhc3 (fun c hw => by unfold Vm12_isWord at hw; unfold Vm12_tested; first | exact hw.elim | omega))) (f12_tested_s49 (F := F) (fun _ _ h => (f12_tested_s54 (F := F) (fun _ _ h => (ih _ _ h)) _ _ h)) _ h)
set_option maxHeartbeats 1000000 in
theorem f12_tested_s {F : Nat} {σ : Mem} {r : Int32 × Mem} (h : m12_tested F  σ = some r) : Sl (Vm12_tested) σ r.2 := by
  unfold m12_tested at h
  exact Sl.trans (Sl.at (Sl.at (Sl.rf _ _) (by unfold Vm12_tested; omega)) (by unfold Vm12_tested; omega)) (f12_tested_s12 (F := F) F _ _ h)
def Vm12_isStrikeHere (c : Nat) : Prop := (8 ≤ c ∧ c ≤ 10) ∨ (12 ≤ c ∧ c ≤ 13) ∨ c = 16
set_option maxHeartbeats 1000000 in
theorem f12_isStrikeHere_s110 {F : Nat} {r : Int32 × Mem} : ∀ (x1 : Int32) (σ : Mem), m12_isStrikeHere_110 F x1 σ = some r → Sl (Vm12_isStrikeHere) σ r.2 := by
  intro x1 σ h
  unfold m12_isStrikeHere_110 at h
  have ⟨hg, h⟩ := g_gd h
  have hb := inB_lt hg
  have ⟨hg, h⟩ := g_gd h
  have hb := inB_lt hg
  have ⟨hg, h⟩ := g_gd h
  have hb := inB_lt hg
  have ⟨hg, h⟩ := g_gd h
  have hb := inB_lt hg
  have e := Option.some.inj h
  subst e
  exact (Sl.ne (Sl.ne (Sl.rf _ _) (by decide)) (by decide))
set_option maxHeartbeats 1000000 in
theorem f12_isStrikeHere_s {F : Nat} {σ : Mem} {r : Int32 × Mem} (h : m12_isStrikeHere F  σ = some r) : Sl (Vm12_isStrikeHere) σ r.2 := by
  unfold m12_isStrikeHere at h
  have ⟨_, hc1, h⟩ := b_some h
  have qhc1 := f12_passWord_s hc1
  have ⟨hg, h⟩ := g_gd h
  have hb := inB_lt hg
  have ⟨hg, h⟩ := g_gd h
  have hb := inB_lt hg
  have ⟨hg, h⟩ := g_gd h
  have hb := inB_lt hg
  have ⟨_, hc2, h⟩ := b_some h
  have qhc2 := f12_sum_s hc2
  rcases g_if h with ⟨hq, h⟩ | ⟨hq, h⟩
  · have e := Option.some.inj h
    subst e
    exact (Sl.trans (Sl.ne (Sl.trans (Sl.rf _ _) (Sl.mono qhc1 (fun c hw => by unfold Vm12_passWord at hw; unfold Vm12_isStrikeHere; first | exact hw.elim | omega))) (by decide)) (Sl.mono qhc2 (fun c hw => by unfold Vm12_sum at hw; unfold Vm12_isStrikeHere; first | exact hw.elim | omega)))
  · have ⟨hg, h⟩ := g_gd h
    have hb := inB_lt hg
    have ⟨hg, h⟩ := g_gd h
    have hb := inB_lt hg
    have ⟨hg, h⟩ := g_gd h
    have hb := inB_lt hg
    have ⟨_, hc3, h⟩ := b_some h
    have qhc3 := f12_takesWord_s hc3
    rcases g_if h with ⟨hq, h⟩ | ⟨hq, h⟩
    · exact Sl.trans (Sl.trans (Sl.ne (Sl.ne (Sl.trans (Sl.ne (Sl.trans (Sl.rf _ _) (Sl.mono qhc1 (fun c hw => by unfold Vm12_passWord at hw; unfold Vm12_isStrikeHere; first | exact hw.elim | omega))) (by decide)) (Sl.mono qhc2 (fun c hw => by unfold Vm12_sum at hw; unfold Vm12_isStrikeHere; first | exact hw.elim | omega))) (by decide)) (by decide)) (Sl.mono qhc3 (fun c hw => by unfold Vm12_takesWord at hw; unfold Vm12_isStrikeHere; first | exact hw.elim | omega))) (f12_isStrikeHere_s110 (F := F) _ _ h)
    · have ⟨hg, h⟩ := g_gd h
      have hb := inB_lt hg
      have ⟨hg, h⟩ := g_gd h
      have hb := inB_lt hg
      have ⟨_, hc4, h⟩ := b_some h
      have qhc4 := f12_tested_s hc4
      rcases g_if h with ⟨hq, h⟩ | ⟨hq, h⟩
      · have e := Option.some.inj h
        subst e
        exact (Sl.trans (Sl.ne (Sl.trans (Sl.ne (Sl.ne (Sl.trans (Sl.ne (Sl.trans (Sl.rf _ _) (Sl.mono qhc1 (fun c hw => by unfold Vm12_passWord at hw; unfold Vm12_isStrikeHere; first | exact hw.elim | omega))) (by decide)) (Sl.mono qhc2 (fun c hw => by unfold Vm12_sum at hw; unfold Vm12_isStrikeHere; first | exact hw.elim | omega))) (by decide)) (by decide)) (Sl.mono qhc3 (fun c hw => by unfold Vm12_takesWord at hw; unfold Vm12_isStrikeHere; first | exact hw.elim | omega))) (by decide)) (Sl.mono qhc4 (fun c hw => by unfold Vm12_tested at hw; unfold Vm12_isStrikeHere; first | exact hw.elim | omega)))
      · exact Sl.trans (Sl.trans (Sl.ne (Sl.trans (Sl.ne (Sl.ne (Sl.trans (Sl.ne (Sl.trans (Sl.rf _ _) (Sl.mono qhc1 (fun c hw => by unfold Vm12_passWord at hw; unfold Vm12_isStrikeHere; first | exact hw.elim | omega))) (by decide)) (Sl.mono qhc2 (fun c hw => by unfold Vm12_sum at hw; unfold Vm12_isStrikeHere; first | exact hw.elim | omega))) (by decide)) (by decide)) (Sl.mono qhc3 (fun c hw => by unfold Vm12_takesWord at hw; unfold Vm12_isStrikeHere; first | exact hw.elim | omega))) (by decide)) (Sl.mono qhc4 (fun c hw => by unfold Vm12_tested at hw; unfold Vm12_isStrikeHere; first | exact hw.elim | omega))) (f12_isStrikeHere_s110 (F := F) _ _ h)
def Vm12_cellHere (c : Nat) : Prop := (8 ≤ c ∧ c ≤ 10)
set_option maxHeartbeats 1000000 in
theorem f12_cellHere_s {F : Nat} {i1 : Int32} {i2 : Int32} {i3 : Int32} {σ : Mem} {r : Int32 × Mem} (h : m12_cellHere F i1 i2 i3 σ = some r) : Sl (Vm12_cellHere) σ r.2 := by
  unfold m12_cellHere at h
  have ⟨_, hc1, h⟩ := b_some h
  have qhc1 := f12_numberHere_s hc1
  rcases g_if h with ⟨hq, h⟩ | ⟨hq, h⟩
  · have e := Option.some.inj h
    subst e
    exact (Sl.trans (Sl.rf _ _) (Sl.mono qhc1 (fun c hw => by unfold Vm12_numberHere at hw; unfold Vm12_cellHere; first | exact hw.elim | omega)))
  · have ⟨hg, h⟩ := g_gd h
    have hb := inB_lt hg
    have e := Option.some.inj h
    subst e
    exact (Sl.ne (Sl.trans (Sl.rf _ _) (Sl.mono qhc1 (fun c hw => by unfold Vm12_numberHere at hw; unfold Vm12_cellHere; first | exact hw.elim | omega))) (by decide))
def Vm12_isSmithyHere (c : Nat) : Prop := (8 ≤ c ∧ c ≤ 10)
set_option maxHeartbeats 1000000 in
theorem f12_isSmithyHere_s {F : Nat} {i1 : Int32} {σ : Mem} {r : Int32 × Mem} (h : m12_isSmithyHere F i1 σ = some r) : Sl (Vm12_isSmithyHere) σ r.2 := by
  unfold m12_isSmithyHere at h
  have ⟨hg, h⟩ := g_gd h
  have hb := inB_lt hg
  rcases g_if h with ⟨hq, h⟩ | ⟨hq, h⟩
  · have ⟨_, hc1, h⟩ := b_some h
    have qhc1 := f12_passWord_s hc1
    have ⟨_, hc2, h⟩ := b_some h
    have qhc2 := f12_numberHere_s hc2
    rcases g_if h with ⟨hq, h⟩ | ⟨hq, h⟩
    · have e := Option.some.inj h
      subst e
      exact (Sl.trans (Sl.trans (Sl.rf _ _) (Sl.mono qhc1 (fun c hw => by unfold Vm12_passWord at hw; unfold Vm12_isSmithyHere; first | exact hw.elim | omega))) (Sl.mono qhc2 (fun c hw => by unfold Vm12_numberHere at hw; unfold Vm12_isSmithyHere; first | exact hw.elim | omega)))
    · have ⟨_, hc3, h⟩ := b_some h
      have qhc3 := f12_cellHere_s hc3
      rcases g_if h with ⟨hq, h⟩ | ⟨hq, h⟩
      · have e := Option.some.inj h
        subst e
        exact (Sl.trans (Sl.trans (Sl.trans (Sl.rf _ _) (Sl.mono qhc1 (fun c hw => by unfold Vm12_passWord at hw; unfold Vm12_isSmithyHere; first | exact hw.elim | omega))) (Sl.mono qhc2 (fun c hw => by unfold Vm12_numberHere at hw; unfold Vm12_isSmithyHere; first | exact hw.elim | omega))) (Sl.mono qhc3 (fun c hw => by unfold Vm12_cellHere at hw; unfold Vm12_isSmithyHere; first | exact hw.elim | omega)))
      · have ⟨_, hc4, h⟩ := b_some h
        have qhc4 := f12_cellHere_s hc4
        rcases g_if h with ⟨hq, h⟩ | ⟨hq, h⟩
        · have e := Option.some.inj h
          subst e
          exact (Sl.trans (Sl.trans (Sl.trans (Sl.trans (Sl.rf _ _) (Sl.mono qhc1 (fun c hw => by unfold Vm12_passWord at hw; unfold Vm12_isSmithyHere; first | exact hw.elim | omega))) (Sl.mono qhc2 (fun c hw => by unfold Vm12_numberHere at hw; unfold Vm12_isSmithyHere; first | exact hw.elim | omega))) (Sl.mono qhc3 (fun c hw => by unfold Vm12_cellHere at hw; unfold Vm12_isSmithyHere; first | exact hw.elim | omega))) (Sl.mono qhc4 (fun c hw => by unfold Vm12_cellHere at hw; unfold Vm12_isSmithyHere; first | exact hw.elim | omega)))
        · have ⟨hg, h⟩ := g_gd h
          have hb := inB_lt hg
          have e := Option.some.inj h
          subst e
          exact (Sl.ne (Sl.trans (Sl.trans (Sl.trans (Sl.trans (Sl.rf _ _) (Sl.mono qhc1 (fun c hw => by unfold Vm12_passWord at hw; unfold Vm12_isSmithyHere; first | exact hw.elim | omega))) (Sl.mono qhc2 (fun c hw => by unfold Vm12_numberHere at hw; unfold Vm12_isSmithyHere; first | exact hw.elim | omega))) (Sl.mono qhc3 (fun c hw => by unfold Vm12_cellHere at hw; unfold Vm12_isSmithyHere; first | exact hw.elim | omega))) (Sl.mono qhc4 (fun c hw => by unfold Vm12_cellHere at hw; unfold Vm12_isSmithyHere; first | exact hw.elim | omega))) (by decide))
  · have ⟨_, hc1, h⟩ := b_some h
    have qhc1 := f12_fails_s hc1
    have ⟨hg, h⟩ := g_gd h
    have e := Option.some.inj h
    subst e
    exact (Sl.trans (Sl.rf _ _) (Sl.mono qhc1 (fun c hw => by unfold Vm12_fails at hw; unfold Vm12_isSmithyHere; first | exact hw.elim | omega)))
def Vm12_isSmithHere (c : Nat) : Prop := (8 ≤ c ∧ c ≤ 10)
set_option maxHeartbeats 1000000 in
theorem f12_isSmithHere_s51 {F : Nat} {i1 : Int32} {r : Int32 × Mem} : ∀ (n : Nat) (x2 : Int32) (x3 : Int32) (σ : Mem), m12_isSmithHere_51 F i1 n x2 x3 σ = some r → Sl (Vm12_isSmithHere) σ r.2 := by
  intro n
  induction n with
  | zero => intro x2 x3 σ h; unfold m12_isSmithHere_51 at h; cases h
  | succ n ih =>
    intro x2 x3 σ h
    unfold m12_isSmithHere_51 at h
    rcases g_if h with ⟨hq, h⟩ | ⟨hq, h⟩
    · have ⟨hg, h⟩ := g_gd h
      have hb := inB_lt hg
      have ⟨hg, h⟩ := g_gd h
      have hb := inB_lt hg
      have e := Option.some.inj h
      subst e
      exact (Sl.ne (Sl.rf _ _) (by decide))
    · rcases g_if h with ⟨hq, h⟩ | ⟨hq, h⟩
      · exact Sl.trans (Sl.rf _ _) (ih _ _ _ h)
      · have ⟨hg, h⟩ := g_gd h
        have hb := inB_lt hg
        exact Sl.trans (Sl.ne (Sl.rf _ _) (by decide)) (ih _ _ _ h)
set_option maxHeartbeats 1000000 in
theorem f12_isSmithHere_s {F : Nat} {i1 : Int32} {σ : Mem} {r : Int32 × Mem} (h : m12_isSmithHere F i1 σ = some r) : Sl (Vm12_isSmithHere) σ r.2 := by
  unfold m12_isSmithHere at h
  have ⟨hg, h⟩ := g_gd h
  have hb := inB_lt hg
  rcases g_if h with ⟨hq, h⟩ | ⟨hq, h⟩
  · have ⟨_, hc1, h⟩ := b_some h
    have qhc1 := f12_fails_s hc1
    have ⟨hg, h⟩ := g_gd h
    have e := Option.some.inj h
    subst e
    exact (Sl.trans (Sl.rf _ _) (Sl.mono qhc1 (fun c hw => by unfold Vm12_fails at hw; unfold Vm12_isSmithHere; first | exact hw.elim | omega)))
  · have ⟨_, hc1, h⟩ := b_some h
    have qhc1 := f12_passWord_s hc1
    have ⟨hg, h⟩ := g_gd h
    have hb := inB_lt hg
    have ⟨_, hc2, h⟩ := b_some h
    have qhc2 := f12_cellHere_s hc2
    rcases g_if h with ⟨hq, h⟩ | ⟨hq, h⟩
    · have e := Option.some.inj h
      subst e
      exact (Sl.trans (Sl.trans (Sl.rf _ _) (Sl.mono qhc1 (fun c hw => by unfold Vm12_passWord at hw; unfold Vm12_isSmithHere; first | exact hw.elim | omega))) (Sl.mono qhc2 (fun c hw => by unfold Vm12_cellHere at hw; unfold Vm12_isSmithHere; first | exact hw.elim | omega)))
    · exact Sl.trans (Sl.trans (Sl.trans (Sl.rf _ _) (Sl.mono qhc1 (fun c hw => by unfold Vm12_passWord at hw; unfold Vm12_isSmithHere; first | exact hw.elim | omega))) (Sl.mono qhc2 (fun c hw => by unfold Vm12_cellHere at hw; unfold Vm12_isSmithHere; first | exact hw.elim | omega))) (f12_isSmithHere_s51 (F := F) F _ _ _ h)
def Vm12_partHere (c : Nat) : Prop := c = 8
set_option maxHeartbeats 1000000 in
theorem f12_partHere_s {F : Nat} {σ : Mem} {r : Int32 × Mem} (h : m12_partHere F  σ = some r) : Sl (Vm12_partHere) σ r.2 := by
  unfold m12_partHere at h
  have ⟨_, hc1, h⟩ := b_some h
  have qhc1 := f12_takesWord_s hc1
  rcases g_if h with ⟨hq, h⟩ | ⟨hq, h⟩
  · have ⟨_, hc2, h⟩ := b_some h
    have qhc2 := f12_takesWord_s hc2
    rcases g_if h with ⟨hq, h⟩ | ⟨hq, h⟩
    · have ⟨_, hc3, h⟩ := b_some h
      have qhc3 := f12_takesWord_s hc3
      rcases g_if h with ⟨hq, h⟩ | ⟨hq, h⟩
      · have ⟨_, hc4, h⟩ := b_some h
        have qhc4 := f12_takesWord_s hc4
        rcases g_if h with ⟨hq, h⟩ | ⟨hq, h⟩
        · have e := Option.some.inj h
          subst e
          exact (Sl.trans (Sl.trans (Sl.trans (Sl.trans (Sl.rf _ _) (Sl.mono qhc1 (fun c hw => by unfold Vm12_takesWord at hw; unfold Vm12_partHere; first | exact hw.elim | omega))) (Sl.mono qhc2 (fun c hw => by unfold Vm12_takesWord at hw; unfold Vm12_partHere; first | exact hw.elim | omega))) (Sl.mono qhc3 (fun c hw => by unfold Vm12_takesWord at hw; unfold Vm12_partHere; first | exact hw.elim | omega))) (Sl.mono qhc4 (fun c hw => by unfold Vm12_takesWord at hw; unfold Vm12_partHere; first | exact hw.elim | omega)))
        · have e := Option.some.inj h
          subst e
          exact (Sl.trans (Sl.trans (Sl.trans (Sl.trans (Sl.rf _ _) (Sl.mono qhc1 (fun c hw => by unfold Vm12_takesWord at hw; unfold Vm12_partHere; first | exact hw.elim | omega))) (Sl.mono qhc2 (fun c hw => by unfold Vm12_takesWord at hw; unfold Vm12_partHere; first | exact hw.elim | omega))) (Sl.mono qhc3 (fun c hw => by unfold Vm12_takesWord at hw; unfold Vm12_partHere; first | exact hw.elim | omega))) (Sl.mono qhc4 (fun c hw => by unfold Vm12_takesWord at hw; unfold Vm12_partHere; first | exact hw.elim | omega)))
      · have e := Option.some.inj h
        subst e
        exact (Sl.trans (Sl.trans (Sl.trans (Sl.rf _ _) (Sl.mono qhc1 (fun c hw => by unfold Vm12_takesWord at hw; unfold Vm12_partHere; first | exact hw.elim | omega))) (Sl.mono qhc2 (fun c hw => by unfold Vm12_takesWord at hw; unfold Vm12_partHere; first | exact hw.elim | omega))) (Sl.mono qhc3 (fun c hw => by unfold Vm12_takesWord at hw; unfold Vm12_partHere; first | exact hw.elim | omega)))
    · have e := Option.some.inj h
      subst e
      exact (Sl.trans (Sl.trans (Sl.rf _ _) (Sl.mono qhc1 (fun c hw => by unfold Vm12_takesWord at hw; unfold Vm12_partHere; first | exact hw.elim | omega))) (Sl.mono qhc2 (fun c hw => by unfold Vm12_takesWord at hw; unfold Vm12_partHere; first | exact hw.elim | omega)))
  · have e := Option.some.inj h
    subst e
    exact (Sl.trans (Sl.rf _ _) (Sl.mono qhc1 (fun c hw => by unfold Vm12_takesWord at hw; unfold Vm12_partHere; first | exact hw.elim | omega)))
def Vm12_isJobHere (c : Nat) : Prop := (8 ≤ c ∧ c ≤ 10)
set_option maxHeartbeats 1000000 in
theorem f12_isJobHere_s {F : Nat} {i1 : Int32} {σ : Mem} {r : Int32 × Mem} (h : m12_isJobHere F i1 σ = some r) : Sl (Vm12_isJobHere) σ r.2 := by
  unfold m12_isJobHere at h
  have ⟨hg, h⟩ := g_gd h
  have hb := inB_lt hg
  rcases g_if h with ⟨hq, h⟩ | ⟨hq, h⟩
  · have ⟨_, hc1, h⟩ := b_some h
    have qhc1 := f12_fails_s hc1
    have ⟨hg, h⟩ := g_gd h
    have e := Option.some.inj h
    subst e
    exact (Sl.trans (Sl.rf _ _) (Sl.mono qhc1 (fun c hw => by unfold Vm12_fails at hw; unfold Vm12_isJobHere; first | exact hw.elim | omega)))
  · have ⟨_, hc1, h⟩ := b_some h
    have qhc1 := f12_passWord_s hc1
    have ⟨hg, h⟩ := g_gd h
    have hb := inB_lt hg
    have ⟨hg, h⟩ := g_gd h
    have hb := inB_lt hg
    have ⟨_, hc2, h⟩ := b_some h
    have qhc2 := f12_cellHere_s hc2
    rcases g_if h with ⟨hq, h⟩ | ⟨hq, h⟩
    · have e := Option.some.inj h
      subst e
      exact (Sl.trans (Sl.trans (Sl.rf _ _) (Sl.mono qhc1 (fun c hw => by unfold Vm12_passWord at hw; unfold Vm12_isJobHere; first | exact hw.elim | omega))) (Sl.mono qhc2 (fun c hw => by unfold Vm12_cellHere at hw; unfold Vm12_isJobHere; first | exact hw.elim | omega)))
    · have ⟨_, hc3, h⟩ := b_some h
      have qhc3 := f12_see_s hc3
      have ⟨_, hc4, h⟩ := b_some h
      have qhc4 := f12_partHere_s hc4
      have ⟨hg, h⟩ := g_gd h
      have hb := inB_lt hg
      have ⟨hg, h⟩ := g_gd h
      have hb := inB_lt hg
      rcases g_if h with ⟨hq, h⟩ | ⟨hq, h⟩
      · have ⟨_, hc5, h⟩ := b_some h
        have qhc5 := f12_cellHere_s hc5
        rcases g_if h with ⟨hq, h⟩ | ⟨hq, h⟩
        · have e := Option.some.inj h
          subst e
          exact (Sl.trans (Sl.ne (Sl.trans (Sl.trans (Sl.trans (Sl.trans (Sl.rf _ _) (Sl.mono qhc1 (fun c hw => by unfold Vm12_passWord at hw; unfold Vm12_isJobHere; first | exact hw.elim | omega))) (Sl.mono qhc2 (fun c hw => by unfold Vm12_cellHere at hw; unfold Vm12_isJobHere; first | exact hw.elim | omega))) (Sl.mono qhc3 (fun c hw => by unfold Vm12_see at hw; unfold Vm12_isJobHere; first | exact hw.elim | omega))) (Sl.mono qhc4 (fun c hw => by unfold Vm12_partHere at hw; unfold Vm12_isJobHere; first | exact hw.elim | omega))) (by decide)) (Sl.mono qhc5 (fun c hw => by unfold Vm12_cellHere at hw; unfold Vm12_isJobHere; first | exact hw.elim | omega)))
        · have ⟨_, hc6, h⟩ := b_some h
          have qhc6 := f12_cellHere_s hc6
          rcases g_if h with ⟨hq, h⟩ | ⟨hq, h⟩
          · have e := Option.some.inj h
            subst e
            exact (Sl.trans (Sl.trans (Sl.ne (Sl.trans (Sl.trans (Sl.trans (Sl.trans (Sl.rf _ _) (Sl.mono qhc1 (fun c hw => by unfold Vm12_passWord at hw; unfold Vm12_isJobHere; first | exact hw.elim | omega))) (Sl.mono qhc2 (fun c hw => by unfold Vm12_cellHere at hw; unfold Vm12_isJobHere; first | exact hw.elim | omega))) (Sl.mono qhc3 (fun c hw => by unfold Vm12_see at hw; unfold Vm12_isJobHere; first | exact hw.elim | omega))) (Sl.mono qhc4 (fun c hw => by unfold Vm12_partHere at hw; unfold Vm12_isJobHere; first | exact hw.elim | omega))) (by decide)) (Sl.mono qhc5 (fun c hw => by unfold Vm12_cellHere at hw; unfold Vm12_isJobHere; first | exact hw.elim | omega))) (Sl.mono qhc6 (fun c hw => by unfold Vm12_cellHere at hw; unfold Vm12_isJobHere; first | exact hw.elim | omega)))
          · have ⟨_, hc7, h⟩ := b_some h
            have qhc7 := f12_cellHere_s hc7
            rcases g_if h with ⟨hq, h⟩ | ⟨hq, h⟩
            · have e := Option.some.inj h
              subst e
              exact (Sl.trans (Sl.trans (Sl.trans (Sl.ne (Sl.trans (Sl.trans (Sl.trans (Sl.trans (Sl.rf _ _) (Sl.mono qhc1 (fun c hw => by unfold Vm12_passWord at hw; unfold Vm12_isJobHere; first | exact hw.elim | omega))) (Sl.mono qhc2 (fun c hw => by unfold Vm12_cellHere at hw; unfold Vm12_isJobHere; first | exact hw.elim | omega))) (Sl.mono qhc3 (fun c hw => by unfold Vm12_see at hw; unfold Vm12_isJobHere; first | exact hw.elim | omega))) (Sl.mono qhc4 (fun c hw => by unfold Vm12_partHere at hw; unfold Vm12_isJobHere; first | exact hw.elim | omega))) (by decide)) (Sl.mono qhc5 (fun c hw => by unfold Vm12_cellHere at hw; unfold Vm12_isJobHere; first | exact hw.elim | omega))) (Sl.mono qhc6 (fun c hw => by unfold Vm12_cellHere at hw; unfold Vm12_isJobHere; first | exact hw.elim | omega))) (Sl.mono qhc7 (fun c hw => by unfold Vm12_cellHere at hw; unfold Vm12_isJobHere; first | exact hw.elim | omega)))
            · have ⟨hg, h⟩ := g_gd h
              have hb := inB_lt hg
              have ⟨hg, h⟩ := g_gd h
              have hb := inB_lt hg
              have ⟨hg, h⟩ := g_gd h
              have hb := inB_lt hg
              have ⟨hg, h⟩ := g_gd h
              have hb := inB_lt hg
              have ⟨hg, h⟩ := g_gd h
              have hb := inB_lt hg
              have ⟨hg, h⟩ := g_gd h
              have hb := inB_lt hg
              have ⟨hg, h⟩ := g_gd h
              have hb := inB_lt hg
              have e := Option.some.inj h
              subst e
              exact (Sl.ne (Sl.ne (Sl.ne (Sl.ne (Sl.trans (Sl.trans (Sl.trans (Sl.ne (Sl.trans (Sl.trans (Sl.trans (Sl.trans (Sl.rf _ _) (Sl.mono qhc1 (fun c hw => by unfold Vm12_passWord at hw; unfold Vm12_isJobHere; first | exact hw.elim | omega))) (Sl.mono qhc2 (fun c hw => by unfold Vm12_cellHere at hw; unfold Vm12_isJobHere; first | exact hw.elim | omega))) (Sl.mono qhc3 (fun c hw => by unfold Vm12_see at hw; unfold Vm12_isJobHere; first | exact hw.elim | omega))) (Sl.mono qhc4 (fun c hw => by unfold Vm12_partHere at hw; unfold Vm12_isJobHere; first | exact hw.elim | omega))) (by decide)) (Sl.mono qhc5 (fun c hw => by unfold Vm12_cellHere at hw; unfold Vm12_isJobHere; first | exact hw.elim | omega))) (Sl.mono qhc6 (fun c hw => by unfold Vm12_cellHere at hw; unfold Vm12_isJobHere; first | exact hw.elim | omega))) (Sl.mono qhc7 (fun c hw => by unfold Vm12_cellHere at hw; unfold Vm12_isJobHere; first | exact hw.elim | omega))) (by decide)) (by decide)) (by decide)) (by decide))
      · have ⟨_, hc5, h⟩ := b_some h
        have qhc5 := f12_fails_s hc5
        have ⟨hg, h⟩ := g_gd h
        have e := Option.some.inj h
        subst e
        exact (Sl.trans (Sl.ne (Sl.trans (Sl.trans (Sl.trans (Sl.trans (Sl.rf _ _) (Sl.mono qhc1 (fun c hw => by unfold Vm12_passWord at hw; unfold Vm12_isJobHere; first | exact hw.elim | omega))) (Sl.mono qhc2 (fun c hw => by unfold Vm12_cellHere at hw; unfold Vm12_isJobHere; first | exact hw.elim | omega))) (Sl.mono qhc3 (fun c hw => by unfold Vm12_see at hw; unfold Vm12_isJobHere; first | exact hw.elim | omega))) (Sl.mono qhc4 (fun c hw => by unfold Vm12_partHere at hw; unfold Vm12_isJobHere; first | exact hw.elim | omega))) (by decide)) (Sl.mono qhc5 (fun c hw => by unfold Vm12_fails at hw; unfold Vm12_isJobHere; first | exact hw.elim | omega)))
def Vm12_isPartHere (c : Nat) : Prop := (8 ≤ c ∧ c ≤ 10)
set_option maxHeartbeats 1000000 in
theorem f12_isPartHere_s {F : Nat} {σ : Mem} {r : Int32 × Mem} (h : m12_isPartHere F  σ = some r) : Sl (Vm12_isPartHere) σ r.2 := by
  unfold m12_isPartHere at h
  have ⟨_, hc1, h⟩ := b_some h
  have qhc1 := f12_passWord_s hc1
  have ⟨_, hc2, h⟩ := b_some h
  have qhc2 := f12_numberHere_s hc2
  rcases g_if h with ⟨hq, h⟩ | ⟨hq, h⟩
  · have e := Option.some.inj h
    subst e
    exact (Sl.trans (Sl.trans (Sl.rf _ _) (Sl.mono qhc1 (fun c hw => by unfold Vm12_passWord at hw; unfold Vm12_isPartHere; first | exact hw.elim | omega))) (Sl.mono qhc2 (fun c hw => by unfold Vm12_numberHere at hw; unfold Vm12_isPartHere; first | exact hw.elim | omega)))
  · have ⟨_, hc3, h⟩ := b_some h
    have qhc3 := f12_cellHere_s hc3
    have ⟨hg, h⟩ := g_gd h
    have e := Option.some.inj h
    subst e
    exact (Sl.trans (Sl.trans (Sl.trans (Sl.rf _ _) (Sl.mono qhc1 (fun c hw => by unfold Vm12_passWord at hw; unfold Vm12_isPartHere; first | exact hw.elim | omega))) (Sl.mono qhc2 (fun c hw => by unfold Vm12_numberHere at hw; unfold Vm12_isPartHere; first | exact hw.elim | omega))) (Sl.mono qhc3 (fun c hw => by unfold Vm12_cellHere at hw; unfold Vm12_isPartHere; first | exact hw.elim | omega)))
def Vm12_smithyLineHere (c : Nat) : Prop := (8 ≤ c ∧ c ≤ 10)
set_option maxHeartbeats 1000000 in
theorem f12_smithyLineHere_s {F : Nat} {i1 : Int32} {σ : Mem} {r : Int32 × Mem} (h : m12_smithyLineHere F i1 σ = some r) : Sl (Vm12_smithyLineHere) σ r.2 := by
  unfold m12_smithyLineHere at h
  have ⟨_, hc1, h⟩ := b_some h
  have qhc1 := f12_isWord_s hc1
  rcases g_if h with ⟨hq, h⟩ | ⟨hq, h⟩
  · have ⟨hg, h⟩ := g_gd h
    have hb := inB_lt hg
    rcases g_if h with ⟨hq, h⟩ | ⟨hq, h⟩
    · have ⟨_, hc2, h⟩ := b_some h
      have qhc2 := f12_fails_s hc2
      have ⟨hg, h⟩ := g_gd h
      have e := Option.some.inj h
      subst e
      exact (Sl.trans (Sl.trans (Sl.rf _ _) (Sl.mono qhc1 (fun c hw => by unfold Vm12_isWord at hw; unfold Vm12_smithyLineHere; first | exact hw.elim | omega))) (Sl.mono qhc2 (fun c hw => by unfold Vm12_fails at hw; unfold Vm12_smithyLineHere; first | exact hw.elim | omega)))
    · have ⟨_, hc2, h⟩ := b_some h
      have qhc2 := f12_isWord_s hc2
      rcases g_if h with ⟨hq, h⟩ | ⟨hq, h⟩
      · have ⟨_, hc3, h⟩ := b_some h
        have qhc3 := f12_isWord_s hc3
        rcases g_if h with ⟨hq, h⟩ | ⟨hq, h⟩
        · have ⟨_, hc4, h⟩ := b_some h
          have qhc4 := f12_isPartHere_s hc4
          have ⟨hg, h⟩ := g_gd h
          have e := Option.some.inj h
          subst e
          exact (Sl.trans (Sl.trans (Sl.trans (Sl.trans (Sl.rf _ _) (Sl.mono qhc1 (fun c hw => by unfold Vm12_isWord at hw; unfold Vm12_smithyLineHere; first | exact hw.elim | omega))) (Sl.mono qhc2 (fun c hw => by unfold Vm12_isWord at hw; unfold Vm12_smithyLineHere; first | exact hw.elim | omega))) (Sl.mono qhc3 (fun c hw => by unfold Vm12_isWord at hw; unfold Vm12_smithyLineHere; first | exact hw.elim | omega))) (Sl.mono qhc4 (fun c hw => by unfold Vm12_isPartHere at hw; unfold Vm12_smithyLineHere; first | exact hw.elim | omega)))
        · have ⟨_, hc4, h⟩ := b_some h
          have qhc4 := f12_isJobHere_s hc4
          have ⟨hg, h⟩ := g_gd h
          have e := Option.some.inj h
          subst e
          exact (Sl.trans (Sl.trans (Sl.trans (Sl.trans (Sl.rf _ _) (Sl.mono qhc1 (fun c hw => by unfold Vm12_isWord at hw; unfold Vm12_smithyLineHere; first | exact hw.elim | omega))) (Sl.mono qhc2 (fun c hw => by unfold Vm12_isWord at hw; unfold Vm12_smithyLineHere; first | exact hw.elim | omega))) (Sl.mono qhc3 (fun c hw => by unfold Vm12_isWord at hw; unfold Vm12_smithyLineHere; first | exact hw.elim | omega))) (Sl.mono qhc4 (fun c hw => by unfold Vm12_isJobHere at hw; unfold Vm12_smithyLineHere; first | exact hw.elim | omega)))
      · have ⟨_, hc3, h⟩ := b_some h
        have qhc3 := f12_isSmithHere_s hc3
        have ⟨hg, h⟩ := g_gd h
        have e := Option.some.inj h
        subst e
        exact (Sl.trans (Sl.trans (Sl.trans (Sl.rf _ _) (Sl.mono qhc1 (fun c hw => by unfold Vm12_isWord at hw; unfold Vm12_smithyLineHere; first | exact hw.elim | omega))) (Sl.mono qhc2 (fun c hw => by unfold Vm12_isWord at hw; unfold Vm12_smithyLineHere; first | exact hw.elim | omega))) (Sl.mono qhc3 (fun c hw => by unfold Vm12_isSmithHere at hw; unfold Vm12_smithyLineHere; first | exact hw.elim | omega)))
  · have ⟨_, hc2, h⟩ := b_some h
    have qhc2 := f12_isSmithyHere_s hc2
    have ⟨hg, h⟩ := g_gd h
    have e := Option.some.inj h
    subst e
    exact (Sl.trans (Sl.trans (Sl.rf _ _) (Sl.mono qhc1 (fun c hw => by unfold Vm12_isWord at hw; unfold Vm12_smithyLineHere; first | exact hw.elim | omega))) (Sl.mono qhc2 (fun c hw => by unfold Vm12_isSmithyHere at hw; unfold Vm12_smithyLineHere; first | exact hw.elim | omega)))
def Vm12_isSmithyWord (c : Nat) : Prop := c = 8
set_option maxHeartbeats 1000000 in
theorem f12_isSmithyWord_s {F : Nat} {σ : Mem} {r : Int32 × Mem} (h : m12_isSmithyWord F  σ = some r) : Sl (Vm12_isSmithyWord) σ r.2 := by
  unfold m12_isSmithyWord at h
  have ⟨_, hc1, h⟩ := b_some h
  have qhc1 := f12_isWord_s hc1
  rcases g_if h with ⟨hq, h⟩ | ⟨hq, h⟩
  · have ⟨_, hc2, h⟩ := b_some h
    have qhc2 := f12_isWord_s hc2
    rcases g_if h with ⟨hq, h⟩ | ⟨hq, h⟩
    · have ⟨_, hc3, h⟩ := b_some h
      have qhc3 := f12_isWord_s hc3
      rcases g_if h with ⟨hq, h⟩ | ⟨hq, h⟩
      · have ⟨_, hc4, h⟩ := b_some h
        have qhc4 := f12_isWord_s hc4
        rcases g_if h with ⟨hq, h⟩ | ⟨hq, h⟩
        · have e := Option.some.inj h
          subst e
          exact (Sl.trans (Sl.trans (Sl.trans (Sl.trans (Sl.rf _ _) (Sl.mono qhc1 (fun c hw => by unfold Vm12_isWord at hw; unfold Vm12_isSmithyWord; first | exact hw.elim | omega))) (Sl.mono qhc2 (fun c hw => by unfold Vm12_isWord at hw; unfold Vm12_isSmithyWord; first | exact hw.elim | omega))) (Sl.mono qhc3 (fun c hw => by unfold Vm12_isWord at hw; unfold Vm12_isSmithyWord; first | exact hw.elim | omega))) (Sl.mono qhc4 (fun c hw => by unfold Vm12_isWord at hw; unfold Vm12_isSmithyWord; first | exact hw.elim | omega)))
        · have e := Option.some.inj h
          subst e
          exact (Sl.trans (Sl.trans (Sl.trans (Sl.trans (Sl.rf _ _) (Sl.mono qhc1 (fun c hw => by unfold Vm12_isWord at hw; unfold Vm12_isSmithyWord; first | exact hw.elim | omega))) (Sl.mono qhc2 (fun c hw => by unfold Vm12_isWord at hw; unfold Vm12_isSmithyWord; first | exact hw.elim | omega))) (Sl.mono qhc3 (fun c hw => by unfold Vm12_isWord at hw; unfold Vm12_isSmithyWord; first | exact hw.elim | omega))) (Sl.mono qhc4 (fun c hw => by unfold Vm12_isWord at hw; unfold Vm12_isSmithyWord; first | exact hw.elim | omega)))
      · have e := Option.some.inj h
        subst e
        exact (Sl.trans (Sl.trans (Sl.trans (Sl.rf _ _) (Sl.mono qhc1 (fun c hw => by unfold Vm12_isWord at hw; unfold Vm12_isSmithyWord; first | exact hw.elim | omega))) (Sl.mono qhc2 (fun c hw => by unfold Vm12_isWord at hw; unfold Vm12_isSmithyWord; first | exact hw.elim | omega))) (Sl.mono qhc3 (fun c hw => by unfold Vm12_isWord at hw; unfold Vm12_isSmithyWord; first | exact hw.elim | omega)))
    · have e := Option.some.inj h
      subst e
      exact (Sl.trans (Sl.trans (Sl.rf _ _) (Sl.mono qhc1 (fun c hw => by unfold Vm12_isWord at hw; unfold Vm12_isSmithyWord; first | exact hw.elim | omega))) (Sl.mono qhc2 (fun c hw => by unfold Vm12_isWord at hw; unfold Vm12_isSmithyWord; first | exact hw.elim | omega)))
  · have e := Option.some.inj h
    subst e
    exact (Sl.trans (Sl.rf _ _) (Sl.mono qhc1 (fun c hw => by unfold Vm12_isWord at hw; unfold Vm12_isSmithyWord; first | exact hw.elim | omega)))
def Vm12_clauseHere (c : Nat) : Prop := (8 ≤ c ∧ c ≤ 10) ∨ (12 ≤ c ∧ c ≤ 14) ∨ c = 16
set_option maxHeartbeats 1000000 in
theorem f12_clauseHere_s71 {F : Nat} {r : Int32 × Mem} : ∀ (x1 : Int32) (x2 : Int32) (s0 : Int32) (s1 : Int32) (σ : Mem), m12_clauseHere_71 F x1 x2 s0 s1 σ = some r → Sl (Vm12_clauseHere) σ r.2 := by
  intro x1 x2 s0 s1 σ h
  unfold m12_clauseHere_71 at h
  rcases g_if h with ⟨hq, h⟩ | ⟨hq, h⟩
  · have ⟨_, hc1, h⟩ := b_some h
    have qhc1 := f12_fails_s hc1
    have ⟨hg, h⟩ := g_gd h
    have e := Option.some.inj h
    subst e
    exact (Sl.trans (Sl.rf _ _) (Sl.mono qhc1 (fun c hw => by unfold Vm12_fails at hw; unfold Vm12_clauseHere; first | exact hw.elim | omega)))
  · rcases g_if h with ⟨hq, h⟩ | ⟨hq, h⟩
    · have ⟨_, hc1, h⟩ := b_some h
      have qhc1 := f12_isStrikeHere_s hc1
      have ⟨hg, h⟩ := g_gd h
      have e := Option.some.inj h
      subst e
      exact (Sl.trans (Sl.at (Sl.rf _ _) (by unfold Vm12_clauseHere; omega)) (Sl.mono qhc1 (fun c hw => by unfold Vm12_isStrikeHere at hw; unfold Vm12_clauseHere; first | exact hw.elim | omega)))
    · have ⟨_, hc1, h⟩ := b_some h
      have qhc1 := f12_smithyLineHere_s hc1
      have ⟨hg, h⟩ := g_gd h
      have e := Option.some.inj h
      subst e
      exact (Sl.trans (Sl.at (Sl.rf _ _) (by unfold Vm12_clauseHere; omega)) (Sl.mono qhc1 (fun c hw => by unfold Vm12_smithyLineHere at hw; unfold Vm12_clauseHere; first | exact hw.elim | omega)))
set_option maxHeartbeats 1000000 in
theorem f12_clauseHere_s56 {F : Nat} {r : Int32 × Mem} : ∀ (x1 : Int32) (x2 : Int32) (σ : Mem), m12_clauseHere_56 F x1 x2 σ = some r → Sl (Vm12_clauseHere) σ r.2 := by
  intro x1 x2 σ h
  unfold m12_clauseHere_56 at h
  rcases g_if h with ⟨hq, h⟩ | ⟨hq, h⟩
  · exact Sl.trans (Sl.rf _ _) (f12_clauseHere_s71 (F := F) _ _ _ _ _ h)
  · exact Sl.trans (Sl.rf _ _) (f12_clauseHere_s71 (F := F) _ _ _ _ _ h)
set_option maxHeartbeats 1000000 in
theorem f12_clauseHere_s49 {F : Nat} {r : Int32 × Mem} : ∀ (x1 : Int32) (σ : Mem), m12_clauseHere_49 F x1 σ = some r → Sl (Vm12_clauseHere) σ r.2 := by
  intro x1 σ h
  unfold m12_clauseHere_49 at h
  have ⟨_, hc1, h⟩ := b_some h
  have qhc1 := f12_fails_s hc1
  have ⟨hg, h⟩ := g_gd h
  have e := Option.some.inj h
  subst e
  exact (Sl.trans (Sl.rf _ _) (Sl.mono qhc1 (fun c hw => by unfold Vm12_fails at hw; unfold Vm12_clauseHere; first | exact hw.elim | omega)))
set_option maxHeartbeats 1000000 in
theorem f12_clauseHere_s24 {F : Nat} {r : Int32 × Mem} : ∀ (x1 : Int32) (s0 : Int32) (σ : Mem), m12_clauseHere_24 F x1 s0 σ = some r → Sl (Vm12_clauseHere) σ r.2 := by
  intro x1 s0 σ h
  unfold m12_clauseHere_24 at h
  rcases g_if h with ⟨hq, h⟩ | ⟨hq, h⟩
  · have ⟨_, hc1, h⟩ := b_some h
    have qhc1 := f12_isWord_s hc1
    rcases g_if h with ⟨hq, h⟩ | ⟨hq, h⟩
    · exact Sl.trans (Sl.trans (Sl.rf _ _) (Sl.mono qhc1 (fun c hw => by unfold Vm12_isWord at hw; unfold Vm12_clauseHere; first | exact hw.elim | omega))) (f12_clauseHere_s49 (F := F) _ _ h)
    · exact Sl.trans (Sl.trans (Sl.rf _ _) (Sl.mono qhc1 (fun c hw => by unfold Vm12_isWord at hw; unfold Vm12_clauseHere; first | exact hw.elim | omega))) (f12_clauseHere_s56 (F := F) _ _ _ h)
  · have ⟨_, hc1, h⟩ := b_some h
    have qhc1 := f12_isSmithyWord_s hc1
    rcases g_if h with ⟨hq, h⟩ | ⟨hq, h⟩
    · exact Sl.trans (Sl.trans (Sl.rf _ _) (Sl.mono qhc1 (fun c hw => by unfold Vm12_isSmithyWord at hw; unfold Vm12_clauseHere; first | exact hw.elim | omega))) (f12_clauseHere_s49 (F := F) _ _ h)
    · exact Sl.trans (Sl.trans (Sl.rf _ _) (Sl.mono qhc1 (fun c hw => by unfold Vm12_isSmithyWord at hw; unfold Vm12_clauseHere; first | exact hw.elim | omega))) (f12_clauseHere_s56 (F := F) _ _ _ h)
set_option maxHeartbeats 1000000 in
theorem f12_clauseHere_s {F : Nat} {σ : Mem} {r : Int32 × Mem} (h : m12_clauseHere F  σ = some r) : Sl (Vm12_clauseHere) σ r.2 := by
  unfold m12_clauseHere at h
  have ⟨_, hc1, h⟩ := b_some h
  have qhc1 := f12_see_s hc1
  rcases g_if h with ⟨hq, h⟩ | ⟨hq, h⟩
  · exact Sl.trans (Sl.trans (Sl.rf _ _) (Sl.mono qhc1 (fun c hw => by unfold Vm12_see at hw; unfold Vm12_clauseHere; first | exact hw.elim | omega))) (f12_clauseHere_s24 (F := F) _ _ _ h)
  · exact Sl.trans (Sl.trans (Sl.rf _ _) (Sl.mono qhc1 (fun c hw => by unfold Vm12_see at hw; unfold Vm12_clauseHere; first | exact hw.elim | omega))) (f12_clauseHere_s24 (F := F) _ _ _ h)
def Vm12_readsAll (c : Nat) : Prop := c = 1 ∨ (8 ≤ c ∧ c ≤ 10) ∨ (12 ≤ c ∧ c ≤ 14) ∨ c = 16
set_option maxHeartbeats 1000000 in
theorem f12_readsAll_s88 {F : Nat} {r : Int32 × Mem} : ∀ (σ : Mem), m12_readsAll_88 F σ = some r → Sl (Vm12_readsAll) σ r.2 := by
  intro σ h
  unfold m12_readsAll_88 at h
  rcases g_if h with ⟨hq, h⟩ | ⟨hq, h⟩
  · have e := Option.some.inj h
    subst e
    exact (Sl.at (Sl.rf _ _) (by unfold Vm12_readsAll; omega))
  · have e := Option.some.inj h
    subst e
    exact (Sl.at (Sl.rf _ _) (by unfold Vm12_readsAll; omega))
set_option maxHeartbeats 1000000 in
theorem f12_readsAll_s66 {F : Nat} {r : Int32 × Mem} : ∀ (x1 : Int32) (σ : Mem), m12_readsAll_66 F x1 σ = some r → Sl (Vm12_readsAll) σ r.2 := by
  intro x1 σ h
  unfold m12_readsAll_66 at h
  rcases g_if h with ⟨hq, h⟩ | ⟨hq, h⟩
  · exact Sl.trans (Sl.rf _ _) (f12_readsAll_s88 (F := F) _ h)
  · have ⟨_, hc1, h⟩ := b_some h
    have qhc1 := f12_see_s hc1
    rcases g_if h with ⟨hq, h⟩ | ⟨hq, h⟩
    · exact Sl.trans (Sl.trans (Sl.rf _ _) (Sl.mono qhc1 (fun c hw => by unfold Vm12_see at hw; unfold Vm12_readsAll; first | exact hw.elim | omega))) (f12_readsAll_s88 (F := F) _ h)
    · have ⟨_, hc2, h⟩ := b_some h
      have qhc2 := f12_fails_s hc2
      exact Sl.trans (Sl.trans (Sl.trans (Sl.rf _ _) (Sl.mono qhc1 (fun c hw => by unfold Vm12_see at hw; unfold Vm12_readsAll; first | exact hw.elim | omega))) (Sl.mono qhc2 (fun c hw => by unfold Vm12_fails at hw; unfold Vm12_readsAll; first | exact hw.elim | omega))) (f12_readsAll_s88 (F := F) _ h)
set_option maxHeartbeats 1000000 in
theorem f12_readsAll_s35 {F : Nat} {r : Int32 × Mem} : ∀ (n : Nat) (x1 : Int32) (σ : Mem), m12_readsAll_35 F n x1 σ = some r → Sl (Vm12_readsAll) σ r.2 := by
  intro n
  induction n with
  | zero => intro x1 σ h; unfold m12_readsAll_35 at h; cases h
  | succ n ih =>
    intro x1 σ h
    unfold m12_readsAll_35 at h
    rcases g_if h with ⟨hq, h⟩ | ⟨hq, h⟩
    · exact Sl.trans (Sl.rf _ _) (f12_readsAll_s66 (F := F) _ _ h)
    · have ⟨_, hc1, h⟩ := b_some h
      have qhc1 := f12_see_s hc1
      rcases g_if h with ⟨hq, h⟩ | ⟨hq, h⟩
      · have ⟨_, hc2, h⟩ := b_some h
        have qhc2 := f12_clauseHere_s hc2
        exact Sl.trans (Sl.trans (Sl.at (Sl.trans (Sl.rf _ _) (Sl.mono qhc1 (fun c hw => by unfold Vm12_see at hw; unfold Vm12_readsAll; first | exact hw.elim | omega))) (by unfold Vm12_readsAll; omega)) (Sl.mono qhc2 (fun c hw => by unfold Vm12_clauseHere at hw; unfold Vm12_readsAll; first | exact hw.elim | omega))) (ih _ _ h)
      · exact Sl.trans (Sl.trans (Sl.rf _ _) (Sl.mono qhc1 (fun c hw => by unfold Vm12_see at hw; unfold Vm12_readsAll; first | exact hw.elim | omega))) (f12_readsAll_s66 (F := F) _ _ h)
set_option maxHeartbeats 1000000 in
theorem f12_readsAll_s {F : Nat} {σ : Mem} {r : Int32 × Mem} (h : m12_readsAll F  σ = some r) : Sl (Vm12_readsAll) σ r.2 := by
  unfold m12_readsAll at h
  have ⟨hg, h⟩ := g_gd h
  have hb := inB_lt hg
  have ⟨_, hc1, h⟩ := b_some h
  have qhc1 := f12_clauseHere_s hc1
  exact Sl.trans (Sl.trans (Sl.at (Sl.at (Sl.at (Sl.at (Sl.ne (Sl.rf _ _) (by decide)) (by unfold Vm12_readsAll; omega)) (by unfold Vm12_readsAll; omega)) (by unfold Vm12_readsAll; omega)) (by unfold Vm12_readsAll; omega)) (Sl.mono qhc1 (fun c hw => by unfold Vm12_clauseHere at hw; unfold Vm12_readsAll; first | exact hw.elim | omega))) (f12_readsAll_s35 (F := F) F _ _ h)
def Vm12_rule (c : Nat) : Prop := (1 ≤ c ∧ c ≤ 2) ∨ (8 ≤ c ∧ c ≤ 14) ∨ c = 16
set_option maxHeartbeats 1000000 in
theorem f12_rule_s {F : Nat} {σ : Mem} {r : Int32 × Mem} (h : m12_rule F  σ = some r) : Sl (Vm12_rule) σ r.2 := by
  unfold m12_rule at h
  rcases g_if h with ⟨hq, h⟩ | ⟨hq, h⟩
  · have e := Option.some.inj h
    subst e
    exact (Sl.rf _ _)
  · have ⟨hg, h⟩ := g_gd h
    have hb := inB_lt hg
    have ⟨_, hc1, h⟩ := b_some h
    have qhc1 := f12_readsAll_s hc1
    rcases g_if h with ⟨hq, h⟩ | ⟨hq, h⟩
    · have e := Option.some.inj h
      subst e
      exact (Sl.trans (Sl.ne (Sl.at (Sl.rf _ _) (by unfold Vm12_rule; omega)) (by decide)) (Sl.mono qhc1 (fun c hw => by unfold Vm12_readsAll at hw; unfold Vm12_rule; first | exact hw.elim | omega)))
    · have e := Option.some.inj h
      subst e
      exact (Sl.at (Sl.trans (Sl.ne (Sl.at (Sl.rf _ _) (by unfold Vm12_rule; omega)) (by decide)) (Sl.mono qhc1 (fun c hw => by unfold Vm12_readsAll at hw; unfold Vm12_rule; first | exact hw.elim | omega))) (by unfold Vm12_rule; omega))
def Vm12_smithy (c : Nat) : Prop := c = 1 ∨ (8 ≤ c ∧ c ≤ 14) ∨ c = 16 ∨ c = 34
set_option maxHeartbeats 1000000 in
theorem f12_smithy_s104 {F : Nat} {r : Int32 × Mem} : ∀ (n : Nat) (x1 : Int32) (σ : Mem), m12_smithy_104 F n x1 σ = some r → Sl (Vm12_smithy) σ r.2 := by
  intro n
  induction n with
  | zero => intro x1 σ h; unfold m12_smithy_104 at h; cases h
  | succ n ih =>
    intro x1 σ h
    unfold m12_smithy_104 at h
    rcases g_if h with ⟨hq, h⟩ | ⟨hq, h⟩
    · have ⟨hg, h⟩ := g_gd h
      have hb := inB_lt hg
      have e := Option.some.inj h
      subst e
      exact (Sl.at (Sl.rf _ _) (by unfold Vm12_smithy; omega))
    · have ⟨hg, h⟩ := g_gd h
      have hb := inB_lt hg
      have ⟨hg, h⟩ := g_gd h
      have hb := inB_lt hg
      exact Sl.trans (Sl.ne (Sl.rf _ _) (by decide)) (ih _ _ h)
set_option maxHeartbeats 1000000 in
theorem f12_smithy_s67 {F : Nat} {r : Int32 × Mem} : ∀ (n : Nat) (x1 : Int32) (σ : Mem), m12_smithy_67 F n x1 σ = some r → Sl (Vm12_smithy) σ r.2 := by
  intro n
  induction n with
  | zero => intro x1 σ h; unfold m12_smithy_67 at h; cases h
  | succ n ih =>
    intro x1 σ h
    unfold m12_smithy_67 at h
    rcases g_if h with ⟨hq, h⟩ | ⟨hq, h⟩
    · exact Sl.trans (Sl.rf _ _) (f12_smithy_s104 (F := F) F _ _ h)
    · rcases g_if h with ⟨hq, h⟩ | ⟨hq, h⟩
      · have ⟨hg, h⟩ := g_gd h
        have hb := inB_lt hg
        exact Sl.trans (Sl.ne (Sl.rf _ _) (by decide)) (ih _ _ h)
      · have ⟨hg, h⟩ := g_gd h
        have hb := inB_lt hg
        have ⟨hg, h⟩ := g_gd h
        have hb := inB_lt hg
        exact Sl.trans (Sl.ne (Sl.rf _ _) (by decide)) (ih _ _ h)
set_option maxHeartbeats 1000000 in
theorem f12_smithy_s29 {F : Nat} {r : Int32 × Mem} : ∀ (n : Nat) (x1 : Int32) (σ : Mem), m12_smithy_29 F n x1 σ = some r → Sl (Vm12_smithy) σ r.2 := by
  intro n
  induction n with
  | zero => intro x1 σ h; unfold m12_smithy_29 at h; cases h
  | succ n ih =>
    intro x1 σ h
    unfold m12_smithy_29 at h
    rcases g_if h with ⟨hq, h⟩ | ⟨hq, h⟩
    · have ⟨_, hc1, h⟩ := b_some h
      have qhc1 := f12_readsAll_s hc1
      rcases g_if h with ⟨hq, h⟩ | ⟨hq, h⟩
      · have e := Option.some.inj h
        subst e
        exact (Sl.trans (Sl.rf _ _) (Sl.mono qhc1 (fun c hw => by unfold Vm12_readsAll at hw; unfold Vm12_smithy; first | exact hw.elim | omega)))
      · exact Sl.trans (Sl.trans (Sl.rf _ _) (Sl.mono qhc1 (fun c hw => by unfold Vm12_readsAll at hw; unfold Vm12_smithy; first | exact hw.elim | omega))) (f12_smithy_s67 (F := F) F _ _ h)
    · have ⟨hg, h⟩ := g_gd h
      have hb := inB_lt hg
      exact Sl.trans (Sl.ne (Sl.rf _ _) (by decide)) (ih _ _ h)
set_option maxHeartbeats 1000000 in
theorem f12_smithy_s8 {F : Nat} {r : Int32 × Mem} : ∀ (n : Nat) (x1 : Int32) (σ : Mem), m12_smithy_8 F n x1 σ = some r → Sl (Vm12_smithy) σ r.2 := by
  intro n
  induction n with
  | zero => intro x1 σ h; unfold m12_smithy_8 at h; cases h
  | succ n ih =>
    intro x1 σ h
    unfold m12_smithy_8 at h
    rcases g_if h with ⟨hq, h⟩ | ⟨hq, h⟩
    · exact Sl.trans (Sl.rf _ _) (f12_smithy_s29 (F := F) F _ _ h)
    · have ⟨hg, h⟩ := g_gd h
      have hb := inB_lt hg
      exact Sl.trans (Sl.ne (Sl.rf _ _) (by decide)) (ih _ _ h)
set_option maxHeartbeats 1000000 in
theorem f12_smithy_s {F : Nat} {σ : Mem} {r : Int32 × Mem} (h : m12_smithy F  σ = some r) : Sl (Vm12_smithy) σ r.2 := by
  unfold m12_smithy at h
  exact Sl.trans (Sl.at (Sl.rf _ _) (by unfold Vm12_smithy; omega)) (f12_smithy_s8 (F := F) F _ _ h)
def Vm12_push (c : Nat) : Prop := c = 18
set_option maxHeartbeats 1000000 in
theorem f12_push_s {F : Nat} {j1 : Int64} {σ : Mem} {r : Mem} (h : m12_push F j1 σ = some r) : Sl (Vm12_push) σ r := by
  unfold m12_push at h
  have ⟨hg, h⟩ := g_gd h
  have hb := inB_lt hg
  have e := Option.some.inj h
  subst e
  exact (Sl.at (Sl.sL (Sl.rf _ _)) (by unfold Vm12_push; omega))
def Vm12_pop (c : Nat) : Prop := c = 18
set_option maxHeartbeats 1000000 in
theorem f12_pop_s {F : Nat} {σ : Mem} {r : Int64 × Mem} (h : m12_pop F  σ = some r) : Sl (Vm12_pop) σ r.2 := by
  unfold m12_pop at h
  have ⟨hg, h⟩ := g_gd h
  have hb := inB_lt hg
  have e := Option.some.inj h
  subst e
  exact (Sl.at (Sl.rf _ _) (by unfold Vm12_pop; omega))
def Vm12_reckons (c : Nat) : Prop := c = 18
set_option maxHeartbeats 1000000 in
theorem f12_reckons_s8 {F : Nat} {i1 : Int32} {i2 : Int32} {i3 : Int32} {r : Int64 × Mem} : ∀ (n : Nat) (x4 : Int32) (σ : Mem), m12_reckons_8 F i1 i2 i3 n x4 σ = some r → Sl (Vm12_reckons) σ r.2 := by
  intro n
  induction n with
  | zero => intro x4 σ h; unfold m12_reckons_8 at h; cases h
  | succ n ih =>
    intro x4 σ h
    unfold m12_reckons_8 at h
    rcases g_if h with ⟨hq, h⟩ | ⟨hq, h⟩
    · have ⟨_, hc1, h⟩ := b_some h
      have qhc1 := f12_pop_s hc1
      have e := Option.some.inj h
      subst e
      exact (Sl.trans (Sl.rf _ _) (Sl.mono qhc1 (fun c hw => by unfold Vm12_pop at hw; unfold Vm12_reckons; first | exact hw.elim | omega)))
    · have ⟨hg, h⟩ := g_gd h
      have hb := inB_lt hg
      have ⟨hg, h⟩ := g_gd h
      have hb := inB_lt hg
      rcases g_if h with ⟨hq, h⟩ | ⟨hq, h⟩
      · have ⟨_, hc1, h⟩ := b_some h
        have qhc1 := f12_push_s hc1
        exact Sl.trans (Sl.trans (Sl.rf _ _) (Sl.mono qhc1 (fun c hw => by unfold Vm12_push at hw; unfold Vm12_reckons; first | exact hw.elim | omega))) (ih _ _ h)
      · rcases g_if h with ⟨hq, h⟩ | ⟨hq, h⟩
        · have ⟨hg, h⟩ := g_gd h
          have hb := inB_lt hg
          have ⟨_, hc1, h⟩ := b_some h
          have qhc1 := f12_push_s hc1
          exact Sl.trans (Sl.trans (Sl.rf _ _) (Sl.mono qhc1 (fun c hw => by unfold Vm12_push at hw; unfold Vm12_reckons; first | exact hw.elim | omega))) (ih _ _ h)
        · rcases g_if h with ⟨hq, h⟩ | ⟨hq, h⟩
          · have ⟨_, hc1, h⟩ := b_some h
            have qhc1 := f12_pop_s hc1
            have ⟨_, hc2, h⟩ := b_some h
            have qhc2 := f12_push_s hc2
            exact Sl.trans (Sl.trans (Sl.trans (Sl.rf _ _) (Sl.mono qhc1 (fun c hw => by unfold Vm12_pop at hw; unfold Vm12_reckons; first | exact hw.elim | omega))) (Sl.mono qhc2 (fun c hw => by unfold Vm12_push at hw; unfold Vm12_reckons; first | exact hw.elim | omega))) (ih _ _ h)
          · have ⟨_, hc1, h⟩ := b_some h
            have qhc1 := f12_pop_s hc1
            have ⟨_, hc2, h⟩ := b_some h
            have qhc2 := f12_pop_s hc2
            have ⟨_, hc3, h⟩ := b_some h
            have ⟨_, hc4, h⟩ := b_some h
            have qhc4 := f12_push_s hc4
            exact Sl.trans (Sl.trans (Sl.trans (Sl.trans (Sl.rf _ _) (Sl.mono qhc1 (fun c hw => by unfold Vm12_pop at hw; unfold Vm12_reckons; first | exact hw.elim | omega))) (Sl.mono qhc2 (fun c hw => by unfold Vm12_pop at hw; unfold Vm12_reckons; first | exact hw.elim | omega))) (Sl.mono qhc4 (fun c hw => by unfold Vm12_push at hw; unfold Vm12_reckons; first | exact hw.elim | omega))) (ih _ _ h)
set_option maxHeartbeats 1000000 in
theorem f12_reckons_s {F : Nat} {i1 : Int32} {i2 : Int32} {i3 : Int32} {σ : Mem} {r : Int64 × Mem} (h : m12_reckons F i1 i2 i3 σ = some r) : Sl (Vm12_reckons) σ r.2 := by
  unfold m12_reckons at h
  exact Sl.trans (Sl.at (Sl.rf _ _) (by unfold Vm12_reckons; omega)) (f12_reckons_s8 (F := F) F _ _ h)
def Vm12_force (c : Nat) : Prop := c = 21
set_option maxHeartbeats 1000000 in
theorem f12_force_s16 {F : Nat} {i1 : Int32} {r : Int32 × Mem} : ∀ (σ : Mem), m12_force_16 F i1 σ = some r → Sl (Vm12_force) σ r.2 := by
  intro σ h
  unfold m12_force_16 at h
  have e := Option.some.inj h
  subst e
  exact (Sl.at (Sl.rf _ _) (by unfold Vm12_force; omega))
set_option maxHeartbeats 1000000 in
theorem f12_force_s {F : Nat} {i1 : Int32} {σ : Mem} {r : Int32 × Mem} (h : m12_force F i1 σ = some r) : Sl (Vm12_force) σ r.2 := by
  unfold m12_force at h
  rcases g_if h with ⟨hq, h⟩ | ⟨hq, h⟩
  · exact Sl.trans (Sl.rf _ _) (f12_force_s16 (F := F) _ h)
  · have ⟨_, hc1, h⟩ := b_some h
    rcases g_if h with ⟨hq, h⟩ | ⟨hq, h⟩
    · have e := Option.some.inj h
      subst e
      exact (Sl.rf _ _)
    · exact Sl.trans (Sl.rf _ _) (f12_force_s16 (F := F) _ h)
def Vm12_words (c : Nat) : Prop := False
set_option maxHeartbeats 1000000 in
theorem f12_words_s45 {F : Nat} {i1 : Int32} {r : Mem} : ∀ (x2 : Int32) (s1 : Int32) (s2 : Int64) (σ : Mem), m12_words_45 F i1 x2 s1 s2 σ = some r → Sl (Vm12_words) σ r := by
  intro x2 s1 s2 σ h
  unfold m12_words_45 at h
  have ⟨hg, h⟩ := g_gd h
  have hb := inB_lt hg
  have ⟨_, hc1, h⟩ := b_some h
  have ⟨hg, h⟩ := g_gd h
  have hb := inB_lt hg
  have ⟨_, hc2, h⟩ := b_some h
  have ⟨hg, h⟩ := g_gd h
  have hb := inB_lt hg
  have ⟨_, hc3, h⟩ := b_some h
  have ⟨hg, h⟩ := g_gd h
  have hb := inB_lt hg
  have ⟨_, hc4, h⟩ := b_some h
  have ⟨hg, h⟩ := g_gd h
  have hb := inB_lt hg
  have ⟨hg, h⟩ := g_gd h
  have hb := inB_lt hg
  have ⟨hg, h⟩ := g_gd h
  have hb := inB_lt hg
  have ⟨_, hc5, h⟩ := b_some h
  have ⟨hg, h⟩ := g_gd h
  have hb := inB_lt hg
  have ⟨_, hc6, h⟩ := b_some h
  have ⟨hg, h⟩ := g_gd h
  have hb := inB_lt hg
  have ⟨_, hc7, h⟩ := b_some h
  have ⟨hg, h⟩ := g_gd h
  have hb := inB_lt hg
  have ⟨hg, h⟩ := g_gd h
  have hb := inB_lt hg
  have ⟨_, hc8, h⟩ := b_some h
  have ⟨hg, h⟩ := g_gd h
  have hb := inB_lt hg
  have ⟨_, hc9, h⟩ := b_some h
  have ⟨hg, h⟩ := g_gd h
  have hb := inB_lt hg
  have e := Option.some.inj h
  subst e
  exact (Sl.sL (Sl.sL (Sl.sL (Sl.sL (Sl.sL (Sl.sL (Sl.sL (Sl.sL (Sl.sL (Sl.sL (Sl.sL (Sl.rf _ _))))))))))))
set_option maxHeartbeats 1000000 in
theorem f12_words_s {F : Nat} {i1 : Int32} {σ : Mem} {r : Mem} (h : m12_words F i1 σ = some r) : Sl (Vm12_words) σ r := by
  unfold m12_words at h
  have ⟨_, hc1, h⟩ := b_some h
  have ⟨hg, h⟩ := g_gd h
  have hb := inB_lt hg
  have ⟨_, hc2, h⟩ := b_some h
  have ⟨hg, h⟩ := g_gd h
  have hb := inB_lt hg
  have ⟨_, hc3, h⟩ := b_some h
  rcases g_if h with ⟨hq, h⟩ | ⟨hq, h⟩
  · exact Sl.trans (Sl.sL (Sl.sL (Sl.rf _ _))) (f12_words_s45 (F := F) _ _ _ _ h)
  · exact Sl.trans (Sl.sL (Sl.sL (Sl.rf _ _))) (f12_words_s45 (F := F) _ _ _ _ h)
def Vm12_summedBy (c : Nat) : Prop := c = 18
set_option maxHeartbeats 1000000 in
theorem f12_summedBy_s58 {F : Nat} {i1 : Int32} {r : Int64 × Mem} : ∀ (x3 : Int32) (σ : Mem), m12_summedBy_58 F i1 x3 σ = some r → Sl (Vm12_summedBy) σ r.2 := by
  intro x3 σ h
  unfold m12_summedBy_58 at h
  have ⟨hg, h⟩ := g_gd h
  have hb := inB_lt hg
  have ⟨hg, h⟩ := g_gd h
  have hb := inB_lt hg
  have ⟨_, hc1, h⟩ := b_some h
  have qhc1 := f12_reckons_s hc1
  have e := Option.some.inj h
  subst e
  exact (Sl.trans (Sl.rf _ _) (Sl.mono qhc1 (fun c hw => by unfold Vm12_reckons at hw; unfold Vm12_summedBy; first | exact hw.elim | omega)))
set_option maxHeartbeats 1000000 in
theorem f12_summedBy_s2 {F : Nat} {i1 : Int32} {r : Int64 × Mem} : ∀ (n : Nat) (x2 : Int32) (σ : Mem), m12_summedBy_2 F i1 n x2 σ = some r → Sl (Vm12_summedBy) σ r.2 := by
  intro n
  induction n with
  | zero => intro x2 σ h; unfold m12_summedBy_2 at h; cases h
  | succ n ih =>
    intro x2 σ h
    unfold m12_summedBy_2 at h
    have ⟨hg, h⟩ := g_gd h
    have hb := inB_lt hg
    rcases g_if h with ⟨hq, h⟩ | ⟨hq, h⟩
    · have e := Option.some.inj h
      subst e
      exact (Sl.rf _ _)
    · have ⟨hg, h⟩ := g_gd h
      have hb := inB_lt hg
      rcases g_if h with ⟨hq, h⟩ | ⟨hq, h⟩
      · exact Sl.trans (Sl.rf _ _) (f12_summedBy_s58 (F := F) _ _ h)
      · have ⟨hg, h⟩ := g_gd h
        have hb := inB_lt hg
        have ⟨hg, h⟩ := g_gd h
        have hb := inB_lt hg
        have ⟨_, hc1, h⟩ := b_some h
        have qhc1 := f12_reckons_s hc1
        rcases g_if h with ⟨hq, h⟩ | ⟨hq, h⟩
        · exact Sl.trans (Sl.trans (Sl.rf _ _) (Sl.mono qhc1 (fun c hw => by unfold Vm12_reckons at hw; unfold Vm12_summedBy; first | exact hw.elim | omega))) (f12_summedBy_s58 (F := F) _ _ h)
        · exact Sl.trans (Sl.trans (Sl.rf _ _) (Sl.mono qhc1 (fun c hw => by unfold Vm12_reckons at hw; unfold Vm12_summedBy; first | exact hw.elim | omega))) (ih _ _ h)
set_option maxHeartbeats 1000000 in
theorem f12_summedBy_s {F : Nat} {i1 : Int32} {σ : Mem} {r : Int64 × Mem} (h : m12_summedBy F i1 σ = some r) : Sl (Vm12_summedBy) σ r.2 := by
  unfold m12_summedBy at h
  exact Sl.trans (Sl.rf _ _) (f12_summedBy_s2 (F := F) F _ _ h)
def Vm12_willsStrike (c : Nat) : Prop := c = 18
set_option maxHeartbeats 1000000 in
theorem f12_willsStrike_s {F : Nat} {i1 : Int32} {σ : Mem} {r : Int32 × Mem} (h : m12_willsStrike F i1 σ = some r) : Sl (Vm12_willsStrike) σ r.2 := by
  unfold m12_willsStrike at h
  have ⟨_, hc1, h⟩ := b_some h
  rcases g_if h with ⟨hq, h⟩ | ⟨hq, h⟩
  · rcases g_if h with ⟨hq, h⟩ | ⟨hq, h⟩
    · rcases g_if h with ⟨hq, h⟩ | ⟨hq, h⟩
      · have ⟨_, hc2, h⟩ := b_some h
        have qhc2 := f12_words_s hc2
        have ⟨_, hc3, h⟩ := b_some h
        have qhc3 := f12_summedBy_s hc3
        rcases g_if h with ⟨hq, h⟩ | ⟨hq, h⟩
        · have e := Option.some.inj h
          subst e
          exact (Sl.trans (Sl.trans (Sl.rf _ _) (Sl.mono qhc2 (fun c hw => by unfold Vm12_words at hw; unfold Vm12_willsStrike; first | exact hw.elim | omega))) (Sl.mono qhc3 (fun c hw => by unfold Vm12_summedBy at hw; unfold Vm12_willsStrike; first | exact hw.elim | omega)))
        · have e := Option.some.inj h
          subst e
          exact (Sl.trans (Sl.trans (Sl.rf _ _) (Sl.mono qhc2 (fun c hw => by unfold Vm12_words at hw; unfold Vm12_willsStrike; first | exact hw.elim | omega))) (Sl.mono qhc3 (fun c hw => by unfold Vm12_summedBy at hw; unfold Vm12_willsStrike; first | exact hw.elim | omega)))
      · have ⟨_, hc2, h⟩ := b_some h
        have ⟨hg, h⟩ := g_gd h
        have e := Option.some.inj h
        subst e
        exact (Sl.rf _ _)
    · have ⟨_, hc2, h⟩ := b_some h
      have ⟨hg, h⟩ := g_gd h
      have e := Option.some.inj h
      subst e
      exact (Sl.rf _ _)
  · have e := Option.some.inj h
    subst e
    exact (Sl.rf _ _)
def Vm12_takesTurns (c : Nat) : Prop := c = 18 ∨ c = 32
set_option maxHeartbeats 1000000 in
theorem f12_takesTurns_s141 {F : Nat} {r : Mem} {k87 : Int32 → Int32 → Mem → Option (Mem)} (hk87 : ∀ (x1 : Int32) (x2 : Int32) (σ : Mem), k87 x1 x2 σ = some r → Sl (Vm12_takesTurns) σ r) : ∀ (n : Nat) (x1 : Int32) (x2 : Int32) (x3 : Int32) (x4 : Int32) (σ : Mem), m12_takesTurns_141 F k87 n x1 x2 x3 x4 σ = some r → Sl (Vm12_takesTurns) σ r := by
  intro n
  induction n with
  | zero => intro x1 x2 x3 x4 σ h; unfold m12_takesTurns_141 at h; cases h
  | succ n ih =>
    intro x1 x2 x3 x4 σ h
    unfold m12_takesTurns_141 at h
    rcases g_if h with ⟨hq, h⟩ | ⟨hq, h⟩
    · exact Sl.trans (Sl.rf _ _) (hk87 _ _ _ h)
    · have ⟨_, hc1, h⟩ := b_some h
      rcases g_if h with ⟨hq, h⟩ | ⟨hq, h⟩
      · exact Sl.trans (Sl.rf _ _) (ih _ _ _ _ _ h)
      · have ⟨hg, h⟩ := g_gd h
        have hb := inB_lt hg
        exact Sl.trans (Sl.ne (Sl.rf _ _) (by decide)) (ih _ _ _ _ _ h)
set_option maxHeartbeats 1000000 in
theorem f12_takesTurns_s87 {F : Nat} {r : Mem} : ∀ (n : Nat) (x1 : Int32) (x2 : Int32) (σ : Mem), m12_takesTurns_87 F n x1 x2 σ = some r → Sl (Vm12_takesTurns) σ r := by
  intro n
  induction n with
  | zero => intro x1 x2 σ h; unfold m12_takesTurns_87 at h; cases h
  | succ n ih =>
    intro x1 x2 σ h
    unfold m12_takesTurns_87 at h
    have ⟨hg, h⟩ := g_gd h
    have hb := inB_lt hg
    rcases g_if h with ⟨hq, h⟩ | ⟨hq, h⟩
    · have e := Option.some.inj h
      subst e
      exact (Sl.rf _ _)
    · have ⟨hg, h⟩ := g_gd h
      have hb := inB_lt hg
      rcases g_if h with ⟨hq, h⟩ | ⟨hq, h⟩
      · exact Sl.trans (Sl.rf _ _) (ih _ _ _ h)
      · have ⟨_, hc1, h⟩ := b_some h
        have ⟨_, hc2, h⟩ := b_some h
        rcases g_if h with ⟨hq, h⟩ | ⟨hq, h⟩
        · have ⟨hg, h⟩ := g_gd h
          have hb := inB_lt hg
          exact Sl.trans (Sl.ne (Sl.rf _ _) (by decide)) (f12_takesTurns_s141 (F := F) (fun _ _ _ h => (ih _ _ _ h)) F _ _ _ _ _ h)
        · rcases g_if h with ⟨hq, h⟩ | ⟨hq, h⟩
          · exact Sl.trans (Sl.rf _ _) (ih _ _ _ h)
          · rcases g_if h with ⟨hq, h⟩ | ⟨hq, h⟩
            · rcases g_if h with ⟨hq, h⟩ | ⟨hq, h⟩
              · have ⟨hg, h⟩ := g_gd h
                have hb := inB_lt hg
                exact Sl.trans (Sl.at (Sl.ne (Sl.rf _ _) (by decide)) (by unfold Vm12_takesTurns; omega)) (ih _ _ _ h)
              · exact Sl.trans (Sl.rf _ _) (ih _ _ _ h)
            · exact Sl.trans (Sl.rf _ _) (ih _ _ _ h)
set_option maxHeartbeats 1000000 in
theorem f12_takesTurns_s67 {F : Nat} {r : Mem} : ∀ (n : Nat) (x1 : Int32) (x2 : Int32) (σ : Mem), m12_takesTurns_67 F n x1 x2 σ = some r → Sl (Vm12_takesTurns) σ r := by
  intro n
  induction n with
  | zero => intro x1 x2 σ h; unfold m12_takesTurns_67 at h; cases h
  | succ n ih =>
    intro x1 x2 σ h
    unfold m12_takesTurns_67 at h
    rcases g_if h with ⟨hq, h⟩ | ⟨hq, h⟩
    · exact Sl.trans (Sl.rf _ _) (f12_takesTurns_s87 (F := F) F _ _ _ h)
    · have ⟨hg, h⟩ := g_gd h
      have hb := inB_lt hg
      exact Sl.trans (Sl.ne (Sl.rf _ _) (by decide)) (ih _ _ _ h)
set_option maxHeartbeats 1000000 in
theorem f12_takesTurns_s29 {F : Nat} {r : Mem} : ∀ (n : Nat) (x1 : Int32) (x2 : Int32) (σ : Mem), m12_takesTurns_29 F n x1 x2 σ = some r → Sl (Vm12_takesTurns) σ r := by
  intro n
  induction n with
  | zero => intro x1 x2 σ h; unfold m12_takesTurns_29 at h; cases h
  | succ n ih =>
    intro x1 x2 σ h
    unfold m12_takesTurns_29 at h
    have ⟨hg, h⟩ := g_gd h
    have hb := inB_lt hg
    rcases g_if h with ⟨hq, h⟩ | ⟨hq, h⟩
    · exact Sl.trans (Sl.rf _ _) (f12_takesTurns_s67 (F := F) F _ _ _ h)
    · have ⟨_, hc1, h⟩ := b_some h
      have qhc1 := f12_willsStrike_s hc1
      rcases g_if h with ⟨hq, h⟩ | ⟨hq, h⟩
      · have ⟨hg, h⟩ := g_gd h
        have hb := inB_lt hg
        exact Sl.trans (Sl.ne (Sl.trans (Sl.rf _ _) (Sl.mono qhc1 (fun c hw => by unfold Vm12_willsStrike at hw; unfold Vm12_takesTurns; first | exact hw.elim | omega))) (by decide)) (ih _ _ _ h)
      · have ⟨hg, h⟩ := g_gd h
        have hb := inB_lt hg
        exact Sl.trans (Sl.ne (Sl.trans (Sl.rf _ _) (Sl.mono qhc1 (fun c hw => by unfold Vm12_willsStrike at hw; unfold Vm12_takesTurns; first | exact hw.elim | omega))) (by decide)) (ih _ _ _ h)
set_option maxHeartbeats 1000000 in
theorem f12_takesTurns_s {F : Nat} {σ : Mem} {r : Mem} (h : m12_takesTurns F  σ = some r) : Sl (Vm12_takesTurns) σ r := by
  unfold m12_takesTurns at h
  have ⟨_, hc1, h⟩ := b_some h
  have ⟨hg, h⟩ := g_gd h
  have hb := inB_lt hg
  rcases g_if h with ⟨hq, h⟩ | ⟨hq, h⟩
  · exact Sl.trans (Sl.at (Sl.rf _ _) (by unfold Vm12_takesTurns; omega)) (f12_takesTurns_s29 (F := F) F _ _ _ h)
  · exact Sl.trans (Sl.at (Sl.rf _ _) (by unfold Vm12_takesTurns; omega)) (f12_takesTurns_s29 (F := F) F _ _ _ h)
def Vm12_heats (c : Nat) : Prop := False
set_option maxHeartbeats 1000000 in
theorem f12_heats_s {F : Nat} {i1 : Int32} {i2 : Int32} {σ : Mem} {r : Mem} (h : m12_heats F i1 i2 σ = some r) : Sl (Vm12_heats) σ r := by
  unfold m12_heats at h
  rcases g_if h with ⟨hq, h⟩ | ⟨hq, h⟩
  · have ⟨hg, h⟩ := g_gd h
    have hb := inB_lt hg
    have ⟨hg, h⟩ := g_gd h
    have hb := inB_lt hg
    have ⟨hg, h⟩ := g_gd h
    have hb := inB_lt hg
    have ⟨hg, h⟩ := g_gd h
    have hb := inB_lt hg
    have ⟨hg, h⟩ := g_gd h
    have hb := inB_lt hg
    rcases g_if h with ⟨hq, h⟩ | ⟨hq, h⟩
    · have ⟨hg, h⟩ := g_gd h
      have hb := inB_lt hg
      rcases g_if h with ⟨hq, h⟩ | ⟨hq, h⟩
      · have ⟨hg, h⟩ := g_gd h
        have hb := inB_lt hg
        have ⟨hg, h⟩ := g_gd h
        have hb := inB_lt hg
        have ⟨_, hc1, h⟩ := b_some h
        have ⟨hg, h⟩ := g_gd h
        have hb := inB_lt hg
        have e := Option.some.inj h
        subst e
        exact (Sl.ne (Sl.ne (Sl.ne (Sl.ne (Sl.rf _ _) (by decide)) (by decide)) (by decide)) (by decide))
      · have e := Option.some.inj h
        subst e
        exact (Sl.ne (Sl.ne (Sl.rf _ _) (by decide)) (by decide))
    · have e := Option.some.inj h
      subst e
      exact (Sl.ne (Sl.rf _ _) (by decide))
  · have e := Option.some.inj h
    subst e
    exact (Sl.rf _ _)
def Vm12_strikes (c : Nat) : Prop := False
set_option maxHeartbeats 1000000 in
theorem f12_strikes_s70 {F : Nat} {i1 : Int32} {i2 : Int32} {i3 : Int32} {r : Mem} : ∀ (x4 : Int32) (σ : Mem), m12_strikes_70 F i1 i2 i3 x4 σ = some r → Sl (Vm12_strikes) σ r := by
  intro x4 σ h
  unfold m12_strikes_70 at h
  have ⟨_, hc1, h⟩ := b_some h
  rcases g_if h with ⟨hq, h⟩ | ⟨hq, h⟩
  · have ⟨hg, h⟩ := g_gd h
    have hb := inB_lt hg
    have ⟨hg, h⟩ := g_gd h
    have hb := inB_lt hg
    have ⟨hg, h⟩ := g_gd h
    have hb := inB_lt hg
    have ⟨hg, h⟩ := g_gd h
    have hb := inB_lt hg
    have ⟨hg, h⟩ := g_gd h
    have hb := inB_lt hg
    have ⟨hg, h⟩ := g_gd h
    have hb := inB_lt hg
    have ⟨_, hc2, h⟩ := b_some h
    have ⟨hg, h⟩ := g_gd h
    have hb := inB_lt hg
    have e := Option.some.inj h
    subst e
    exact (Sl.ne (Sl.ne (Sl.ne (Sl.ne (Sl.rf _ _) (by decide)) (by decide)) (by decide)) (by decide))
  · have e := Option.some.inj h
    subst e
    exact (Sl.rf _ _)
set_option maxHeartbeats 1000000 in
theorem f12_strikes_s23 {F : Nat} {i1 : Int32} {i2 : Int32} {i3 : Int32} {r : Mem} : ∀ (x4 : Int32) (σ : Mem), m12_strikes_23 F i1 i2 i3 x4 σ = some r → Sl (Vm12_strikes) σ r := by
  intro x4 σ h
  unfold m12_strikes_23 at h
  rcases g_if h with ⟨hq, h⟩ | ⟨hq, h⟩
  · rcases g_if h with ⟨hq, h⟩ | ⟨hq, h⟩
    · have ⟨hg, h⟩ := g_gd h
      have hb := inB_lt hg
      have ⟨hg, h⟩ := g_gd h
      have hb := inB_lt hg
      exact Sl.trans (Sl.ne (Sl.rf _ _) (by decide)) (f12_strikes_s70 (F := F) _ _ h)
    · have ⟨hg, h⟩ := g_gd h
      have hb := inB_lt hg
      have ⟨hg, h⟩ := g_gd h
      have hb := inB_lt hg
      exact Sl.trans (Sl.ne (Sl.rf _ _) (by decide)) (f12_strikes_s70 (F := F) _ _ h)
  · have e := Option.some.inj h
    subst e
    exact (Sl.rf _ _)
set_option maxHeartbeats 1000000 in
theorem f12_strikes_s {F : Nat} {i1 : Int32} {i2 : Int32} {i3 : Int32} {σ : Mem} {r : Mem} (h : m12_strikes F i1 i2 i3 σ = some r) : Sl (Vm12_strikes) σ r := by
  unfold m12_strikes at h
  rcases g_if h with ⟨hq, h⟩ | ⟨hq, h⟩
  · exact Sl.trans (Sl.rf _ _) (f12_strikes_s23 (F := F) _ _ h)
  · have ⟨hg, h⟩ := g_gd h
    have hb := inB_lt hg
    have ⟨hg, h⟩ := g_gd h
    have hb := inB_lt hg
    exact Sl.trans (Sl.ne (Sl.rf _ _) (by decide)) (f12_strikes_s23 (F := F) _ _ h)
def Vm12_goesOn (c : Nat) : Prop := False
set_option maxHeartbeats 1000000 in
theorem f12_goesOn_s123 {F : Nat} {i1 : Int32} {r : Mem} : ∀ (x2 : Int32) (x4 : Int32) (s1 : Int32) (s2 : Int32) (σ : Mem), m12_goesOn_123 F i1 x2 x4 s1 s2 σ = some r → Sl (Vm12_goesOn) σ r := by
  intro x2 x4 s1 s2 σ h
  unfold m12_goesOn_123 at h
  have ⟨hg, h⟩ := g_gd h
  have hb := inB_lt hg
  have ⟨hg, h⟩ := g_gd h
  have hb := inB_lt hg
  rcases g_if h with ⟨hq, h⟩ | ⟨hq, h⟩
  · have e := Option.some.inj h
    subst e
    exact (Sl.ne (Sl.rf _ _) (by decide))
  · have ⟨_, hc1, h⟩ := b_some h
    have qhc1 := f12_strikes_s hc1
    have e := Option.some.inj h
    subst e
    exact (Sl.trans (Sl.ne (Sl.rf _ _) (by decide)) (Sl.mono qhc1 (fun c hw => by unfold Vm12_strikes at hw; unfold Vm12_goesOn; first | exact hw.elim | omega)))
set_option maxHeartbeats 1000000 in
theorem f12_goesOn_s56 {F : Nat} {i1 : Int32} {r : Mem} : ∀ (x2 : Int32) (x3 : Int32) (σ : Mem), m12_goesOn_56 F i1 x2 x3 σ = some r → Sl (Vm12_goesOn) σ r := by
  intro x2 x3 σ h
  unfold m12_goesOn_56 at h
  rcases g_if h with ⟨hq, h⟩ | ⟨hq, h⟩
  · have ⟨hg, h⟩ := g_gd h
    have hb := inB_lt hg
    rcases g_if h with ⟨hq, h⟩ | ⟨hq, h⟩
    · have ⟨_, hc1, h⟩ := b_some h
      have qhc1 := f12_heats_s hc1
      have e := Option.some.inj h
      subst e
      exact (Sl.trans (Sl.rf _ _) (Sl.mono qhc1 (fun c hw => by unfold Vm12_heats at hw; unfold Vm12_goesOn; first | exact hw.elim | omega)))
    · have ⟨_, hc1, h⟩ := b_some h
      have ⟨hg, h⟩ := g_gd h
      have hb := inB_lt hg
      have ⟨hg, h⟩ := g_gd h
      have hb := inB_lt hg
      rcases g_if h with ⟨hq, h⟩ | ⟨hq, h⟩
      · have ⟨hg, h⟩ := g_gd h
        have hb := inB_lt hg
        have ⟨hg, h⟩ := g_gd h
        have hb := inB_lt hg
        exact Sl.trans (Sl.rf _ _) (f12_goesOn_s123 (F := F) _ _ _ _ _ h)
      · exact Sl.trans (Sl.rf _ _) (f12_goesOn_s123 (F := F) _ _ _ _ _ h)
  · have e := Option.some.inj h
    subst e
    exact (Sl.rf _ _)
set_option maxHeartbeats 1000000 in
theorem f12_goesOn_s55 {F : Nat} {i1 : Int32} {r : Mem} {k56 : Int32 → Int32 → Mem → Option (Mem)} (hk56 : ∀ (x2 : Int32) (x3 : Int32) (σ : Mem), k56 x2 x3 σ = some r → Sl (Vm12_goesOn) σ r) : ∀ (x2 : Int32) (x3 : Int32) (s1 : Int32) (s2 : Int32) (σ : Mem), m12_goesOn_55 F i1 k56 x2 x3 s1 s2 σ = some r → Sl (Vm12_goesOn) σ r := by
  intro x2 x3 s1 s2 σ h
  unfold m12_goesOn_55 at h
  have ⟨hg, h⟩ := g_gd h
  have hb := inB_lt hg
  exact Sl.trans (Sl.ne (Sl.rf _ _) (by decide)) (hk56 _ _ _ h)
set_option maxHeartbeats 1000000 in
theorem f12_goesOn_s54 {F : Nat} {i1 : Int32} {r : Mem} {k55 : Int32 → Int32 → Int32 → Int32 → Mem → Option (Mem)} (hk55 : ∀ (x2 : Int32) (x3 : Int32) (s1 : Int32) (s2 : Int32) (σ : Mem), k55 x2 x3 s1 s2 σ = some r → Sl (Vm12_goesOn) σ r) : ∀ (x2 : Int32) (x3 : Int32) (s1 : Int32) (σ : Mem), m12_goesOn_54 F i1 k55 x2 x3 s1 σ = some r → Sl (Vm12_goesOn) σ r := by
  intro x2 x3 s1 σ h
  unfold m12_goesOn_54 at h
  exact Sl.trans (Sl.rf _ _) (hk55 _ _ _ _ _ h)
set_option maxHeartbeats 1000000 in
theorem f12_goesOn_s {F : Nat} {i1 : Int32} {σ : Mem} {r : Mem} (h : m12_goesOn F i1 σ = some r) : Sl (Vm12_goesOn) σ r := by
  unfold m12_goesOn at h
  have ⟨_, hc1, h⟩ := b_some h
  rcases g_if h with ⟨hq, h⟩ | ⟨hq, h⟩
  · rcases g_if h with ⟨hq, h⟩ | ⟨hq, h⟩
    · exact Sl.trans (Sl.rf _ _) (f12_goesOn_s54 (F := F) (fun _ _ _ _ _ h => (f12_goesOn_s55 (F := F) (fun _ _ _ h => (f12_goesOn_s56 (F := F) _ _ _ h)) _ _ _ _ _ h)) _ _ _ _ h)
    · have ⟨hg, h⟩ := g_gd h
      have hb := inB_lt hg
      rcases g_if h with ⟨hq, h⟩ | ⟨hq, h⟩
      · have ⟨hg, h⟩ := g_gd h
        have hb := inB_lt hg
        exact Sl.trans (Sl.rf _ _) (f12_goesOn_s55 (F := F) (fun _ _ _ h => (f12_goesOn_s56 (F := F) _ _ _ h)) _ _ _ _ _ h)
      · exact Sl.trans (Sl.rf _ _) (f12_goesOn_s54 (F := F) (fun _ _ _ _ _ h => (f12_goesOn_s55 (F := F) (fun _ _ _ h => (f12_goesOn_s56 (F := F) _ _ _ h)) _ _ _ _ _ h)) _ _ _ _ h)
  · exact Sl.trans (Sl.rf _ _) (f12_goesOn_s56 (F := F) _ _ _ h)
def Vm12_wears (c : Nat) : Prop := c = 27
set_option maxHeartbeats 1000000 in
theorem f12_wears_s52 {F : Nat} {r : Mem} : ∀ (n : Nat) (x1 : Int32) (σ : Mem), m12_wears_52 F n x1 σ = some r → Sl (Vm12_wears) σ r := by
  intro n
  induction n with
  | zero => intro x1 σ h; unfold m12_wears_52 at h; cases h
  | succ n ih =>
    intro x1 σ h
    unfold m12_wears_52 at h
    have ⟨hg, h⟩ := g_gd h
    have hb := inB_lt hg
    rcases g_if h with ⟨hq, h⟩ | ⟨hq, h⟩
    · have e := Option.some.inj h
      subst e
      exact (Sl.rf _ _)
    · have ⟨hg, h⟩ := g_gd h
      have hb := inB_lt hg
      rcases g_if h with ⟨hq, h⟩ | ⟨hq, h⟩
      · exact Sl.trans (Sl.at (Sl.rf _ _) (by unfold Vm12_wears; omega)) (ih _ _ h)
      · exact Sl.trans (Sl.at (Sl.rf _ _) (by unfold Vm12_wears; omega)) (ih _ _ h)
set_option maxHeartbeats 1000000 in
theorem f12_wears_s2 {F : Nat} {r : Mem} : ∀ (n : Nat) (x1 : Int32) (σ : Mem), m12_wears_2 F n x1 σ = some r → Sl (Vm12_wears) σ r := by
  intro n
  induction n with
  | zero => intro x1 σ h; unfold m12_wears_2 at h; cases h
  | succ n ih =>
    intro x1 σ h
    unfold m12_wears_2 at h
    rcases g_if h with ⟨hq, h⟩ | ⟨hq, h⟩
    · exact Sl.trans (Sl.rf _ _) (f12_wears_s52 (F := F) F _ _ h)
    · have ⟨hg, h⟩ := g_gd h
      have hb := inB_lt hg
      rcases g_if h with ⟨hq, h⟩ | ⟨hq, h⟩
      · exact Sl.trans (Sl.rf _ _) (ih _ _ h)
      · have ⟨hg, h⟩ := g_gd h
        have hb := inB_lt hg
        rcases g_if h with ⟨hq, h⟩ | ⟨hq, h⟩
        · exact Sl.trans (Sl.rf _ _) (ih _ _ h)
        · have ⟨hg, h⟩ := g_gd h
          have hb := inB_lt hg
          have ⟨hg, h⟩ := g_gd h
          have hb := inB_lt hg
          exact Sl.trans (Sl.ne (Sl.rf _ _) (by decide)) (ih _ _ h)
set_option maxHeartbeats 1000000 in
theorem f12_wears_s {F : Nat} {σ : Mem} {r : Mem} (h : m12_wears F  σ = some r) : Sl (Vm12_wears) σ r := by
  unfold m12_wears at h
  exact Sl.trans (Sl.rf _ _) (f12_wears_s2 (F := F) F _ _ h)
def Vm12_passes (c : Nat) : Prop := c = 18 ∨ c = 27 ∨ c = 32
set_option maxHeartbeats 1000000 in
theorem f12_passes_s8 {F : Nat} {r : Int32 × Mem} : ∀ (n : Nat) (x1 : Int32) (x2 : Int32) (σ : Mem), m12_passes_8 F n x1 x2 σ = some r → Sl (Vm12_passes) σ r.2 := by
  intro n
  induction n with
  | zero => intro x1 x2 σ h; unfold m12_passes_8 at h; cases h
  | succ n ih =>
    intro x1 x2 σ h
    unfold m12_passes_8 at h
    have ⟨hg, h⟩ := g_gd h
    have hb := inB_lt hg
    rcases g_if h with ⟨hq, h⟩ | ⟨hq, h⟩
    · rcases g_if h with ⟨hq, h⟩ | ⟨hq, h⟩
      · have ⟨_, hc1, h⟩ := b_some h
        have qhc1 := f12_wears_s hc1
        have ⟨hg, h⟩ := g_gd h
        have hb := inB_lt hg
        have ⟨hg, h⟩ := g_gd h
        have hb := inB_lt hg
        have e := Option.some.inj h
        subst e
        exact (Sl.ne (Sl.trans (Sl.rf _ _) (Sl.mono qhc1 (fun c hw => by unfold Vm12_wears at hw; unfold Vm12_passes; first | exact hw.elim | omega))) (by decide))
      · have e := Option.some.inj h
        subst e
        exact (Sl.rf _ _)
    · have ⟨hg, h⟩ := g_gd h
      have hb := inB_lt hg
      have ⟨_, hc1, h⟩ := b_some h
      have qhc1 := f12_goesOn_s hc1
      have ⟨hg, h⟩ := g_gd h
      have hb := inB_lt hg
      exact Sl.trans (Sl.trans (Sl.ne (Sl.rf _ _) (by decide)) (Sl.mono qhc1 (fun c hw => by unfold Vm12_goesOn at hw; unfold Vm12_passes; first | exact hw.elim | omega))) (ih _ _ _ h)
set_option maxHeartbeats 1000000 in
theorem f12_passes_s {F : Nat} {σ : Mem} {r : Int32 × Mem} (h : m12_passes F  σ = some r) : Sl (Vm12_passes) σ r.2 := by
  unfold m12_passes at h
  have ⟨_, hc1, h⟩ := b_some h
  have qhc1 := f12_takesTurns_s hc1
  exact Sl.trans (Sl.trans (Sl.rf _ _) (Sl.mono qhc1 (fun c hw => by unfold Vm12_takesTurns at hw; unfold Vm12_passes; first | exact hw.elim | omega))) (f12_passes_s8 (F := F) F _ _ _ h)
def Vm12_keepsAct (c : Nat) : Prop := c = 34
set_option maxHeartbeats 1000000 in
theorem f12_keepsAct_s52 {F : Nat} {r : Mem} : ∀ (n : Nat) (x1 : Int32) (σ : Mem), m12_keepsAct_52 F n x1 σ = some r → Sl (Vm12_keepsAct) σ r := by
  intro n
  induction n with
  | zero => intro x1 σ h; unfold m12_keepsAct_52 at h; cases h
  | succ n ih =>
    intro x1 σ h
    unfold m12_keepsAct_52 at h
    rcases g_if h with ⟨hq, h⟩ | ⟨hq, h⟩
    · have e := Option.some.inj h
      subst e
      exact (Sl.at (Sl.rf _ _) (by unfold Vm12_keepsAct; omega))
    · have ⟨hg, h⟩ := g_gd h
      have hb := inB_lt hg
      have ⟨hg, h⟩ := g_gd h
      have hb := inB_lt hg
      exact Sl.trans (Sl.ne (Sl.rf _ _) (by decide)) (ih _ _ h)
set_option maxHeartbeats 1000000 in
theorem f12_keepsAct_s12 {F : Nat} {r : Mem} {k52 : Int32 → Mem → Option (Mem)} (hk52 : ∀ (x1 : Int32) (σ : Mem), k52 x1 σ = some r → Sl (Vm12_keepsAct) σ r) : ∀ (n : Nat) (x1 : Int32) (σ : Mem), m12_keepsAct_12 F k52 n x1 σ = some r → Sl (Vm12_keepsAct) σ r := by
  intro n
  induction n with
  | zero => intro x1 σ h; unfold m12_keepsAct_12 at h; cases h
  | succ n ih =>
    intro x1 σ h
    unfold m12_keepsAct_12 at h
    rcases g_if h with ⟨hq, h⟩ | ⟨hq, h⟩
    · exact Sl.trans (Sl.at (Sl.rf _ _) (by unfold Vm12_keepsAct; omega)) (hk52 _ _ h)
    · have ⟨hg, h⟩ := g_gd h
      have hb := inB_lt hg
      have ⟨hg, h⟩ := g_gd h
      have hb := inB_lt hg
      exact Sl.trans (Sl.ne (Sl.rf _ _) (by decide)) (ih _ _ h)
set_option maxHeartbeats 1000000 in
theorem f12_keepsAct_s {F : Nat} {σ : Mem} {r : Mem} (h : m12_keepsAct F  σ = some r) : Sl (Vm12_keepsAct) σ r := by
  unfold m12_keepsAct at h
  rcases g_if h with ⟨hq, h⟩ | ⟨hq, h⟩
  · exact Sl.trans (Sl.rf _ _) (f12_keepsAct_s12 (F := F) (fun _ _ h => (f12_keepsAct_s52 (F := F) F _ _ h)) F _ _ h)
  · exact Sl.trans (Sl.rf _ _) (f12_keepsAct_s52 (F := F) F _ _ h)
def Vm12_undo (c : Nat) : Prop := c = 34
set_option maxHeartbeats 1000000 in
theorem f12_undo_s21 {F : Nat} {r : Int32 × Mem} : ∀ (n : Nat) (x1 : Int32) (σ : Mem), m12_undo_21 F n x1 σ = some r → Sl (Vm12_undo) σ r.2 := by
  intro n
  induction n with
  | zero => intro x1 σ h; unfold m12_undo_21 at h; cases h
  | succ n ih =>
    intro x1 σ h
    unfold m12_undo_21 at h
    rcases g_if h with ⟨hq, h⟩ | ⟨hq, h⟩
    · have e := Option.some.inj h
      subst e
      exact (Sl.rf _ _)
    · have ⟨hg, h⟩ := g_gd h
      have hb := inB_lt hg
      have ⟨hg, h⟩ := g_gd h
      have hb := inB_lt hg
      exact Sl.trans (Sl.ne (Sl.rf _ _) (by decide)) (ih _ _ h)
set_option maxHeartbeats 1000000 in
theorem f12_undo_s {F : Nat} {σ : Mem} {r : Int32 × Mem} (h : m12_undo F  σ = some r) : Sl (Vm12_undo) σ r.2 := by
  unfold m12_undo at h
  rcases g_if h with ⟨hq, h⟩ | ⟨hq, h⟩
  · have e := Option.some.inj h
    subst e
    exact (Sl.rf _ _)
  · exact Sl.trans (Sl.at (Sl.rf _ _) (by unfold Vm12_undo; omega)) (f12_undo_s21 (F := F) F _ _ h)
def Vm12_moment (c : Nat) : Prop := c = 18 ∨ c = 27 ∨ c = 32 ∨ c = 34
set_option maxHeartbeats 1000000 in
theorem f12_moment_s {F : Nat} {σ : Mem} {r : Int32 × Mem} (h : m12_moment F  σ = some r) : Sl (Vm12_moment) σ r.2 := by
  unfold m12_moment at h
  have ⟨_, hc1, h⟩ := b_some h
  rcases g_if h with ⟨hq, h⟩ | ⟨hq, h⟩
  · have e := Option.some.inj h
    subst e
    exact (Sl.rf _ _)
  · have ⟨hg, h⟩ := g_gd h
    have hb := inB_lt hg
    rcases g_if h with ⟨hq, h⟩ | ⟨hq, h⟩
    · have e := Option.some.inj h
      subst e
      exact (Sl.rf _ _)
    · have ⟨_, hc2, h⟩ := b_some h
      have qhc2 := f12_keepsAct_s hc2
      have ⟨_, hc3, h⟩ := b_some h
      have qhc3 := f12_passes_s hc3
      have e := Option.some.inj h
      subst e
      exact (Sl.trans (Sl.trans (Sl.rf _ _) (Sl.mono qhc2 (fun c hw => by unfold Vm12_keepsAct at hw; unfold Vm12_moment; first | exact hw.elim | omega))) (Sl.mono qhc3 (fun c hw => by unfold Vm12_passes at hw; unfold Vm12_moment; first | exact hw.elim | omega)))
def Vm12_quench (c : Nat) : Prop := c = 34
set_option maxHeartbeats 1000000 in
theorem f12_quench_s {F : Nat} {i1 : Int32} {σ : Mem} {r : Int32 × Mem} (h : m12_quench F i1 σ = some r) : Sl (Vm12_quench) σ r.2 := by
  unfold m12_quench at h
  have ⟨_, hc1, h⟩ := b_some h
  rcases g_if h with ⟨hq, h⟩ | ⟨hq, h⟩
  · have e := Option.some.inj h
    subst e
    exact (Sl.rf _ _)
  · have ⟨_, hc2, h⟩ := b_some h
    rcases g_if h with ⟨hq, h⟩ | ⟨hq, h⟩
    · have e := Option.some.inj h
      subst e
      exact (Sl.rf _ _)
    · have ⟨_, hc3, h⟩ := b_some h
      have qhc3 := f12_keepsAct_s hc3
      have ⟨_, hc4, h⟩ := b_some h
      have ⟨hg, h⟩ := g_gd h
      have hb := inB_lt hg
      have e := Option.some.inj h
      subst e
      exact (Sl.ne (Sl.trans (Sl.rf _ _) (Sl.mono qhc3 (fun c hw => by unfold Vm12_keepsAct at hw; unfold Vm12_quench; first | exact hw.elim | omega))) (by decide))
def Vm12_mend (c : Nat) : Prop := c = 34
set_option maxHeartbeats 1000000 in
theorem f12_mend_s {F : Nat} {i1 : Int32} {σ : Mem} {r : Int32 × Mem} (h : m12_mend F i1 σ = some r) : Sl (Vm12_mend) σ r.2 := by
  unfold m12_mend at h
  have ⟨_, hc1, h⟩ := b_some h
  rcases g_if h with ⟨hq, h⟩ | ⟨hq, h⟩
  · have e := Option.some.inj h
    subst e
    exact (Sl.rf _ _)
  · have ⟨_, hc2, h⟩ := b_some h
    rcases g_if h with ⟨hq, h⟩ | ⟨hq, h⟩
    · have e := Option.some.inj h
      subst e
      exact (Sl.rf _ _)
    · have ⟨hg, h⟩ := g_gd h
      have hb := inB_lt hg
      rcases g_if h with ⟨hq, h⟩ | ⟨hq, h⟩
      · have e := Option.some.inj h
        subst e
        exact (Sl.rf _ _)
      · have ⟨_, hc3, h⟩ := b_some h
        have qhc3 := f12_keepsAct_s hc3
        have ⟨hg, h⟩ := g_gd h
        have hb := inB_lt hg
        have ⟨hg, h⟩ := g_gd h
        have hb := inB_lt hg
        have ⟨hg, h⟩ := g_gd h
        have hb := inB_lt hg
        have e := Option.some.inj h
        subst e
        exact (Sl.ne (Sl.trans (Sl.rf _ _) (Sl.mono qhc3 (fun c hw => by unfold Vm12_keepsAct at hw; unfold Vm12_mend; first | exact hw.elim | omega))) (by decide))
def Vm12_putsBehind (c : Nat) : Prop := False
set_option maxHeartbeats 1000000 in
theorem f12_putsBehind_s4 {F : Nat} {i1 : Int32} {r : Mem} : ∀ (n : Nat) (x2 : Int32) (x3 : Int32) (σ : Mem), m12_putsBehind_4 F i1 n x2 x3 σ = some r → Sl (Vm12_putsBehind) σ r := by
  intro n
  induction n with
  | zero => intro x2 x3 σ h; unfold m12_putsBehind_4 at h; cases h
  | succ n ih =>
    intro x2 x3 σ h
    unfold m12_putsBehind_4 at h
    have ⟨hg, h⟩ := g_gd h
    have hb := inB_lt hg
    rcases g_if h with ⟨hq, h⟩ | ⟨hq, h⟩
    · have ⟨hg, h⟩ := g_gd h
      have hb := inB_lt hg
      have e := Option.some.inj h
      subst e
      exact (Sl.ne (Sl.rf _ _) (by decide))
    · have ⟨_, hc1, h⟩ := b_some h
      rcases g_if h with ⟨hq, h⟩ | ⟨hq, h⟩
      · exact Sl.trans (Sl.rf _ _) (ih _ _ _ h)
      · have ⟨_, hc2, h⟩ := b_some h
        exact Sl.trans (Sl.rf _ _) (ih _ _ _ h)
set_option maxHeartbeats 1000000 in
theorem f12_putsBehind_s {F : Nat} {i1 : Int32} {σ : Mem} {r : Mem} (h : m12_putsBehind F i1 σ = some r) : Sl (Vm12_putsBehind) σ r := by
  unfold m12_putsBehind at h
  exact Sl.trans (Sl.rf _ _) (f12_putsBehind_s4 (F := F) F _ _ _ h)
def Vm12_aside (c : Nat) : Prop := c = 34
set_option maxHeartbeats 1000000 in
theorem f12_aside_s {F : Nat} {i1 : Int32} {σ : Mem} {r : Int32 × Mem} (h : m12_aside F i1 σ = some r) : Sl (Vm12_aside) σ r.2 := by
  unfold m12_aside at h
  have ⟨_, hc1, h⟩ := b_some h
  rcases g_if h with ⟨hq, h⟩ | ⟨hq, h⟩
  · have e := Option.some.inj h
    subst e
    exact (Sl.rf _ _)
  · have ⟨_, hc2, h⟩ := b_some h
    rcases g_if h with ⟨hq, h⟩ | ⟨hq, h⟩
    · have ⟨_, hc3, h⟩ := b_some h
      have qhc3 := f12_keepsAct_s hc3
      have ⟨_, hc4, h⟩ := b_some h
      have ⟨_, hc5, h⟩ := b_some h
      have qhc5 := f12_putsBehind_s hc5
      have ⟨hg, h⟩ := g_gd h
      have hb := inB_lt hg
      have ⟨_, hc6, h⟩ := b_some h
      have e := Option.some.inj h
      subst e
      exact (Sl.ne (Sl.trans (Sl.trans (Sl.rf _ _) (Sl.mono qhc3 (fun c hw => by unfold Vm12_keepsAct at hw; unfold Vm12_aside; first | exact hw.elim | omega))) (Sl.mono qhc5 (fun c hw => by unfold Vm12_putsBehind at hw; unfold Vm12_aside; first | exact hw.elim | omega))) (by decide))
    · have e := Option.some.inj h
      subst e
      exact (Sl.rf _ _)
def Vm12_keeps (c : Nat) : Prop := c = 27
set_option maxHeartbeats 1000000 in
theorem f12_keeps_s2 {F : Nat} {r : Mem} : ∀ (n : Nat) (x1 : Int32) (σ : Mem), m12_keeps_2 F n x1 σ = some r → Sl (Vm12_keeps) σ r := by
  intro n
  induction n with
  | zero => intro x1 σ h; unfold m12_keeps_2 at h; cases h
  | succ n ih =>
    intro x1 σ h
    unfold m12_keeps_2 at h
    rcases g_if h with ⟨hq, h⟩ | ⟨hq, h⟩
    · have e := Option.some.inj h
      subst e
      exact (Sl.at (Sl.rf _ _) (by unfold Vm12_keeps; omega))
    · have ⟨hg, h⟩ := g_gd h
      have hb := inB_lt hg
      have ⟨hg, h⟩ := g_gd h
      have hb := inB_lt hg
      exact Sl.trans (Sl.ne (Sl.rf _ _) (by decide)) (ih _ _ h)
set_option maxHeartbeats 1000000 in
theorem f12_keeps_s {F : Nat} {σ : Mem} {r : Mem} (h : m12_keeps F  σ = some r) : Sl (Vm12_keeps) σ r := by
  unfold m12_keeps at h
  exact Sl.trans (Sl.rf _ _) (f12_keeps_s2 (F := F) F _ _ h)
def Vm12_laysBack (c : Nat) : Prop := c = 27
set_option maxHeartbeats 1000000 in
theorem f12_laysBack_s2 {F : Nat} {r : Mem} : ∀ (n : Nat) (x1 : Int32) (σ : Mem), m12_laysBack_2 F n x1 σ = some r → Sl (Vm12_laysBack) σ r := by
  intro n
  induction n with
  | zero => intro x1 σ h; unfold m12_laysBack_2 at h; cases h
  | succ n ih =>
    intro x1 σ h
    unfold m12_laysBack_2 at h
    rcases g_if h with ⟨hq, h⟩ | ⟨hq, h⟩
    · have e := Option.some.inj h
      subst e
      exact (Sl.at (Sl.rf _ _) (by unfold Vm12_laysBack; omega))
    · have ⟨hg, h⟩ := g_gd h
      have hb := inB_lt hg
      have ⟨hg, h⟩ := g_gd h
      have hb := inB_lt hg
      exact Sl.trans (Sl.ne (Sl.rf _ _) (by decide)) (ih _ _ h)
set_option maxHeartbeats 1000000 in
theorem f12_laysBack_s {F : Nat} {σ : Mem} {r : Mem} (h : m12_laysBack F  σ = some r) : Sl (Vm12_laysBack) σ r := by
  unfold m12_laysBack at h
  exact Sl.trans (Sl.rf _ _) (f12_laysBack_s2 (F := F) F _ _ h)
def Vm12_ahead (c : Nat) : Prop := c = 18 ∨ c = 27 ∨ c = 32
set_option maxHeartbeats 1000000 in
theorem f12_ahead_s108 {F : Nat} {i1 : Int32} {i2 : Int32} {i3 : Int32} {r : Int32 × Mem} : ∀ (s0 : Int32) (σ : Mem), m12_ahead_108 F i1 i2 i3 s0 σ = some r → Sl (Vm12_ahead) σ r.2 := by
  intro s0 σ h
  unfold m12_ahead_108 at h
  have ⟨_, hc1, h⟩ := b_some h
  have qhc1 := f12_laysBack_s hc1
  have e := Option.some.inj h
  subst e
  exact (Sl.trans (Sl.rf _ _) (Sl.mono qhc1 (fun c hw => by unfold Vm12_laysBack at hw; unfold Vm12_ahead; first | exact hw.elim | omega)))
set_option maxHeartbeats 1000000 in
theorem f12_ahead_s41 {F : Nat} {i1 : Int32} {i2 : Int32} {i3 : Int32} {r : Int32 × Mem} : ∀ (n : Nat) (x4 : Int32) (σ : Mem), m12_ahead_41 F i1 i2 i3 n x4 σ = some r → Sl (Vm12_ahead) σ r.2 := by
  intro n
  induction n with
  | zero => intro x4 σ h; unfold m12_ahead_41 at h; cases h
  | succ n ih =>
    intro x4 σ h
    unfold m12_ahead_41 at h
    rcases g_if h with ⟨hq, h⟩ | ⟨hq, h⟩
    · have ⟨_, hc1, h⟩ := b_some h
      rcases g_if h with ⟨hq, h⟩ | ⟨hq, h⟩
      · have ⟨_, hc2, h⟩ := b_some h
        exact Sl.trans (Sl.rf _ _) (f12_ahead_s108 (F := F) _ _ h)
      · rcases g_if h with ⟨hq, h⟩ | ⟨hq, h⟩
        · have ⟨_, hc2, h⟩ := b_some h
          exact Sl.trans (Sl.rf _ _) (f12_ahead_s108 (F := F) _ _ h)
        · rcases g_if h with ⟨hq, h⟩ | ⟨hq, h⟩
          · have ⟨_, hc2, h⟩ := b_some h
            exact Sl.trans (Sl.rf _ _) (f12_ahead_s108 (F := F) _ _ h)
          · exact Sl.trans (Sl.rf _ _) (f12_ahead_s108 (F := F) _ _ h)
    · have ⟨_, hc1, h⟩ := b_some h
      have qhc1 := f12_passes_s hc1
      exact Sl.trans (Sl.trans (Sl.rf _ _) (Sl.mono qhc1 (fun c hw => by unfold Vm12_passes at hw; unfold Vm12_ahead; first | exact hw.elim | omega))) (ih _ _ h)
set_option maxHeartbeats 1000000 in
theorem f12_ahead_s {F : Nat} {i1 : Int32} {i2 : Int32} {i3 : Int32} {σ : Mem} {r : Int32 × Mem} (h : m12_ahead F i1 i2 i3 σ = some r) : Sl (Vm12_ahead) σ r.2 := by
  unfold m12_ahead at h
  have ⟨_, hc1, h⟩ := b_some h
  rcases g_if h with ⟨hq, h⟩ | ⟨hq, h⟩
  · have e := Option.some.inj h
    subst e
    exact (Sl.rf _ _)
  · have ⟨_, hc2, h⟩ := b_some h
    rcases g_if h with ⟨hq, h⟩ | ⟨hq, h⟩
    · have e := Option.some.inj h
      subst e
      exact (Sl.rf _ _)
    · have ⟨_, hc3, h⟩ := b_some h
      rcases g_if h with ⟨hq, h⟩ | ⟨hq, h⟩
      · have e := Option.some.inj h
        subst e
        exact (Sl.rf _ _)
      · have ⟨_, hc4, h⟩ := b_some h
        have qhc4 := f12_keeps_s hc4
        exact Sl.trans (Sl.trans (Sl.rf _ _) (Sl.mono qhc4 (fun c hw => by unfold Vm12_keeps at hw; unfold Vm12_ahead; first | exact hw.elim | omega))) (f12_ahead_s41 (F := F) F _ _ h)
def Vm12_ready (c : Nat) : Prop := c = 18 ∨ c = 27 ∨ c = 32
set_option maxHeartbeats 1000000 in
theorem f12_ready_s43 {F : Nat} {i1 : Int32} {r : Int32 × Mem} : ∀ (σ : Mem), m12_ready_43 F i1 σ = some r → Sl (Vm12_ready) σ r.2 := by
  intro σ h
  unfold m12_ready_43 at h
  have ⟨_, hc1, h⟩ := b_some h
  have ⟨_, hc2, h⟩ := b_some h
  have qhc2 := f12_laysBack_s hc2
  rcases g_if h with ⟨hq, h⟩ | ⟨hq, h⟩
  · have e := Option.some.inj h
    subst e
    exact (Sl.trans (Sl.rf _ _) (Sl.mono qhc2 (fun c hw => by unfold Vm12_laysBack at hw; unfold Vm12_ready; first | exact hw.elim | omega)))
  · have e := Option.some.inj h
    subst e
    exact (Sl.trans (Sl.rf _ _) (Sl.mono qhc2 (fun c hw => by unfold Vm12_laysBack at hw; unfold Vm12_ready; first | exact hw.elim | omega)))
set_option maxHeartbeats 1000000 in
theorem f12_ready_s16 {F : Nat} {i1 : Int32} {r : Int32 × Mem} : ∀ (n : Nat) (x2 : Int32) (σ : Mem), m12_ready_16 F i1 n x2 σ = some r → Sl (Vm12_ready) σ r.2 := by
  intro n
  induction n with
  | zero => intro x2 σ h; unfold m12_ready_16 at h; cases h
  | succ n ih =>
    intro x2 σ h
    unfold m12_ready_16 at h
    rcases g_if h with ⟨hq, h⟩ | ⟨hq, h⟩
    · exact Sl.trans (Sl.rf _ _) (f12_ready_s43 (F := F) _ h)
    · have ⟨_, hc1, h⟩ := b_some h
      rcases g_if h with ⟨hq, h⟩ | ⟨hq, h⟩
      · exact Sl.trans (Sl.rf _ _) (f12_ready_s43 (F := F) _ h)
      · have ⟨_, hc2, h⟩ := b_some h
        have qhc2 := f12_passes_s hc2
        exact Sl.trans (Sl.trans (Sl.rf _ _) (Sl.mono qhc2 (fun c hw => by unfold Vm12_passes at hw; unfold Vm12_ready; first | exact hw.elim | omega))) (ih _ _ h)
set_option maxHeartbeats 1000000 in
theorem f12_ready_s {F : Nat} {i1 : Int32} {σ : Mem} {r : Int32 × Mem} (h : m12_ready F i1 σ = some r) : Sl (Vm12_ready) σ r.2 := by
  unfold m12_ready at h
  have ⟨_, hc1, h⟩ := b_some h
  rcases g_if h with ⟨hq, h⟩ | ⟨hq, h⟩
  · have e := Option.some.inj h
    subst e
    exact (Sl.rf _ _)
  · have ⟨_, hc2, h⟩ := b_some h
    have qhc2 := f12_keeps_s hc2
    exact Sl.trans (Sl.trans (Sl.rf _ _) (Sl.mono qhc2 (fun c hw => by unfold Vm12_keeps at hw; unfold Vm12_ready; first | exact hw.elim | omega))) (f12_ready_s16 (F := F) F _ _ h)
def Vm12_momentsLeft (c : Nat) : Prop := c = 18 ∨ c = 27 ∨ c = 32
set_option maxHeartbeats 1000000 in
theorem f12_momentsLeft_s31 {F : Nat} {r : Int32 × Mem} : ∀ (x1 : Int32) (σ : Mem), m12_momentsLeft_31 F x1 σ = some r → Sl (Vm12_momentsLeft) σ r.2 := by
  intro x1 σ h
  unfold m12_momentsLeft_31 at h
  have ⟨_, hc1, h⟩ := b_some h
  have qhc1 := f12_laysBack_s hc1
  have e := Option.some.inj h
  subst e
  exact (Sl.trans (Sl.rf _ _) (Sl.mono qhc1 (fun c hw => by unfold Vm12_laysBack at hw; unfold Vm12_momentsLeft; first | exact hw.elim | omega)))
set_option maxHeartbeats 1000000 in
theorem f12_momentsLeft_s6 {F : Nat} {r : Int32 × Mem} : ∀ (n : Nat) (x1 : Int32) (σ : Mem), m12_momentsLeft_6 F n x1 σ = some r → Sl (Vm12_momentsLeft) σ r.2 := by
  intro n
  induction n with
  | zero => intro x1 σ h; unfold m12_momentsLeft_6 at h; cases h
  | succ n ih =>
    intro x1 σ h
    unfold m12_momentsLeft_6 at h
    rcases g_if h with ⟨hq, h⟩ | ⟨hq, h⟩
    · exact Sl.trans (Sl.rf _ _) (f12_momentsLeft_s31 (F := F) _ _ h)
    · have ⟨_, hc1, h⟩ := b_some h
      rcases g_if h with ⟨hq, h⟩ | ⟨hq, h⟩
      · have ⟨_, hc2, h⟩ := b_some h
        have qhc2 := f12_passes_s hc2
        exact Sl.trans (Sl.trans (Sl.rf _ _) (Sl.mono qhc2 (fun c hw => by unfold Vm12_passes at hw; unfold Vm12_momentsLeft; first | exact hw.elim | omega))) (ih _ _ h)
      · exact Sl.trans (Sl.rf _ _) (f12_momentsLeft_s31 (F := F) _ _ h)
set_option maxHeartbeats 1000000 in
theorem f12_momentsLeft_s {F : Nat} {σ : Mem} {r : Int32 × Mem} (h : m12_momentsLeft F  σ = some r) : Sl (Vm12_momentsLeft) σ r.2 := by
  unfold m12_momentsLeft at h
  have ⟨_, hc1, h⟩ := b_some h
  have qhc1 := f12_keeps_s hc1
  exact Sl.trans (Sl.trans (Sl.rf _ _) (Sl.mono qhc1 (fun c hw => by unfold Vm12_keeps at hw; unfold Vm12_momentsLeft; first | exact hw.elim | omega))) (f12_momentsLeft_s6 (F := F) F _ _ h)
def Vm12_all (c : Nat) : Prop := c = 18 ∨ c = 27 ∨ c = 32
set_option maxHeartbeats 1000000 in
theorem f12_all_s {F : Nat} {σ : Mem} {r : Int32 × Mem} (h : m12_all F  σ = some r) : Sl (Vm12_all) σ r.2 := by
  unfold m12_all at h
  have ⟨_, hc1, h⟩ := b_some h
  rcases g_if h with ⟨hq, h⟩ | ⟨hq, h⟩
  · have e := Option.some.inj h
    subst e
    exact (Sl.rf _ _)
  · have ⟨_, hc2, h⟩ := b_some h
    have qhc2 := f12_momentsLeft_s hc2
    rcases g_if h with ⟨hq, h⟩ | ⟨hq, h⟩
    · have ⟨hg, h⟩ := g_gd h
      have hb := inB_lt hg
      have e := Option.some.inj h
      subst e
      exact (Sl.trans (Sl.rf _ _) (Sl.mono qhc2 (fun c hw => by unfold Vm12_momentsLeft at hw; unfold Vm12_all; first | exact hw.elim | omega)))
    · have e := Option.some.inj h
      subst e
      exact (Sl.trans (Sl.rf _ _) (Sl.mono qhc2 (fun c hw => by unfold Vm12_momentsLeft at hw; unfold Vm12_all; first | exact hw.elim | omega)))
def Vm12_blowsBy (c : Nat) : Prop := c = 18 ∨ c = 24 ∨ c = 27 ∨ c = 32
set_option maxHeartbeats 1000000 in
theorem f12_blowsBy_s9 {F : Nat} {i1 : Int32} {i2 : Int32} {r : Int32 × Mem} : ∀ (n : Nat) (x3 : Int32) (x4 : Int32) (σ : Mem), m12_blowsBy_9 F i1 i2 n x3 x4 σ = some r → Sl (Vm12_blowsBy) σ r.2 := by
  intro n
  induction n with
  | zero => intro x3 x4 σ h; unfold m12_blowsBy_9 at h; cases h
  | succ n ih =>
    intro x3 x4 σ h
    unfold m12_blowsBy_9 at h
    rcases g_if h with ⟨hq, h⟩ | ⟨hq, h⟩
    · have ⟨_, hc1, h⟩ := b_some h
      have qhc1 := f12_laysBack_s hc1
      have e := Option.some.inj h
      subst e
      exact (Sl.trans (Sl.at (Sl.rf _ _) (by unfold Vm12_blowsBy; omega)) (Sl.mono qhc1 (fun c hw => by unfold Vm12_laysBack at hw; unfold Vm12_blowsBy; first | exact hw.elim | omega)))
    · have ⟨_, hc1, h⟩ := b_some h
      have ⟨_, hc2, h⟩ := b_some h
      have qhc2 := f12_passes_s hc2
      exact Sl.trans (Sl.trans (Sl.at (Sl.rf _ _) (by unfold Vm12_blowsBy; omega)) (Sl.mono qhc2 (fun c hw => by unfold Vm12_passes at hw; unfold Vm12_blowsBy; first | exact hw.elim | omega))) (ih _ _ _ h)
set_option maxHeartbeats 1000000 in
theorem f12_blowsBy_s {F : Nat} {i1 : Int32} {i2 : Int32} {σ : Mem} {r : Int32 × Mem} (h : m12_blowsBy F i1 i2 σ = some r) : Sl (Vm12_blowsBy) σ r.2 := by
  unfold m12_blowsBy at h
  have ⟨_, hc1, h⟩ := b_some h
  have qhc1 := f12_keeps_s hc1
  exact Sl.trans (Sl.trans (Sl.rf _ _) (Sl.mono qhc1 (fun c hw => by unfold Vm12_keeps at hw; unfold Vm12_blowsBy; first | exact hw.elim | omega))) (f12_blowsBy_s9 (F := F) F _ _ _ h)
def Vm12_rota (c : Nat) : Prop := c = 18 ∨ c = 24 ∨ c = 27 ∨ c = 32
set_option maxHeartbeats 1000000 in
theorem f12_rota_s41 {F : Nat} {i1 : Int32} {i2 : Int32} {r : Int32 × Mem} : ∀ (n : Nat) (x3 : Int32) (x4 : Int32) (x5 : Int32) (σ : Mem), m12_rota_41 F i1 i2 n x3 x4 x5 σ = some r → Sl (Vm12_rota) σ r.2 := by
  intro n
  induction n with
  | zero => intro x3 x4 x5 σ h; unfold m12_rota_41 at h; cases h
  | succ n ih =>
    intro x3 x4 x5 σ h
    unfold m12_rota_41 at h
    have ⟨_, hc1, h⟩ := b_some h
    rcases g_if h with ⟨hq, h⟩ | ⟨hq, h⟩
    · rcases g_if h with ⟨hq, h⟩ | ⟨hq, h⟩
      · have e := Option.some.inj h
        subst e
        exact (Sl.rf _ _)
      · rcases g_if h with ⟨hq, h⟩ | ⟨hq, h⟩
        · have ⟨_, hc2, h⟩ := b_some h
          have e := Option.some.inj h
          subst e
          exact (Sl.rf _ _)
        · have e := Option.some.inj h
          subst e
          exact (Sl.rf _ _)
    · have ⟨_, hc2, h⟩ := b_some h
      have qhc2 := f12_blowsBy_s hc2
      rcases g_if h with ⟨hq, h⟩ | ⟨hq, h⟩
      · exact Sl.trans (Sl.trans (Sl.rf _ _) (Sl.mono qhc2 (fun c hw => by unfold Vm12_blowsBy at hw; unfold Vm12_rota; first | exact hw.elim | omega))) (ih _ _ _ _ h)
      · rcases g_if h with ⟨hq, h⟩ | ⟨hq, h⟩
        · exact Sl.trans (Sl.trans (Sl.rf _ _) (Sl.mono qhc2 (fun c hw => by unfold Vm12_blowsBy at hw; unfold Vm12_rota; first | exact hw.elim | omega))) (ih _ _ _ _ h)
        · exact Sl.trans (Sl.trans (Sl.rf _ _) (Sl.mono qhc2 (fun c hw => by unfold Vm12_blowsBy at hw; unfold Vm12_rota; first | exact hw.elim | omega))) (ih _ _ _ _ h)
set_option maxHeartbeats 1000000 in
theorem f12_rota_s {F : Nat} {i1 : Int32} {i2 : Int32} {σ : Mem} {r : Int32 × Mem} (h : m12_rota F i1 i2 σ = some r) : Sl (Vm12_rota) σ r.2 := by
  unfold m12_rota at h
  have ⟨_, hc1, h⟩ := b_some h
  rcases g_if h with ⟨hq, h⟩ | ⟨hq, h⟩
  · have e := Option.some.inj h
    subst e
    exact (Sl.rf _ _)
  · have ⟨_, hc2, h⟩ := b_some h
    rcases g_if h with ⟨hq, h⟩ | ⟨hq, h⟩
    · have e := Option.some.inj h
      subst e
      exact (Sl.rf _ _)
    · have ⟨_, hc3, h⟩ := b_some h
      rcases g_if h with ⟨hq, h⟩ | ⟨hq, h⟩
      · have e := Option.some.inj h
        subst e
        exact (Sl.rf _ _)
      · exact Sl.trans (Sl.rf _ _) (f12_rota_s41 (F := F) F _ _ _ _ h)
def Vm12_heatsThen (c : Nat) : Prop := c = 18 ∨ c = 27 ∨ c = 32
set_option maxHeartbeats 1000000 in
theorem f12_heatsThen_s58 {F : Nat} {i1 : Int32} {r : Int32 × Mem} : ∀ (n : Nat) (x3 : Int32) (x4 : Int32) (σ : Mem), m12_heatsThen_58 F i1 n x3 x4 σ = some r → Sl (Vm12_heatsThen) σ r.2 := by
  intro n
  induction n with
  | zero => intro x3 x4 σ h; unfold m12_heatsThen_58 at h; cases h
  | succ n ih =>
    intro x3 x4 σ h
    unfold m12_heatsThen_58 at h
    rcases g_if h with ⟨hq, h⟩ | ⟨hq, h⟩
    · have e := Option.some.inj h
      subst e
      exact (Sl.rf _ _)
    · have ⟨_, hc1, h⟩ := b_some h
      exact Sl.trans (Sl.rf _ _) (ih _ _ _ h)
set_option maxHeartbeats 1000000 in
theorem f12_heatsThen_s4 {F : Nat} {i1 : Int32} {r : Int32 × Mem} : ∀ (n : Nat) (x2 : Int32) (x3 : Int32) (σ : Mem), m12_heatsThen_4 F i1 n x2 x3 σ = some r → Sl (Vm12_heatsThen) σ r.2 := by
  intro n
  induction n with
  | zero => intro x2 x3 σ h; unfold m12_heatsThen_4 at h; cases h
  | succ n ih =>
    intro x2 x3 σ h
    unfold m12_heatsThen_4 at h
    have ⟨hg, h⟩ := g_gd h
    have hb := inB_lt hg
    rcases g_if h with ⟨hq, h⟩ | ⟨hq, h⟩
    · have ⟨_, hc1, h⟩ := b_some h
      have qhc1 := f12_passes_s hc1
      have ⟨hg, h⟩ := g_gd h
      have hb := inB_lt hg
      exact Sl.trans (Sl.trans (Sl.rf _ _) (Sl.mono qhc1 (fun c hw => by unfold Vm12_passes at hw; unfold Vm12_heatsThen; first | exact hw.elim | omega))) (f12_heatsThen_s58 (F := F) F _ _ _ h)
    · have ⟨hg, h⟩ := g_gd h
      have hb := inB_lt hg
      exact Sl.trans (Sl.ne (Sl.rf _ _) (by decide)) (ih _ _ _ h)
set_option maxHeartbeats 1000000 in
theorem f12_heatsThen_s {F : Nat} {i1 : Int32} {σ : Mem} {r : Int32 × Mem} (h : m12_heatsThen F i1 σ = some r) : Sl (Vm12_heatsThen) σ r.2 := by
  unfold m12_heatsThen at h
  exact Sl.trans (Sl.rf _ _) (f12_heatsThen_s4 (F := F) F _ _ _ h)
def Vm12_roundNow (c : Nat) : Prop := c = 18 ∨ c = 27 ∨ c = 32
set_option maxHeartbeats 1000000 in
theorem f12_roundNow_s106 {F : Nat} {r : Int32 × Mem} {k88 : Int32 → Int32 → Int32 → Mem → Option (Int32 × Mem)} (hk88 : ∀ (x1 : Int32) (x2 : Int32) (x3 : Int32) (σ : Mem), k88 x1 x2 x3 σ = some r → Sl (Vm12_roundNow) σ r.2) : ∀ (n : Nat) (x1 : Int32) (x2 : Int32) (x3 : Int32) (x4 : Int32) (σ : Mem), m12_roundNow_106 F k88 n x1 x2 x3 x4 σ = some r → Sl (Vm12_roundNow) σ r.2 := by
  intro n
  induction n with
  | zero => intro x1 x2 x3 x4 σ h; unfold m12_roundNow_106 at h; cases h
  | succ n ih =>
    intro x1 x2 x3 x4 σ h
    unfold m12_roundNow_106 at h
    have ⟨hg, h⟩ := g_gd h
    have hb := inB_lt hg
    rcases g_if h with ⟨hq, h⟩ | ⟨hq, h⟩
    · exact Sl.trans (Sl.rf _ _) (hk88 _ _ _ _ h)
    · have ⟨hg, h⟩ := g_gd h
      have hb := inB_lt hg
      have ⟨hg, h⟩ := g_gd h
      have hb := inB_lt hg
      have ⟨hg, h⟩ := g_gd h
      have hb := inB_lt hg
      exact Sl.trans (Sl.ne (Sl.rf _ _) (by decide)) (ih _ _ _ _ _ h)
set_option maxHeartbeats 1000000 in
theorem f12_roundNow_s97 {F : Nat} {r : Int32 × Mem} {k88 : Int32 → Int32 → Int32 → Mem → Option (Int32 × Mem)} (hk88 : ∀ (x1 : Int32) (x2 : Int32) (x3 : Int32) (σ : Mem), k88 x1 x2 x3 σ = some r → Sl (Vm12_roundNow) σ r.2) : ∀ (x1 : Int32) (x2 : Int32) (x3 : Int32) (σ : Mem), m12_roundNow_97 F k88 x1 x2 x3 σ = some r → Sl (Vm12_roundNow) σ r.2 := by
  intro x1 x2 x3 σ h
  unfold m12_roundNow_97 at h
  have ⟨_, hc1, h⟩ := b_some h
  have qhc1 := f12_heatsThen_s hc1
  exact Sl.trans (Sl.trans (Sl.rf _ _) (Sl.mono qhc1 (fun c hw => by unfold Vm12_heatsThen at hw; unfold Vm12_roundNow; first | exact hw.elim | omega))) (f12_roundNow_s106 (F := F) (fun _ _ _ _ h => (hk88 _ _ _ _ h)) F _ _ _ _ _ h)
set_option maxHeartbeats 1000000 in
theorem f12_roundNow_s88 {F : Nat} {r : Int32 × Mem} : ∀ (n : Nat) (x1 : Int32) (x2 : Int32) (x3 : Int32) (σ : Mem), m12_roundNow_88 F n x1 x2 x3 σ = some r → Sl (Vm12_roundNow) σ r.2 := by
  intro n
  induction n with
  | zero => intro x1 x2 x3 σ h; unfold m12_roundNow_88 at h; cases h
  | succ n ih =>
    intro x1 x2 x3 σ h
    unfold m12_roundNow_88 at h
    rcases g_if h with ⟨hq, h⟩ | ⟨hq, h⟩
    · exact Sl.trans (Sl.rf _ _) (f12_roundNow_s97 (F := F) (fun _ _ _ _ h => (ih _ _ _ _ h)) _ _ _ _ h)
    · rcases g_if h with ⟨hq, h⟩ | ⟨hq, h⟩
      · have e := Option.some.inj h
        subst e
        exact (Sl.rf _ _)
      · exact Sl.trans (Sl.rf _ _) (f12_roundNow_s97 (F := F) (fun _ _ _ _ h => (ih _ _ _ _ h)) _ _ _ _ h)
set_option maxHeartbeats 1000000 in
theorem f12_roundNow_s68 {F : Nat} {r : Int32 × Mem} : ∀ (n : Nat) (x1 : Int32) (x2 : Int32) (x3 : Int32) (x4 : Int32) (σ : Mem), m12_roundNow_68 F n x1 x2 x3 x4 σ = some r → Sl (Vm12_roundNow) σ r.2 := by
  intro n
  induction n with
  | zero => intro x1 x2 x3 x4 σ h; unfold m12_roundNow_68 at h; cases h
  | succ n ih =>
    intro x1 x2 x3 x4 σ h
    unfold m12_roundNow_68 at h
    rcases g_if h with ⟨hq, h⟩ | ⟨hq, h⟩
    · exact Sl.trans (Sl.rf _ _) (f12_roundNow_s88 (F := F) F _ _ _ _ h)
    · have ⟨hg, h⟩ := g_gd h
      have hb := inB_lt hg
      exact Sl.trans (Sl.ne (Sl.rf _ _) (by decide)) (ih _ _ _ _ _ h)
set_option maxHeartbeats 1000000 in
theorem f12_roundNow_s39 {F : Nat} {r : Int32 × Mem} : ∀ (n : Nat) (x1 : Int32) (x2 : Int32) (σ : Mem), m12_roundNow_39 F n x1 x2 σ = some r → Sl (Vm12_roundNow) σ r.2 := by
  intro n
  induction n with
  | zero => intro x1 x2 σ h; unfold m12_roundNow_39 at h; cases h
  | succ n ih =>
    intro x1 x2 σ h
    unfold m12_roundNow_39 at h
    rcases g_if h with ⟨hq, h⟩ | ⟨hq, h⟩
    · exact Sl.trans (Sl.rf _ _) (f12_roundNow_s68 (F := F) F _ _ _ _ _ h)
    · have ⟨_, hc1, h⟩ := b_some h
      have qhc1 := f12_heatsThen_s hc1
      have ⟨_, hc2, h⟩ := b_some h
      have qhc2 := f12_heatsThen_s hc2
      have ⟨_, hc3, h⟩ := b_some h
      have qhc3 := f12_heatsThen_s hc3
      exact Sl.trans (Sl.trans (Sl.trans (Sl.trans (Sl.rf _ _) (Sl.mono qhc1 (fun c hw => by unfold Vm12_heatsThen at hw; unfold Vm12_roundNow; first | exact hw.elim | omega))) (Sl.mono qhc2 (fun c hw => by unfold Vm12_heatsThen at hw; unfold Vm12_roundNow; first | exact hw.elim | omega))) (Sl.mono qhc3 (fun c hw => by unfold Vm12_heatsThen at hw; unfold Vm12_roundNow; first | exact hw.elim | omega))) (ih _ _ _ h)
set_option maxHeartbeats 1000000 in
theorem f12_roundNow_s11 {F : Nat} {r : Int32 × Mem} : ∀ (n : Nat) (x1 : Int32) (x2 : Int32) (σ : Mem), m12_roundNow_11 F n x1 x2 σ = some r → Sl (Vm12_roundNow) σ r.2 := by
  intro n
  induction n with
  | zero => intro x1 x2 σ h; unfold m12_roundNow_11 at h; cases h
  | succ n ih =>
    intro x1 x2 σ h
    unfold m12_roundNow_11 at h
    rcases g_if h with ⟨hq, h⟩ | ⟨hq, h⟩
    · have ⟨_, hc1, h⟩ := b_some h
      have qhc1 := f12_heatsThen_s hc1
      exact Sl.trans (Sl.trans (Sl.rf _ _) (Sl.mono qhc1 (fun c hw => by unfold Vm12_heatsThen at hw; unfold Vm12_roundNow; first | exact hw.elim | omega))) (f12_roundNow_s39 (F := F) F _ _ _ h)
    · have ⟨_, hc1, h⟩ := b_some h
      exact Sl.trans (Sl.rf _ _) (ih _ _ _ h)
set_option maxHeartbeats 1000000 in
theorem f12_roundNow_s {F : Nat} {σ : Mem} {r : Int32 × Mem} (h : m12_roundNow F  σ = some r) : Sl (Vm12_roundNow) σ r.2 := by
  unfold m12_roundNow at h
  have ⟨hg, h⟩ := g_gd h
  have hb := inB_lt hg
  exact Sl.trans (Sl.rf _ _) (f12_roundNow_s11 (F := F) F _ _ _ h)
def Vm12_round (c : Nat) : Prop := c = 18 ∨ c = 25 ∨ c = 27 ∨ c = 32
set_option maxHeartbeats 1000000 in
theorem f12_round_s {F : Nat} {i1 : Int32} {σ : Mem} {r : Int32 × Mem} (h : m12_round F i1 σ = some r) : Sl (Vm12_round) σ r.2 := by
  unfold m12_round at h
  have ⟨_, hc1, h⟩ := b_some h
  rcases g_if h with ⟨hq, h⟩ | ⟨hq, h⟩
  · have e := Option.some.inj h
    subst e
    exact (Sl.rf _ _)
  · have ⟨_, hc2, h⟩ := b_some h
    rcases g_if h with ⟨hq, h⟩ | ⟨hq, h⟩
    · have e := Option.some.inj h
      subst e
      exact (Sl.rf _ _)
    · have ⟨_, hc3, h⟩ := b_some h
      have qhc3 := f12_keeps_s hc3
      have ⟨_, hc4, h⟩ := b_some h
      have qhc4 := f12_roundNow_s hc4
      have ⟨_, hc5, h⟩ := b_some h
      have qhc5 := f12_laysBack_s hc5
      rcases g_if h with ⟨hq, h⟩ | ⟨hq, h⟩
      · have e := Option.some.inj h
        subst e
        exact (Sl.trans (Sl.at (Sl.trans (Sl.at (Sl.trans (Sl.rf _ _) (Sl.mono qhc3 (fun c hw => by unfold Vm12_keeps at hw; unfold Vm12_round; first | exact hw.elim | omega))) (by unfold Vm12_round; omega)) (Sl.mono qhc4 (fun c hw => by unfold Vm12_roundNow at hw; unfold Vm12_round; first | exact hw.elim | omega))) (by unfold Vm12_round; omega)) (Sl.mono qhc5 (fun c hw => by unfold Vm12_laysBack at hw; unfold Vm12_round; first | exact hw.elim | omega)))
      · have ⟨hg, h⟩ := g_gd h
        have hb := inB_lt hg
        rcases g_if h with ⟨hq, h⟩ | ⟨hq, h⟩
        · have ⟨hg, h⟩ := g_gd h
          have hb := inB_lt hg
          have e := Option.some.inj h
          subst e
          exact (Sl.trans (Sl.at (Sl.trans (Sl.at (Sl.trans (Sl.rf _ _) (Sl.mono qhc3 (fun c hw => by unfold Vm12_keeps at hw; unfold Vm12_round; first | exact hw.elim | omega))) (by unfold Vm12_round; omega)) (Sl.mono qhc4 (fun c hw => by unfold Vm12_roundNow at hw; unfold Vm12_round; first | exact hw.elim | omega))) (by unfold Vm12_round; omega)) (Sl.mono qhc5 (fun c hw => by unfold Vm12_laysBack at hw; unfold Vm12_round; first | exact hw.elim | omega)))
        · have e := Option.some.inj h
          subst e
          exact (Sl.trans (Sl.at (Sl.trans (Sl.at (Sl.trans (Sl.rf _ _) (Sl.mono qhc3 (fun c hw => by unfold Vm12_keeps at hw; unfold Vm12_round; first | exact hw.elim | omega))) (by unfold Vm12_round; omega)) (Sl.mono qhc4 (fun c hw => by unfold Vm12_roundNow at hw; unfold Vm12_round; first | exact hw.elim | omega))) (by unfold Vm12_round; omega)) (Sl.mono qhc5 (fun c hw => by unfold Vm12_laysBack at hw; unfold Vm12_round; first | exact hw.elim | omega)))
def Vm12_countsBeside (c : Nat) : Prop := (38 ≤ c ∧ c ≤ 39)
set_option maxHeartbeats 1000000 in
theorem f12_countsBeside_s140 {F : Nat} {i1 : Int32} {r : Mem} : ∀ (n : Nat) (x5 : Int32) (σ : Mem), m12_countsBeside_140 F i1 n x5 σ = some r → Sl (Vm12_countsBeside) σ r := by
  intro n
  induction n with
  | zero => intro x5 σ h; unfold m12_countsBeside_140 at h; cases h
  | succ n ih =>
    intro x5 σ h
    unfold m12_countsBeside_140 at h
    have ⟨hg, h⟩ := g_gd h
    have hb := inB_lt hg
    rcases g_if h with ⟨hq, h⟩ | ⟨hq, h⟩
    · have e := Option.some.inj h
      subst e
      exact (Sl.rf _ _)
    · have ⟨_, hc1, h⟩ := b_some h
      have ⟨hg, h⟩ := g_gd h
      have hb := inB_lt hg
      exact Sl.trans (Sl.ne (Sl.rf _ _) (by decide)) (ih _ _ h)
set_option maxHeartbeats 1000000 in
theorem f12_countsBeside_s126 {F : Nat} {i1 : Int32} {r : Mem} : ∀ (x3 : Int32) (x4 : Int32) (σ : Mem), m12_countsBeside_126 F i1 x3 x4 σ = some r → Sl (Vm12_countsBeside) σ r := by
  intro x3 x4 σ h
  unfold m12_countsBeside_126 at h
  exact Sl.trans (Sl.at (Sl.at (Sl.rf _ _) (by unfold Vm12_countsBeside; omega)) (by unfold Vm12_countsBeside; omega)) (f12_countsBeside_s140 (F := F) F _ _ h)
set_option maxHeartbeats 1000000 in
theorem f12_countsBeside_s10 {F : Nat} {i1 : Int32} {r : Mem} : ∀ (n : Nat) (x2 : Int32) (x3 : Int32) (x4 : Int32) (x5 : Int32) (σ : Mem), m12_countsBeside_10 F i1 n x2 x3 x4 x5 σ = some r → Sl (Vm12_countsBeside) σ r := by
  intro n
  induction n with
  | zero => intro x2 x3 x4 x5 σ h; unfold m12_countsBeside_10 at h; cases h
  | succ n ih =>
    intro x2 x3 x4 x5 σ h
    unfold m12_countsBeside_10 at h
    have ⟨hg, h⟩ := g_gd h
    have hb := inB_lt hg
    rcases g_if h with ⟨hq, h⟩ | ⟨hq, h⟩
    · rcases g_if h with ⟨hq, h⟩ | ⟨hq, h⟩
      · have e := Option.some.inj h
        subst e
        exact (Sl.rf _ _)
      · rcases g_if h with ⟨hq, h⟩ | ⟨hq, h⟩
        · rcases g_if h with ⟨hq, h⟩ | ⟨hq, h⟩
          · exact Sl.trans (Sl.rf _ _) (f12_countsBeside_s126 (F := F) _ _ _ h)
          · have e := Option.some.inj h
            subst e
            exact (Sl.rf _ _)
        · exact Sl.trans (Sl.rf _ _) (f12_countsBeside_s126 (F := F) _ _ _ h)
    · have ⟨_, hc1, h⟩ := b_some h
      rcases g_if h with ⟨hq, h⟩ | ⟨hq, h⟩
      · have ⟨_, hc2, h⟩ := b_some h
        rcases g_if h with ⟨hq, h⟩ | ⟨hq, h⟩
        · have e := Option.some.inj h
          subst e
          exact (Sl.rf _ _)
        · have ⟨_, hc3, h⟩ := b_some h
          rcases g_if h with ⟨hq, h⟩ | ⟨hq, h⟩
          · have e := Option.some.inj h
            subst e
            exact (Sl.rf _ _)
          · have ⟨_, hc4, h⟩ := b_some h
            rcases g_if h with ⟨hq, h⟩ | ⟨hq, h⟩
            · have ⟨_, hc5, h⟩ := b_some h
              have ⟨_, hc6, h⟩ := b_some h
              exact Sl.trans (Sl.rf _ _) (ih _ _ _ _ _ h)
            · have e := Option.some.inj h
              subst e
              exact (Sl.rf _ _)
      · exact Sl.trans (Sl.rf _ _) (ih _ _ _ _ _ h)
set_option maxHeartbeats 1000000 in
theorem f12_countsBeside_s {F : Nat} {i1 : Int32} {σ : Mem} {r : Mem} (h : m12_countsBeside F i1 σ = some r) : Sl (Vm12_countsBeside) σ r := by
  unfold m12_countsBeside at h
  exact Sl.trans (Sl.rf _ _) (f12_countsBeside_s10 (F := F) F _ _ _ _ _ h)
def Vm12_beside (c : Nat) : Prop := (38 ≤ c ∧ c ≤ 39)
set_option maxHeartbeats 1000000 in
theorem f12_beside_s54 {F : Nat} {i1 : Int32} {r : Int32 × Mem} : ∀ (n : Nat) (x2 : Int32) (σ : Mem), m12_beside_54 F i1 n x2 σ = some r → Sl (Vm12_beside) σ r.2 := by
  intro n
  induction n with
  | zero => intro x2 σ h; unfold m12_beside_54 at h; cases h
  | succ n ih =>
    intro x2 σ h
    unfold m12_beside_54 at h
    have ⟨hg, h⟩ := g_gd h
    have hb := inB_lt hg
    have ⟨_, hc1, h⟩ := b_some h
    rcases g_if h with ⟨hq, h⟩ | ⟨hq, h⟩
    · rcases g_if h with ⟨hq, h⟩ | ⟨hq, h⟩
      · have ⟨hg, h⟩ := g_gd h
        have hb := inB_lt hg
        rcases g_if h with ⟨hq, h⟩ | ⟨hq, h⟩
        · have e := Option.some.inj h
          subst e
          exact (Sl.rf _ _)
        · have ⟨hg, h⟩ := g_gd h
          have hb := inB_lt hg
          have e := Option.some.inj h
          subst e
          exact (Sl.rf _ _)
      · rcases g_if h with ⟨hq, h⟩ | ⟨hq, h⟩
        · have e := Option.some.inj h
          subst e
          exact (Sl.rf _ _)
        · have e := Option.some.inj h
          subst e
          exact (Sl.rf _ _)
    · have ⟨_, hc2, h⟩ := b_some h
      have qhc2 := f12_countsBeside_s hc2
      exact Sl.trans (Sl.trans (Sl.rf _ _) (Sl.mono qhc2 (fun c hw => by unfold Vm12_countsBeside at hw; unfold Vm12_beside; first | exact hw.elim | omega))) (ih _ _ h)
set_option maxHeartbeats 1000000 in
theorem f12_beside_s34 {F : Nat} {i1 : Int32} {r : Int32 × Mem} : ∀ (n : Nat) (x2 : Int32) (σ : Mem), m12_beside_34 F i1 n x2 σ = some r → Sl (Vm12_beside) σ r.2 := by
  intro n
  induction n with
  | zero => intro x2 σ h; unfold m12_beside_34 at h; cases h
  | succ n ih =>
    intro x2 σ h
    unfold m12_beside_34 at h
    rcases g_if h with ⟨hq, h⟩ | ⟨hq, h⟩
    · exact Sl.trans (Sl.rf _ _) (f12_beside_s54 (F := F) F _ _ h)
    · have ⟨hg, h⟩ := g_gd h
      have hb := inB_lt hg
      exact Sl.trans (Sl.ne (Sl.rf _ _) (by decide)) (ih _ _ h)
set_option maxHeartbeats 1000000 in
theorem f12_beside_s {F : Nat} {i1 : Int32} {σ : Mem} {r : Int32 × Mem} (h : m12_beside F i1 σ = some r) : Sl (Vm12_beside) σ r.2 := by
  unfold m12_beside at h
  have ⟨_, hc1, h⟩ := b_some h
  rcases g_if h with ⟨hq, h⟩ | ⟨hq, h⟩
  · have e := Option.some.inj h
    subst e
    exact (Sl.rf _ _)
  · have ⟨_, hc2, h⟩ := b_some h
    rcases g_if h with ⟨hq, h⟩ | ⟨hq, h⟩
    · have e := Option.some.inj h
      subst e
      exact (Sl.rf _ _)
    · exact Sl.trans (Sl.at (Sl.at (Sl.rf _ _) (by unfold Vm12_beside; omega)) (by unfold Vm12_beside; omega)) (f12_beside_s34 (F := F) F _ _ h)
def Vm12_othersBlows (c : Nat) : Prop := c = 18 ∨ c = 27 ∨ c = 32
set_option maxHeartbeats 1000000 in
theorem f12_othersBlows_s23 {F : Nat} {i1 : Int32} {i2 : Int32} {r : Int32 × Mem} {k9 : Int32 → Int32 → Mem → Option (Int32 × Mem)} (hk9 : ∀ (x3 : Int32) (x4 : Int32) (σ : Mem), k9 x3 x4 σ = some r → Sl (Vm12_othersBlows) σ r.2) : ∀ (n : Nat) (x3 : Int32) (x4 : Int32) (x5 : Int32) (σ : Mem), m12_othersBlows_23 F i1 i2 k9 n x3 x4 x5 σ = some r → Sl (Vm12_othersBlows) σ r.2 := by
  intro n
  induction n with
  | zero => intro x3 x4 x5 σ h; unfold m12_othersBlows_23 at h; cases h
  | succ n ih =>
    intro x3 x4 x5 σ h
    unfold m12_othersBlows_23 at h
    have ⟨hg, h⟩ := g_gd h
    have hb := inB_lt hg
    rcases g_if h with ⟨hq, h⟩ | ⟨hq, h⟩
    · exact Sl.trans (Sl.rf _ _) (hk9 _ _ _ h)
    · rcases g_if h with ⟨hq, h⟩ | ⟨hq, h⟩
      · exact Sl.trans (Sl.rf _ _) (ih _ _ _ _ h)
      · have ⟨hg, h⟩ := g_gd h
        have hb := inB_lt hg
        exact Sl.trans (Sl.rf _ _) (ih _ _ _ _ h)
set_option maxHeartbeats 1000000 in
theorem f12_othersBlows_s9 {F : Nat} {i1 : Int32} {i2 : Int32} {r : Int32 × Mem} : ∀ (n : Nat) (x3 : Int32) (x4 : Int32) (σ : Mem), m12_othersBlows_9 F i1 i2 n x3 x4 σ = some r → Sl (Vm12_othersBlows) σ r.2 := by
  intro n
  induction n with
  | zero => intro x3 x4 σ h; unfold m12_othersBlows_9 at h; cases h
  | succ n ih =>
    intro x3 x4 σ h
    unfold m12_othersBlows_9 at h
    rcases g_if h with ⟨hq, h⟩ | ⟨hq, h⟩
    · have ⟨_, hc1, h⟩ := b_some h
      have qhc1 := f12_laysBack_s hc1
      have e := Option.some.inj h
      subst e
      exact (Sl.trans (Sl.rf _ _) (Sl.mono qhc1 (fun c hw => by unfold Vm12_laysBack at hw; unfold Vm12_othersBlows; first | exact hw.elim | omega)))
    · have ⟨_, hc1, h⟩ := b_some h
      have qhc1 := f12_passes_s hc1
      exact Sl.trans (Sl.trans (Sl.rf _ _) (Sl.mono qhc1 (fun c hw => by unfold Vm12_passes at hw; unfold Vm12_othersBlows; first | exact hw.elim | omega))) (f12_othersBlows_s23 (F := F) (fun _ _ _ h => (ih _ _ _ h)) F _ _ _ _ h)
set_option maxHeartbeats 1000000 in
theorem f12_othersBlows_s {F : Nat} {i1 : Int32} {i2 : Int32} {σ : Mem} {r : Int32 × Mem} (h : m12_othersBlows F i1 i2 σ = some r) : Sl (Vm12_othersBlows) σ r.2 := by
  unfold m12_othersBlows at h
  have ⟨_, hc1, h⟩ := b_some h
  have qhc1 := f12_keeps_s hc1
  exact Sl.trans (Sl.trans (Sl.rf _ _) (Sl.mono qhc1 (fun c hw => by unfold Vm12_keeps at hw; unfold Vm12_othersBlows; first | exact hw.elim | omega))) (f12_othersBlows_s9 (F := F) F _ _ _ h)
def Vm12_worth (c : Nat) : Prop := c = 18 ∨ c = 23 ∨ c = 27 ∨ c = 32
set_option maxHeartbeats 1000000 in
theorem f12_worth_s {F : Nat} {i1 : Int32} {i2 : Int32} {σ : Mem} {r : Int32 × Mem} (h : m12_worth F i1 i2 σ = some r) : Sl (Vm12_worth) σ r.2 := by
  unfold m12_worth at h
  have ⟨_, hc1, h⟩ := b_some h
  rcases g_if h with ⟨hq, h⟩ | ⟨hq, h⟩
  · have e := Option.some.inj h
    subst e
    exact (Sl.rf _ _)
  · have ⟨_, hc2, h⟩ := b_some h
    rcases g_if h with ⟨hq, h⟩ | ⟨hq, h⟩
    · have e := Option.some.inj h
      subst e
      exact (Sl.rf _ _)
    · have ⟨_, hc3, h⟩ := b_some h
      have qhc3 := f12_othersBlows_s hc3
      have ⟨_, hc4, h⟩ := b_some h
      have qhc4 := f12_othersBlows_s hc4
      have e := Option.some.inj h
      subst e
      exact (Sl.at (Sl.trans (Sl.at (Sl.trans (Sl.rf _ _) (Sl.mono qhc3 (fun c hw => by unfold Vm12_othersBlows at hw; unfold Vm12_worth; first | exact hw.elim | omega))) (by unfold Vm12_worth; omega)) (Sl.mono qhc4 (fun c hw => by unfold Vm12_othersBlows at hw; unfold Vm12_worth; first | exact hw.elim | omega))) (by unfold Vm12_worth; omega))
def Vm12_splits (c : Nat) : Prop := c = 18 ∨ c = 27 ∨ c = 32
set_option maxHeartbeats 1000000 in
theorem f12_splits_s127 {F : Nat} {i1 : Int32} {i2 : Int32} {r : Int32 × Mem} : ∀ (x3 : Int32) (x4 : Int32) (σ : Mem), m12_splits_127 F i1 i2 x3 x4 σ = some r → Sl (Vm12_splits) σ r.2 := by
  intro x3 x4 σ h
  unfold m12_splits_127 at h
  have ⟨_, hc1, h⟩ := b_some h
  have qhc1 := f12_laysBack_s hc1
  rcases g_if h with ⟨hq, h⟩ | ⟨hq, h⟩
  · have e := Option.some.inj h
    subst e
    exact (Sl.trans (Sl.rf _ _) (Sl.mono qhc1 (fun c hw => by unfold Vm12_laysBack at hw; unfold Vm12_splits; first | exact hw.elim | omega)))
  · have e := Option.some.inj h
    subst e
    exact (Sl.trans (Sl.rf _ _) (Sl.mono qhc1 (fun c hw => by unfold Vm12_laysBack at hw; unfold Vm12_splits; first | exact hw.elim | omega)))
set_option maxHeartbeats 1000000 in
theorem f12_splits_s66 {F : Nat} {i1 : Int32} {i2 : Int32} {r : Int32 × Mem} : ∀ (n : Nat) (x3 : Int32) (x4 : Int32) (x5 : Int32) (σ : Mem), m12_splits_66 F i1 i2 n x3 x4 x5 σ = some r → Sl (Vm12_splits) σ r.2 := by
  intro n
  induction n with
  | zero => intro x3 x4 x5 σ h; unfold m12_splits_66 at h; cases h
  | succ n ih =>
    intro x3 x4 x5 σ h
    unfold m12_splits_66 at h
    rcases g_if h with ⟨hq, h⟩ | ⟨hq, h⟩
    · exact Sl.trans (Sl.rf _ _) (f12_splits_s127 (F := F) _ _ _ h)
    · rcases g_if h with ⟨hq, h⟩ | ⟨hq, h⟩
      · exact Sl.trans (Sl.rf _ _) (f12_splits_s127 (F := F) _ _ _ h)
      · have ⟨_, hc1, h⟩ := b_some h
        have qhc1 := f12_passes_s hc1
        have ⟨hg, h⟩ := g_gd h
        have hb := inB_lt hg
        have ⟨hg, h⟩ := g_gd h
        have hb := inB_lt hg
        rcases g_if h with ⟨hq, h⟩ | ⟨hq, h⟩
        · have ⟨hg, h⟩ := g_gd h
          have hb := inB_lt hg
          have ⟨hg, h⟩ := g_gd h
          have hb := inB_lt hg
          exact Sl.trans (Sl.trans (Sl.rf _ _) (Sl.mono qhc1 (fun c hw => by unfold Vm12_passes at hw; unfold Vm12_splits; first | exact hw.elim | omega))) (ih _ _ _ _ h)
        · exact Sl.trans (Sl.trans (Sl.rf _ _) (Sl.mono qhc1 (fun c hw => by unfold Vm12_passes at hw; unfold Vm12_splits; first | exact hw.elim | omega))) (ih _ _ _ _ h)
set_option maxHeartbeats 1000000 in
theorem f12_splits_s {F : Nat} {i1 : Int32} {i2 : Int32} {σ : Mem} {r : Int32 × Mem} (h : m12_splits F i1 i2 σ = some r) : Sl (Vm12_splits) σ r.2 := by
  unfold m12_splits at h
  have ⟨_, hc1, h⟩ := b_some h
  rcases g_if h with ⟨hq, h⟩ | ⟨hq, h⟩
  · have e := Option.some.inj h
    subst e
    exact (Sl.rf _ _)
  · have ⟨_, hc2, h⟩ := b_some h
    rcases g_if h with ⟨hq, h⟩ | ⟨hq, h⟩
    · have e := Option.some.inj h
      subst e
      exact (Sl.rf _ _)
    · have ⟨_, hc3, h⟩ := b_some h
      rcases g_if h with ⟨hq, h⟩ | ⟨hq, h⟩
      · have e := Option.some.inj h
        subst e
        exact (Sl.rf _ _)
      · have ⟨hg, h⟩ := g_gd h
        have hb := inB_lt hg
        have ⟨hg, h⟩ := g_gd h
        have hb := inB_lt hg
        rcases g_if h with ⟨hq, h⟩ | ⟨hq, h⟩
        · have ⟨_, hc4, h⟩ := b_some h
          have qhc4 := f12_keeps_s hc4
          exact Sl.trans (Sl.trans (Sl.rf _ _) (Sl.mono qhc4 (fun c hw => by unfold Vm12_keeps at hw; unfold Vm12_splits; first | exact hw.elim | omega))) (f12_splits_s66 (F := F) F _ _ _ _ h)
        · have e := Option.some.inj h
          subst e
          exact (Sl.rf _ _)
def Vm12_laysOrder (c : Nat) : Prop := False
set_option maxHeartbeats 1000000 in
theorem f12_laysOrder_s59 {F : Nat} {i1 : Int32} {i2 : Int32} {r : Mem} {k45 : Int32 → Int32 → Int32 → Int32 → Int32 → Mem → Option (Mem)} (hk45 : ∀ (x3 : Int32) (x4 : Int32) (x5 : Int32) (x6 : Int32) (x7 : Int32) (σ : Mem), k45 x3 x4 x5 x6 x7 σ = some r → Sl (Vm12_laysOrder) σ r) : ∀ (x3 : Int32) (x4 : Int32) (x5 : Int32) (x6 : Int32) (x7 : Int32) (σ : Mem), m12_laysOrder_59 F i1 i2 k45 x3 x4 x5 x6 x7 σ = some r → Sl (Vm12_laysOrder) σ r := by
  intro x3 x4 x5 x6 x7 σ h
  unfold m12_laysOrder_59 at h
  have ⟨_, hc1, h⟩ := b_some h
  rcases g_if h with ⟨hq, h⟩ | ⟨hq, h⟩
  · exact Sl.trans (Sl.rf _ _) (hk45 _ _ _ _ _ _ h)
  · exact Sl.trans (Sl.rf _ _) (hk45 _ _ _ _ _ _ h)
set_option maxHeartbeats 1000000 in
theorem f12_laysOrder_s45 {F : Nat} {i1 : Int32} {i2 : Int32} {r : Mem} {k8 : Int32 → Int32 → Int32 → Mem → Option (Mem)} (hk8 : ∀ (x3 : Int32) (x4 : Int32) (x5 : Int32) (σ : Mem), k8 x3 x4 x5 σ = some r → Sl (Vm12_laysOrder) σ r) : ∀ (n : Nat) (x3 : Int32) (x4 : Int32) (x5 : Int32) (x6 : Int32) (x7 : Int32) (σ : Mem), m12_laysOrder_45 F i1 i2 k8 n x3 x4 x5 x6 x7 σ = some r → Sl (Vm12_laysOrder) σ r := by
  intro n
  induction n with
  | zero => intro x3 x4 x5 x6 x7 σ h; unfold m12_laysOrder_45 at h; cases h
  | succ n ih =>
    intro x3 x4 x5 x6 x7 σ h
    unfold m12_laysOrder_45 at h
    have ⟨_, hc1, h⟩ := b_some h
    rcases g_if h with ⟨hq, h⟩ | ⟨hq, h⟩
    · rcases g_if h with ⟨hq, h⟩ | ⟨hq, h⟩
      · have ⟨hg, h⟩ := g_gd h
        have hb := inB_lt hg
        have ⟨hg, h⟩ := g_gd h
        have hb := inB_lt hg
        exact Sl.trans (Sl.ne (Sl.rf _ _) (by decide)) (hk8 _ _ _ _ h)
      · exact Sl.trans (Sl.rf _ _) (f12_laysOrder_s59 (F := F) (fun _ _ _ _ _ _ h => (ih _ _ _ _ _ _ h)) _ _ _ _ _ _ h)
    · exact Sl.trans (Sl.rf _ _) (f12_laysOrder_s59 (F := F) (fun _ _ _ _ _ _ h => (ih _ _ _ _ _ _ h)) _ _ _ _ _ _ h)
set_option maxHeartbeats 1000000 in
theorem f12_laysOrder_s8 {F : Nat} {i1 : Int32} {i2 : Int32} {r : Mem} : ∀ (n : Nat) (x3 : Int32) (x4 : Int32) (x5 : Int32) (σ : Mem), m12_laysOrder_8 F i1 i2 n x3 x4 x5 σ = some r → Sl (Vm12_laysOrder) σ r := by
  intro n
  induction n with
  | zero => intro x3 x4 x5 σ h; unfold m12_laysOrder_8 at h; cases h
  | succ n ih =>
    intro x3 x4 x5 σ h
    unfold m12_laysOrder_8 at h
    rcases g_if h with ⟨hq, h⟩ | ⟨hq, h⟩
    · have e := Option.some.inj h
      subst e
      exact (Sl.rf _ _)
    · have ⟨_, hc1, h⟩ := b_some h
      have ⟨hg, h⟩ := g_gd h
      have ⟨_, hc2, h⟩ := b_some h
      have ⟨hg, h⟩ := g_gd h
      exact Sl.trans (Sl.rf _ _) (f12_laysOrder_s45 (F := F) (fun _ _ _ _ h => (ih _ _ _ _ h)) F _ _ _ _ _ _ h)
set_option maxHeartbeats 1000000 in
theorem f12_laysOrder_s {F : Nat} {i1 : Int32} {i2 : Int32} {σ : Mem} {r : Mem} (h : m12_laysOrder F i1 i2 σ = some r) : Sl (Vm12_laysOrder) σ r := by
  unfold m12_laysOrder at h
  exact Sl.trans (Sl.rf _ _) (f12_laysOrder_s8 (F := F) F _ _ _ _ h)
def Vm12_momentsBy (c : Nat) : Prop := c = 18 ∨ c = 27 ∨ c = 32
set_option maxHeartbeats 1000000 in
theorem f12_momentsBy_s96 {F : Nat} {i1 : Int32} {i2 : Int32} {r : Int32 × Mem} : ∀ (x3 : Int32) (σ : Mem), m12_momentsBy_96 F i1 i2 x3 σ = some r → Sl (Vm12_momentsBy) σ r.2 := by
  intro x3 σ h
  unfold m12_momentsBy_96 at h
  have ⟨_, hc1, h⟩ := b_some h
  have qhc1 := f12_laysBack_s hc1
  have e := Option.some.inj h
  subst e
  exact (Sl.trans (Sl.rf _ _) (Sl.mono qhc1 (fun c hw => by unfold Vm12_laysBack at hw; unfold Vm12_momentsBy; first | exact hw.elim | omega)))
set_option maxHeartbeats 1000000 in
theorem f12_momentsBy_s85 {F : Nat} {i1 : Int32} {i2 : Int32} {r : Int32 × Mem} {k62 : Int32 → Int32 → Mem → Option (Int32 × Mem)} (hk62 : ∀ (x3 : Int32) (x4 : Int32) (σ : Mem), k62 x3 x4 σ = some r → Sl (Vm12_momentsBy) σ r.2) : ∀ (x3 : Int32) (x4 : Int32) (σ : Mem), m12_momentsBy_85 F i1 i2 k62 x3 x4 σ = some r → Sl (Vm12_momentsBy) σ r.2 := by
  intro x3 x4 σ h
  unfold m12_momentsBy_85 at h
  have ⟨_, hc1, h⟩ := b_some h
  have qhc1 := f12_passes_s hc1
  exact Sl.trans (Sl.trans (Sl.rf _ _) (Sl.mono qhc1 (fun c hw => by unfold Vm12_passes at hw; unfold Vm12_momentsBy; first | exact hw.elim | omega))) (hk62 _ _ _ h)
set_option maxHeartbeats 1000000 in
theorem f12_momentsBy_s62 {F : Nat} {i1 : Int32} {i2 : Int32} {r : Int32 × Mem} : ∀ (n : Nat) (x3 : Int32) (x4 : Int32) (σ : Mem), m12_momentsBy_62 F i1 i2 n x3 x4 σ = some r → Sl (Vm12_momentsBy) σ r.2 := by
  intro n
  induction n with
  | zero => intro x3 x4 σ h; unfold m12_momentsBy_62 at h; cases h
  | succ n ih =>
    intro x3 x4 σ h
    unfold m12_momentsBy_62 at h
    rcases g_if h with ⟨hq, h⟩ | ⟨hq, h⟩
    · exact Sl.trans (Sl.rf _ _) (f12_momentsBy_s96 (F := F) _ _ h)
    · rcases g_if h with ⟨hq, h⟩ | ⟨hq, h⟩
      · exact Sl.trans (Sl.rf _ _) (f12_momentsBy_s96 (F := F) _ _ h)
      · have ⟨_, hc1, h⟩ := b_some h
        rcases g_if h with ⟨hq, h⟩ | ⟨hq, h⟩
        · exact Sl.trans (Sl.rf _ _) (f12_momentsBy_s85 (F := F) (fun _ _ _ h => (ih _ _ _ h)) _ _ _ h)
        · exact Sl.trans (Sl.rf _ _) (f12_momentsBy_s85 (F := F) (fun _ _ _ h => (ih _ _ _ h)) _ _ _ h)
set_option maxHeartbeats 1000000 in
theorem f12_momentsBy_s36 {F : Nat} {i1 : Int32} {i2 : Int32} {r : Int32 × Mem} : ∀ (n : Nat) (x3 : Int32) (x4 : Int32) (σ : Mem), m12_momentsBy_36 F i1 i2 n x3 x4 σ = some r → Sl (Vm12_momentsBy) σ r.2 := by
  intro n
  induction n with
  | zero => intro x3 x4 σ h; unfold m12_momentsBy_36 at h; cases h
  | succ n ih =>
    intro x3 x4 σ h
    unfold m12_momentsBy_36 at h
    rcases g_if h with ⟨hq, h⟩ | ⟨hq, h⟩
    · exact Sl.trans (Sl.rf _ _) (f12_momentsBy_s62 (F := F) F _ _ _ h)
    · have ⟨hg, h⟩ := g_gd h
      have hb := inB_lt hg
      have ⟨_, hc1, h⟩ := b_some h
      have qhc1 := f12_putsBehind_s hc1
      exact Sl.trans (Sl.trans (Sl.rf _ _) (Sl.mono qhc1 (fun c hw => by unfold Vm12_putsBehind at hw; unfold Vm12_momentsBy; first | exact hw.elim | omega))) (ih _ _ _ h)
set_option maxHeartbeats 1000000 in
theorem f12_momentsBy_s {F : Nat} {i1 : Int32} {i2 : Int32} {σ : Mem} {r : Int32 × Mem} (h : m12_momentsBy F i1 i2 σ = some r) : Sl (Vm12_momentsBy) σ r.2 := by
  unfold m12_momentsBy at h
  have ⟨_, hc1, h⟩ := b_some h
  have qhc1 := f12_keeps_s hc1
  have ⟨hg, h⟩ := g_gd h
  have hb := inB_lt hg
  have ⟨_, hc2, h⟩ := b_some h
  rcases g_if h with ⟨hq, h⟩ | ⟨hq, h⟩
  · exact Sl.trans (Sl.trans (Sl.rf _ _) (Sl.mono qhc1 (fun c hw => by unfold Vm12_keeps at hw; unfold Vm12_momentsBy; first | exact hw.elim | omega))) (f12_momentsBy_s36 (F := F) F _ _ _ h)
  · have ⟨hg, h⟩ := g_gd h
    have hb := inB_lt hg
    exact Sl.trans (Sl.ne (Sl.trans (Sl.rf _ _) (Sl.mono qhc1 (fun c hw => by unfold Vm12_keeps at hw; unfold Vm12_momentsBy; first | exact hw.elim | omega))) (by decide)) (f12_momentsBy_s36 (F := F) F _ _ _ h)
def Vm12_order (c : Nat) : Prop := c = 18 ∨ c = 27 ∨ c = 32
set_option maxHeartbeats 1000000 in
theorem f12_order_s153 {F : Nat} {i1 : Int32} {i2 : Int32} {r : Int32 × Mem} {k102 : Int32 → Int32 → Int32 → Mem → Option (Int32 × Mem)} (hk102 : ∀ (x3 : Int32) (x4 : Int32) (x5 : Int32) (σ : Mem), k102 x3 x4 x5 σ = some r → Sl (Vm12_order) σ r.2) : ∀ (n : Nat) (x3 : Int32) (x4 : Int32) (x5 : Int32) (x7 : Int32) (σ : Mem), m12_order_153 F i1 i2 k102 n x3 x4 x5 x7 σ = some r → Sl (Vm12_order) σ r.2 := by
  intro n
  induction n with
  | zero => intro x3 x4 x5 x7 σ h; unfold m12_order_153 at h; cases h
  | succ n ih =>
    intro x3 x4 x5 x7 σ h
    unfold m12_order_153 at h
    rcases g_if h with ⟨hq, h⟩ | ⟨hq, h⟩
    · exact Sl.trans (Sl.rf _ _) (hk102 _ _ _ _ h)
    · have ⟨hg, h⟩ := g_gd h
      have hb := inB_lt hg
      have ⟨hg, h⟩ := g_gd h
      have hb := inB_lt hg
      exact Sl.trans (Sl.ne (Sl.rf _ _) (by decide)) (ih _ _ _ _ _ h)
set_option maxHeartbeats 1000000 in
theorem f12_order_s102 {F : Nat} {i1 : Int32} {i2 : Int32} {r : Int32 × Mem} : ∀ (n : Nat) (x3 : Int32) (x4 : Int32) (x5 : Int32) (σ : Mem), m12_order_102 F i1 i2 n x3 x4 x5 σ = some r → Sl (Vm12_order) σ r.2 := by
  intro n
  induction n with
  | zero => intro x3 x4 x5 σ h; unfold m12_order_102 at h; cases h
  | succ n ih =>
    intro x3 x4 x5 σ h
    unfold m12_order_102 at h
    have ⟨_, hc1, h⟩ := b_some h
    rcases g_if h with ⟨hq, h⟩ | ⟨hq, h⟩
    · rcases g_if h with ⟨hq, h⟩ | ⟨hq, h⟩
      · have e := Option.some.inj h
        subst e
        exact (Sl.rf _ _)
      · rcases g_if h with ⟨hq, h⟩ | ⟨hq, h⟩
        · rcases g_if h with ⟨hq, h⟩ | ⟨hq, h⟩
          · have ⟨hg, h⟩ := g_gd h
            have hb := inB_lt hg
            have e := Option.some.inj h
            subst e
            exact (Sl.rf _ _)
          · have ⟨hg, h⟩ := g_gd h
            have hb := inB_lt hg
            have e := Option.some.inj h
            subst e
            exact (Sl.rf _ _)
        · have e := Option.some.inj h
          subst e
          exact (Sl.rf _ _)
    · have ⟨_, hc2, h⟩ := b_some h
      have qhc2 := f12_laysOrder_s hc2
      have ⟨_, hc3, h⟩ := b_some h
      have qhc3 := f12_momentsBy_s hc3
      rcases g_if h with ⟨hq, h⟩ | ⟨hq, h⟩
      · exact Sl.trans (Sl.trans (Sl.trans (Sl.rf _ _) (Sl.mono qhc2 (fun c hw => by unfold Vm12_laysOrder at hw; unfold Vm12_order; first | exact hw.elim | omega))) (Sl.mono qhc3 (fun c hw => by unfold Vm12_momentsBy at hw; unfold Vm12_order; first | exact hw.elim | omega))) (ih _ _ _ _ h)
      · rcases g_if h with ⟨hq, h⟩ | ⟨hq, h⟩
        · exact Sl.trans (Sl.trans (Sl.trans (Sl.rf _ _) (Sl.mono qhc2 (fun c hw => by unfold Vm12_laysOrder at hw; unfold Vm12_order; first | exact hw.elim | omega))) (Sl.mono qhc3 (fun c hw => by unfold Vm12_momentsBy at hw; unfold Vm12_order; first | exact hw.elim | omega))) (f12_order_s153 (F := F) (fun _ _ _ _ h => (ih _ _ _ _ h)) F _ _ _ _ _ h)
        · rcases g_if h with ⟨hq, h⟩ | ⟨hq, h⟩
          · exact Sl.trans (Sl.trans (Sl.trans (Sl.rf _ _) (Sl.mono qhc2 (fun c hw => by unfold Vm12_laysOrder at hw; unfold Vm12_order; first | exact hw.elim | omega))) (Sl.mono qhc3 (fun c hw => by unfold Vm12_momentsBy at hw; unfold Vm12_order; first | exact hw.elim | omega))) (f12_order_s153 (F := F) (fun _ _ _ _ h => (ih _ _ _ _ h)) F _ _ _ _ _ h)
          · exact Sl.trans (Sl.trans (Sl.trans (Sl.rf _ _) (Sl.mono qhc2 (fun c hw => by unfold Vm12_laysOrder at hw; unfold Vm12_order; first | exact hw.elim | omega))) (Sl.mono qhc3 (fun c hw => by unfold Vm12_momentsBy at hw; unfold Vm12_order; first | exact hw.elim | omega))) (ih _ _ _ _ h)
set_option maxHeartbeats 1000000 in
theorem f12_order_s27 {F : Nat} {i1 : Int32} {i2 : Int32} {r : Int32 × Mem} : ∀ (n : Nat) (x3 : Int32) (x4 : Int32) (σ : Mem), m12_order_27 F i1 i2 n x3 x4 σ = some r → Sl (Vm12_order) σ r.2 := by
  intro n
  induction n with
  | zero => intro x3 x4 σ h; unfold m12_order_27 at h; cases h
  | succ n ih =>
    intro x3 x4 σ h
    unfold m12_order_27 at h
    have ⟨hg, h⟩ := g_gd h
    have hb := inB_lt hg
    rcases g_if h with ⟨hq, h⟩ | ⟨hq, h⟩
    · rcases g_if h with ⟨hq, h⟩ | ⟨hq, h⟩
      · rcases g_if h with ⟨hq, h⟩ | ⟨hq, h⟩
        · rcases g_if h with ⟨hq, h⟩ | ⟨hq, h⟩
          · have ⟨hg, h⟩ := g_gd h
            have hb := inB_lt hg
            have e := Option.some.inj h
            subst e
            exact (Sl.rf _ _)
          · have e := Option.some.inj h
            subst e
            exact (Sl.rf _ _)
        · exact Sl.trans (Sl.rf _ _) (f12_order_s102 (F := F) F _ _ _ _ h)
      · have e := Option.some.inj h
        subst e
        exact (Sl.rf _ _)
    · have ⟨_, hc1, h⟩ := b_some h
      rcases g_if h with ⟨hq, h⟩ | ⟨hq, h⟩
      · exact Sl.trans (Sl.rf _ _) (ih _ _ _ h)
      · have ⟨hg, h⟩ := g_gd h
        have hb := inB_lt hg
        exact Sl.trans (Sl.ne (Sl.rf _ _) (by decide)) (ih _ _ _ h)
set_option maxHeartbeats 1000000 in
theorem f12_order_s {F : Nat} {i1 : Int32} {i2 : Int32} {σ : Mem} {r : Int32 × Mem} (h : m12_order F i1 i2 σ = some r) : Sl (Vm12_order) σ r.2 := by
  unfold m12_order at h
  have ⟨_, hc1, h⟩ := b_some h
  rcases g_if h with ⟨hq, h⟩ | ⟨hq, h⟩
  · have e := Option.some.inj h
    subst e
    exact (Sl.rf _ _)
  · have ⟨_, hc2, h⟩ := b_some h
    rcases g_if h with ⟨hq, h⟩ | ⟨hq, h⟩
    · have e := Option.some.inj h
      subst e
      exact (Sl.rf _ _)
    · exact Sl.trans (Sl.rf _ _) (f12_order_s27 (F := F) F _ _ _ h)
def Vm12_note (c : Nat) : Prop := False
set_option maxHeartbeats 1000000 in
theorem f12_note_s {F : Nat} {i1 : Int32} {i2 : Int32} {i3 : Int32} {σ : Mem} {r : Int32 × Mem} (h : m12_note F i1 i2 i3 σ = some r) : Sl (Vm12_note) σ r.2 := by
  unfold m12_note at h
  rcases g_if h with ⟨hq, h⟩ | ⟨hq, h⟩
  · have ⟨hg, h⟩ := g_gd h
    have hb := inB_lt hg
    have e := Option.some.inj h
    subst e
    exact (Sl.ne (Sl.rf _ _) (by decide))
  · have ⟨_, hc1, h⟩ := b_some h
    rcases g_if h with ⟨hq, h⟩ | ⟨hq, h⟩
    · have e := Option.some.inj h
      subst e
      exact (Sl.rf _ _)
    · have ⟨_, hc2, h⟩ := b_some h
      rcases g_if h with ⟨hq, h⟩ | ⟨hq, h⟩
      · have e := Option.some.inj h
        subst e
        exact (Sl.rf _ _)
      · have ⟨_, hc3, h⟩ := b_some h
        rcases g_if h with ⟨hq, h⟩ | ⟨hq, h⟩
        · have e := Option.some.inj h
          subst e
          exact (Sl.rf _ _)
        · have ⟨_, hc4, h⟩ := b_some h
          rcases g_if h with ⟨hq, h⟩ | ⟨hq, h⟩
          · have e := Option.some.inj h
            subst e
            exact (Sl.rf _ _)
          · have ⟨hg, h⟩ := g_gd h
            have hb := inB_lt hg
            rcases g_if h with ⟨hq, h⟩ | ⟨hq, h⟩
            · have e := Option.some.inj h
              subst e
              exact (Sl.rf _ _)
            · have ⟨hg, h⟩ := g_gd h
              have hb := inB_lt hg
              have ⟨hg, h⟩ := g_gd h
              have hb := inB_lt hg
              have ⟨hg, h⟩ := g_gd h
              have hb := inB_lt hg
              have ⟨hg, h⟩ := g_gd h
              have hb := inB_lt hg
              have ⟨hg, h⟩ := g_gd h
              have hb := inB_lt hg
              have ⟨hg, h⟩ := g_gd h
              have hb := inB_lt hg
              have ⟨hg, h⟩ := g_gd h
              have hb := inB_lt hg
              have e := Option.some.inj h
              subst e
              exact (Sl.ne (Sl.ne (Sl.ne (Sl.ne (Sl.rf _ _) (by decide)) (by decide)) (by decide)) (by decide))
def Vm12_begins (c : Nat) : Prop := False
set_option maxHeartbeats 1000000 in
theorem f12_begins_s123 {F : Nat} {r : Mem} : ∀ (n : Nat) (x1 : Int32) (σ : Mem), m12_begins_123 F n x1 σ = some r → Sl (Vm12_begins) σ r := by
  intro n
  induction n with
  | zero => intro x1 σ h; unfold m12_begins_123 at h; cases h
  | succ n ih =>
    intro x1 σ h
    unfold m12_begins_123 at h
    rcases g_if h with ⟨hq, h⟩ | ⟨hq, h⟩
    · have e := Option.some.inj h
      subst e
      exact (Sl.rf _ _)
    · have ⟨hg, h⟩ := g_gd h
      have hb := inB_lt hg
      have ⟨hg, h⟩ := g_gd h
      have hb := inB_lt hg
      exact Sl.trans (Sl.ne (Sl.rf _ _) (by decide)) (ih _ _ h)
set_option maxHeartbeats 1000000 in
theorem f12_begins_s61 {F : Nat} {r : Mem} : ∀ (n : Nat) (x1 : Int32) (σ : Mem), m12_begins_61 F n x1 σ = some r → Sl (Vm12_begins) σ r := by
  intro n
  induction n with
  | zero => intro x1 σ h; unfold m12_begins_61 at h; cases h
  | succ n ih =>
    intro x1 σ h
    unfold m12_begins_61 at h
    have ⟨hg, h⟩ := g_gd h
    have hb := inB_lt hg
    rcases g_if h with ⟨hq, h⟩ | ⟨hq, h⟩
    · exact Sl.trans (Sl.rf _ _) (f12_begins_s123 (F := F) F _ _ h)
    · have ⟨hg, h⟩ := g_gd h
      have hb := inB_lt hg
      have ⟨hg, h⟩ := g_gd h
      have hb := inB_lt hg
      have ⟨hg, h⟩ := g_gd h
      have hb := inB_lt hg
      have ⟨hg, h⟩ := g_gd h
      have hb := inB_lt hg
      exact Sl.trans (Sl.ne (Sl.ne (Sl.ne (Sl.rf _ _) (by decide)) (by decide)) (by decide)) (ih _ _ h)
set_option maxHeartbeats 1000000 in
theorem f12_begins_s21 {F : Nat} {r : Mem} {k9 : Int32 → Mem → Option (Mem)} (hk9 : ∀ (x1 : Int32) (σ : Mem), k9 x1 σ = some r → Sl (Vm12_begins) σ r) : ∀ (n : Nat) (x1 : Int32) (x2 : Int32) (σ : Mem), m12_begins_21 F k9 n x1 x2 σ = some r → Sl (Vm12_begins) σ r := by
  intro n
  induction n with
  | zero => intro x1 x2 σ h; unfold m12_begins_21 at h; cases h
  | succ n ih =>
    intro x1 x2 σ h
    unfold m12_begins_21 at h
    rcases g_if h with ⟨hq, h⟩ | ⟨hq, h⟩
    · exact Sl.trans (Sl.rf _ _) (hk9 _ _ h)
    · rcases g_if h with ⟨hq, h⟩ | ⟨hq, h⟩
      · exact Sl.trans (Sl.rf _ _) (ih _ _ _ h)
      · have ⟨hg, h⟩ := g_gd h
        have hb := inB_lt hg
        exact Sl.trans (Sl.ne (Sl.rf _ _) (by decide)) (ih _ _ _ h)
set_option maxHeartbeats 1000000 in
theorem f12_begins_s9 {F : Nat} {r : Mem} : ∀ (n : Nat) (x1 : Int32) (σ : Mem), m12_begins_9 F n x1 σ = some r → Sl (Vm12_begins) σ r := by
  intro n
  induction n with
  | zero => intro x1 σ h; unfold m12_begins_9 at h; cases h
  | succ n ih =>
    intro x1 σ h
    unfold m12_begins_9 at h
    have ⟨hg, h⟩ := g_gd h
    have hb := inB_lt hg
    rcases g_if h with ⟨hq, h⟩ | ⟨hq, h⟩
    · exact Sl.trans (Sl.rf _ _) (f12_begins_s61 (F := F) F _ _ h)
    · exact Sl.trans (Sl.rf _ _) (f12_begins_s21 (F := F) (fun _ _ h => (ih _ _ h)) F _ _ _ h)
set_option maxHeartbeats 1000000 in
theorem f12_begins_s {F : Nat} {σ : Mem} {r : Mem} (h : m12_begins F  σ = some r) : Sl (Vm12_begins) σ r := by
  unfold m12_begins at h
  have ⟨hg, h⟩ := g_gd h
  have hb := inB_lt hg
  exact Sl.trans (Sl.ne (Sl.rf _ _) (by decide)) (f12_begins_s9 (F := F) F _ _ h)
def Vm12_gathersRules (c : Nat) : Prop := c = 18 ∨ c = 21 ∨ c = 27 ∨ c = 32
set_option maxHeartbeats 1000000 in
theorem f12_gathersRules_s116 {F : Nat} {i1 : Int32} {r : Mem} {k40 : Int32 → Int32 → Int32 → Mem → Option (Mem)} (hk40 : ∀ (x2 : Int32) (x3 : Int32) (x4 : Int32) (σ : Mem), k40 x2 x3 x4 σ = some r → Sl (Vm12_gathersRules) σ r) : ∀ (x2 : Int32) (x3 : Int32) (x4 : Int32) (σ : Mem), m12_gathersRules_116 F i1 k40 x2 x3 x4 σ = some r → Sl (Vm12_gathersRules) σ r := by
  intro x2 x3 x4 σ h
  unfold m12_gathersRules_116 at h
  have ⟨_, hc1, h⟩ := b_some h
  have qhc1 := f12_passes_s hc1
  exact Sl.trans (Sl.trans (Sl.rf _ _) (Sl.mono qhc1 (fun c hw => by unfold Vm12_passes at hw; unfold Vm12_gathersRules; first | exact hw.elim | omega))) (hk40 _ _ _ _ h)
set_option maxHeartbeats 1000000 in
theorem f12_gathersRules_s77 {F : Nat} {i1 : Int32} {r : Mem} {k40 : Int32 → Int32 → Int32 → Mem → Option (Mem)} (hk40 : ∀ (x2 : Int32) (x3 : Int32) (x4 : Int32) (σ : Mem), k40 x2 x3 x4 σ = some r → Sl (Vm12_gathersRules) σ r) : ∀ (n : Nat) (x2 : Int32) (x3 : Int32) (x4 : Int32) (x5 : Int32) (σ : Mem), m12_gathersRules_77 F i1 k40 n x2 x3 x4 x5 σ = some r → Sl (Vm12_gathersRules) σ r := by
  intro n
  induction n with
  | zero => intro x2 x3 x4 x5 σ h; unfold m12_gathersRules_77 at h; cases h
  | succ n ih =>
    intro x2 x3 x4 x5 σ h
    unfold m12_gathersRules_77 at h
    rcases g_if h with ⟨hq, h⟩ | ⟨hq, h⟩
    · exact Sl.trans (Sl.rf _ _) (f12_gathersRules_s116 (F := F) (fun _ _ _ _ h => (hk40 _ _ _ _ h)) _ _ _ _ h)
    · rcases g_if h with ⟨hq, h⟩ | ⟨hq, h⟩
      · have ⟨hg, h⟩ := g_gd h
        have hb := inB_lt hg
        have ⟨hg, h⟩ := g_gd h
        have hb := inB_lt hg
        exact Sl.trans (Sl.ne (Sl.rf _ _) (by decide)) (ih _ _ _ _ _ h)
      · exact Sl.trans (Sl.rf _ _) (f12_gathersRules_s116 (F := F) (fun _ _ _ _ h => (hk40 _ _ _ _ h)) _ _ _ _ h)
set_option maxHeartbeats 1000000 in
theorem f12_gathersRules_s40 {F : Nat} {i1 : Int32} {r : Mem} {k11 : Int32 → Int32 → Mem → Option (Mem)} (hk11 : ∀ (x2 : Int32) (x3 : Int32) (σ : Mem), k11 x2 x3 σ = some r → Sl (Vm12_gathersRules) σ r) : ∀ (n : Nat) (x2 : Int32) (x3 : Int32) (x4 : Int32) (σ : Mem), m12_gathersRules_40 F i1 k11 n x2 x3 x4 σ = some r → Sl (Vm12_gathersRules) σ r := by
  intro n
  induction n with
  | zero => intro x2 x3 x4 σ h; unfold m12_gathersRules_40 at h; cases h
  | succ n ih =>
    intro x2 x3 x4 σ h
    unfold m12_gathersRules_40 at h
    rcases g_if h with ⟨hq, h⟩ | ⟨hq, h⟩
    · have ⟨_, hc1, h⟩ := b_some h
      have qhc1 := f12_laysBack_s hc1
      exact Sl.trans (Sl.trans (Sl.rf _ _) (Sl.mono qhc1 (fun c hw => by unfold Vm12_laysBack at hw; unfold Vm12_gathersRules; first | exact hw.elim | omega))) (hk11 _ _ _ h)
    · have ⟨hg, h⟩ := g_gd h
      have hb := inB_lt hg
      rcases g_if h with ⟨hq, h⟩ | ⟨hq, h⟩
      · have ⟨hg, h⟩ := g_gd h
        have hb := inB_lt hg
        exact Sl.trans (Sl.ne (Sl.rf _ _) (by decide)) (f12_gathersRules_s77 (F := F) (fun _ _ _ _ h => (ih _ _ _ _ h)) F _ _ _ _ _ h)
      · have ⟨_, hc1, h⟩ := b_some h
        rcases g_if h with ⟨hq, h⟩ | ⟨hq, h⟩
        · have ⟨hg, h⟩ := g_gd h
          have hb := inB_lt hg
          exact Sl.trans (Sl.ne (Sl.rf _ _) (by decide)) (f12_gathersRules_s77 (F := F) (fun _ _ _ _ h => (ih _ _ _ _ h)) F _ _ _ _ _ h)
        · have ⟨hg, h⟩ := g_gd h
          have hb := inB_lt hg
          exact Sl.trans (Sl.ne (Sl.rf _ _) (by decide)) (f12_gathersRules_s77 (F := F) (fun _ _ _ _ h => (ih _ _ _ _ h)) F _ _ _ _ _ h)
set_option maxHeartbeats 1000000 in
theorem f12_gathersRules_s11 {F : Nat} {i1 : Int32} {r : Mem} : ∀ (n : Nat) (x2 : Int32) (x3 : Int32) (σ : Mem), m12_gathersRules_11 F i1 n x2 x3 σ = some r → Sl (Vm12_gathersRules) σ r := by
  intro n
  induction n with
  | zero => intro x2 x3 σ h; unfold m12_gathersRules_11 at h; cases h
  | succ n ih =>
    intro x2 x3 σ h
    unfold m12_gathersRules_11 at h
    rcases g_if h with ⟨hq, h⟩ | ⟨hq, h⟩
    · have e := Option.some.inj h
      subst e
      exact (Sl.at (Sl.rf _ _) (by unfold Vm12_gathersRules; omega))
    · have ⟨_, hc1, h⟩ := b_some h
      have qhc1 := f12_begins_s hc1
      have ⟨hg, h⟩ := g_gd h
      have hb := inB_lt hg
      exact Sl.trans (Sl.ne (Sl.trans (Sl.at (Sl.rf _ _) (by unfold Vm12_gathersRules; omega)) (Sl.mono qhc1 (fun c hw => by unfold Vm12_begins at hw; unfold Vm12_gathersRules; first | exact hw.elim | omega))) (by decide)) (f12_gathersRules_s40 (F := F) (fun _ _ _ h => (ih _ _ _ h)) F _ _ _ _ h)
set_option maxHeartbeats 1000000 in
theorem f12_gathersRules_s {F : Nat} {i1 : Int32} {σ : Mem} {r : Mem} (h : m12_gathersRules F i1 σ = some r) : Sl (Vm12_gathersRules) σ r := by
  unfold m12_gathersRules at h
  have ⟨_, hc1, h⟩ := b_some h
  have qhc1 := f12_keeps_s hc1
  exact Sl.trans (Sl.trans (Sl.rf _ _) (Sl.mono qhc1 (fun c hw => by unfold Vm12_keeps at hw; unfold Vm12_gathersRules; first | exact hw.elim | omega))) (f12_gathersRules_s11 (F := F) F _ _ _ h)
def Vm12_ruled (c : Nat) : Prop := c = 18 ∨ c = 21 ∨ c = 27 ∨ c = 32
set_option maxHeartbeats 1000000 in
theorem f12_ruled_s36 {F : Nat} {i1 : Int32} {r : Int32 × Mem} : ∀ (n : Nat) (x2 : Int32) (x3 : Int32) (x4 : Int32) (σ : Mem), m12_ruled_36 F i1 n x2 x3 x4 σ = some r → Sl (Vm12_ruled) σ r.2 := by
  intro n
  induction n with
  | zero => intro x2 x3 x4 σ h; unfold m12_ruled_36 at h; cases h
  | succ n ih =>
    intro x2 x3 x4 σ h
    unfold m12_ruled_36 at h
    rcases g_if h with ⟨hq, h⟩ | ⟨hq, h⟩
    · rcases g_if h with ⟨hq, h⟩ | ⟨hq, h⟩
      · have e := Option.some.inj h
        subst e
        exact (Sl.rf _ _)
      · have e := Option.some.inj h
        subst e
        exact (Sl.rf _ _)
    · have ⟨hg, h⟩ := g_gd h
      have hb := inB_lt hg
      rcases g_if h with ⟨hq, h⟩ | ⟨hq, h⟩
      · exact Sl.trans (Sl.rf _ _) (ih _ _ _ _ h)
      · exact Sl.trans (Sl.rf _ _) (ih _ _ _ _ h)
set_option maxHeartbeats 1000000 in
theorem f12_ruled_s {F : Nat} {i1 : Int32} {σ : Mem} {r : Int32 × Mem} (h : m12_ruled F i1 σ = some r) : Sl (Vm12_ruled) σ r.2 := by
  unfold m12_ruled at h
  have ⟨_, hc1, h⟩ := b_some h
  rcases g_if h with ⟨hq, h⟩ | ⟨hq, h⟩
  · have e := Option.some.inj h
    subst e
    exact (Sl.rf _ _)
  · have ⟨_, hc2, h⟩ := b_some h
    rcases g_if h with ⟨hq, h⟩ | ⟨hq, h⟩
    · have e := Option.some.inj h
      subst e
      exact (Sl.rf _ _)
    · have ⟨_, hc3, h⟩ := b_some h
      have qhc3 := f12_gathersRules_s hc3
      exact Sl.trans (Sl.trans (Sl.rf _ _) (Sl.mono qhc3 (fun c hw => by unfold Vm12_gathersRules at hw; unfold Vm12_ruled; first | exact hw.elim | omega))) (f12_ruled_s36 (F := F) F _ _ _ _ h)
def Vm12_look (c : Nat) : Prop := c = 18 ∨ c = 21 ∨ c = 27 ∨ c = 32
set_option maxHeartbeats 1000000 in
theorem f12_look_s41 {F : Nat} {i1 : Int32} {i2 : Int32} {r : Int32 × Mem} : ∀ (n : Nat) (x3 : Int32) (x4 : Int32) (σ : Mem), m12_look_41 F i1 i2 n x3 x4 σ = some r → Sl (Vm12_look) σ r.2 := by
  intro n
  induction n with
  | zero => intro x3 x4 σ h; unfold m12_look_41 at h; cases h
  | succ n ih =>
    intro x3 x4 σ h
    unfold m12_look_41 at h
    rcases g_if h with ⟨hq, h⟩ | ⟨hq, h⟩
    · have ⟨_, hc1, h⟩ := b_some h
      rcases g_if h with ⟨hq, h⟩ | ⟨hq, h⟩
      · have e := Option.some.inj h
        subst e
        exact (Sl.rf _ _)
      · rcases g_if h with ⟨hq, h⟩ | ⟨hq, h⟩
        · have e := Option.some.inj h
          subst e
          exact (Sl.rf _ _)
        · have ⟨_, hc2, h⟩ := b_some h
          have e := Option.some.inj h
          subst e
          exact (Sl.rf _ _)
    · have ⟨_, hc1, h⟩ := b_some h
      have ⟨_, hc2, h⟩ := b_some h
      rcases g_if h with ⟨hq, h⟩ | ⟨hq, h⟩
      · exact Sl.trans (Sl.rf _ _) (ih _ _ _ h)
      · exact Sl.trans (Sl.rf _ _) (ih _ _ _ h)
set_option maxHeartbeats 1000000 in
theorem f12_look_s {F : Nat} {i1 : Int32} {i2 : Int32} {σ : Mem} {r : Int32 × Mem} (h : m12_look F i1 i2 σ = some r) : Sl (Vm12_look) σ r.2 := by
  unfold m12_look at h
  have ⟨_, hc1, h⟩ := b_some h
  rcases g_if h with ⟨hq, h⟩ | ⟨hq, h⟩
  · have e := Option.some.inj h
    subst e
    exact (Sl.rf _ _)
  · have ⟨_, hc2, h⟩ := b_some h
    rcases g_if h with ⟨hq, h⟩ | ⟨hq, h⟩
    · have e := Option.some.inj h
      subst e
      exact (Sl.rf _ _)
    · have ⟨_, hc3, h⟩ := b_some h
      rcases g_if h with ⟨hq, h⟩ | ⟨hq, h⟩
      · have e := Option.some.inj h
        subst e
        exact (Sl.rf _ _)
      · have ⟨_, hc4, h⟩ := b_some h
        have qhc4 := f12_gathersRules_s hc4
        exact Sl.trans (Sl.trans (Sl.rf _ _) (Sl.mono qhc4 (fun c hw => by unfold Vm12_gathersRules at hw; unfold Vm12_look; first | exact hw.elim | omega))) (f12_look_s41 (F := F) F _ _ _ h)
def Vm12_second (c : Nat) : Prop := c = 18 ∨ (26 ≤ c ∧ c ≤ 27) ∨ c = 32
set_option maxHeartbeats 1000000 in
theorem f12_second_s45 {F : Nat} {r : Int32 × Mem} : ∀ (x2 : Int32) (s0 : Int32) (σ : Mem), m12_second_45 F x2 s0 σ = some r → Sl (Vm12_second) σ r.2 := by
  intro x2 s0 σ h
  unfold m12_second_45 at h
  rcases g_if h with ⟨hq, h⟩ | ⟨hq, h⟩
  · have e := Option.some.inj h
    subst e
    exact (Sl.rf _ _)
  · have e := Option.some.inj h
    subst e
    exact (Sl.rf _ _)
set_option maxHeartbeats 1000000 in
theorem f12_second_s {F : Nat} {σ : Mem} {r : Int32 × Mem} (h : m12_second F  σ = some r) : Sl (Vm12_second) σ r.2 := by
  unfold m12_second at h
  have ⟨_, hc1, h⟩ := b_some h
  rcases g_if h with ⟨hq, h⟩ | ⟨hq, h⟩
  · have e := Option.some.inj h
    subst e
    exact (Sl.rf _ _)
  · have ⟨_, hc2, h⟩ := b_some h
    have qhc2 := f12_momentsLeft_s hc2
    have ⟨_, hc3, h⟩ := b_some h
    have qhc3 := f12_momentsLeft_s hc3
    rcases g_if h with ⟨hq, h⟩ | ⟨hq, h⟩
    · exact Sl.trans (Sl.at (Sl.trans (Sl.at (Sl.trans (Sl.rf _ _) (Sl.mono qhc2 (fun c hw => by unfold Vm12_momentsLeft at hw; unfold Vm12_second; first | exact hw.elim | omega))) (by unfold Vm12_second; omega)) (Sl.mono qhc3 (fun c hw => by unfold Vm12_momentsLeft at hw; unfold Vm12_second; first | exact hw.elim | omega))) (by unfold Vm12_second; omega)) (f12_second_s45 (F := F) _ _ _ h)
    · exact Sl.trans (Sl.at (Sl.trans (Sl.at (Sl.trans (Sl.rf _ _) (Sl.mono qhc2 (fun c hw => by unfold Vm12_momentsLeft at hw; unfold Vm12_second; first | exact hw.elim | omega))) (by unfold Vm12_second; omega)) (Sl.mono qhc3 (fun c hw => by unfold Vm12_momentsLeft at hw; unfold Vm12_second; first | exact hw.elim | omega))) (by unfold Vm12_second; omega)) (f12_second_s45 (F := F) _ _ _ h)
def Vm12_seed (c : Nat) : Prop := c = 22
set_option maxHeartbeats 1000000 in
theorem f12_seed_s {F : Nat} {i1 : Int32} {σ : Mem} {r : Int32 × Mem} (h : m12_seed F i1 σ = some r) : Sl (Vm12_seed) σ r.2 := by
  unfold m12_seed at h
  rcases g_if h with ⟨hq, h⟩ | ⟨hq, h⟩
  · have e := Option.some.inj h
    subst e
    exact (Sl.at (Sl.rf _ _) (by unfold Vm12_seed; omega))
  · have e := Option.some.inj h
    subst e
    exact (Sl.rf _ _)
def Vm12_draw (c : Nat) : Prop := False
set_option maxHeartbeats 1000000 in
theorem f12_draw_s {F : Nat} {i1 : Int32} {σ : Mem} {r : Int32 × Mem} (h : m12_draw F i1 σ = some r) : Sl (Vm12_draw) σ r.2 := by
  unfold m12_draw at h
  have ⟨hg, h⟩ := g_gd h
  have e := Option.some.inj h
  subst e
  exact (Sl.sL (Sl.rf _ _))
def Vm12_days (c : Nat) : Prop := c = 18 ∨ (27 ≤ c ∧ c ≤ 28) ∨ c = 32
set_option maxHeartbeats 1000000 in
theorem f12_days_s116 {F : Nat} {i1 : Int32} {i2 : Int32} {i3 : Int32} {i4 : Int32} {r : Int32 × Mem} {k94 : Int32 → Int32 → Int32 → Int32 → Int32 → Mem → Option (Int32 × Mem)} (hk94 : ∀ (x5 : Int32) (x6 : Int32) (x7 : Int32) (x8 : Int32) (x9 : Int32) (σ : Mem), k94 x5 x6 x7 x8 x9 σ = some r → Sl (Vm12_days) σ r.2) : ∀ (x5 : Int32) (x6 : Int32) (x7 : Int32) (x8 : Int32) (x9 : Int32) (s1 : Int32) (σ : Mem), m12_days_116 F i1 i2 i3 i4 k94 x5 x6 x7 x8 x9 s1 σ = some r → Sl (Vm12_days) σ r.2 := by
  intro x5 x6 x7 x8 x9 s1 σ h
  unfold m12_days_116 at h
  have ⟨hg, h⟩ := g_gd h
  have ⟨_, hc1, h⟩ := b_some h
  have qhc1 := f12_passes_s hc1
  exact Sl.trans (Sl.trans (Sl.at (Sl.rf _ _) (by unfold Vm12_days; omega)) (Sl.mono qhc1 (fun c hw => by unfold Vm12_passes at hw; unfold Vm12_days; first | exact hw.elim | omega))) (hk94 _ _ _ _ _ _ h)
set_option maxHeartbeats 1000000 in
theorem f12_days_s94 {F : Nat} {i1 : Int32} {i2 : Int32} {i3 : Int32} {i4 : Int32} {r : Int32 × Mem} {k78 : Int32 → Int32 → Int32 → Mem → Option (Int32 × Mem)} (hk78 : ∀ (x5 : Int32) (x6 : Int32) (x7 : Int32) (σ : Mem), k78 x5 x6 x7 σ = some r → Sl (Vm12_days) σ r.2) : ∀ (n : Nat) (x5 : Int32) (x6 : Int32) (x7 : Int32) (x8 : Int32) (x9 : Int32) (σ : Mem), m12_days_94 F i1 i2 i3 i4 k78 n x5 x6 x7 x8 x9 σ = some r → Sl (Vm12_days) σ r.2 := by
  intro n
  induction n with
  | zero => intro x5 x6 x7 x8 x9 σ h; unfold m12_days_94 at h; cases h
  | succ n ih =>
    intro x5 x6 x7 x8 x9 σ h
    unfold m12_days_94 at h
    rcases g_if h with ⟨hq, h⟩ | ⟨hq, h⟩
    · have ⟨_, hc1, h⟩ := b_some h
      have ⟨_, hc2, h⟩ := b_some h
      have qhc2 := f12_laysBack_s hc2
      exact Sl.trans (Sl.trans (Sl.rf _ _) (Sl.mono qhc2 (fun c hw => by unfold Vm12_laysBack at hw; unfold Vm12_days; first | exact hw.elim | omega))) (hk78 _ _ _ _ h)
    · have ⟨_, hc1, h⟩ := b_some h
      have qhc1 := f12_draw_s hc1
      rcases g_if h with ⟨hq, h⟩ | ⟨hq, h⟩
      · exact Sl.trans (Sl.trans (Sl.rf _ _) (Sl.mono qhc1 (fun c hw => by unfold Vm12_draw at hw; unfold Vm12_days; first | exact hw.elim | omega))) (f12_days_s116 (F := F) (fun _ _ _ _ _ _ h => (ih _ _ _ _ _ _ h)) _ _ _ _ _ _ _ h)
      · exact Sl.trans (Sl.trans (Sl.rf _ _) (Sl.mono qhc1 (fun c hw => by unfold Vm12_draw at hw; unfold Vm12_days; first | exact hw.elim | omega))) (f12_days_s116 (F := F) (fun _ _ _ _ _ _ h => (ih _ _ _ _ _ _ h)) _ _ _ _ _ _ _ h)
set_option maxHeartbeats 1000000 in
theorem f12_days_s78 {F : Nat} {i1 : Int32} {i2 : Int32} {i3 : Int32} {i4 : Int32} {r : Int32 × Mem} : ∀ (n : Nat) (x5 : Int32) (x6 : Int32) (x7 : Int32) (σ : Mem), m12_days_78 F i1 i2 i3 i4 n x5 x6 x7 σ = some r → Sl (Vm12_days) σ r.2 := by
  intro n
  induction n with
  | zero => intro x5 x6 x7 σ h; unfold m12_days_78 at h; cases h
  | succ n ih =>
    intro x5 x6 x7 σ h
    unfold m12_days_78 at h
    rcases g_if h with ⟨hq, h⟩ | ⟨hq, h⟩
    · rcases g_if h with ⟨hq, h⟩ | ⟨hq, h⟩
      · have e := Option.some.inj h
        subst e
        exact (Sl.at (Sl.rf _ _) (by unfold Vm12_days; omega))
      · have e := Option.some.inj h
        subst e
        exact (Sl.at (Sl.rf _ _) (by unfold Vm12_days; omega))
    · have ⟨_, hc1, h⟩ := b_some h
      exact Sl.trans (Sl.rf _ _) (f12_days_s94 (F := F) (fun _ _ _ _ h => (ih _ _ _ _ h)) F _ _ _ _ _ _ h)
set_option maxHeartbeats 1000000 in
theorem f12_days_s {F : Nat} {i1 : Int32} {i2 : Int32} {i3 : Int32} {i4 : Int32} {σ : Mem} {r : Int32 × Mem} (h : m12_days F i1 i2 i3 i4 σ = some r) : Sl (Vm12_days) σ r.2 := by
  unfold m12_days at h
  have ⟨_, hc1, h⟩ := b_some h
  rcases g_if h with ⟨hq, h⟩ | ⟨hq, h⟩
  · have e := Option.some.inj h
    subst e
    exact (Sl.rf _ _)
  · have ⟨_, hc2, h⟩ := b_some h
    rcases g_if h with ⟨hq, h⟩ | ⟨hq, h⟩
    · have e := Option.some.inj h
      subst e
      exact (Sl.rf _ _)
    · have ⟨_, hc3, h⟩ := b_some h
      rcases g_if h with ⟨hq, h⟩ | ⟨hq, h⟩
      · have e := Option.some.inj h
        subst e
        exact (Sl.rf _ _)
      · have ⟨_, hc4, h⟩ := b_some h
        rcases g_if h with ⟨hq, h⟩ | ⟨hq, h⟩
        · have e := Option.some.inj h
          subst e
          exact (Sl.rf _ _)
        · have ⟨_, hc5, h⟩ := b_some h
          rcases g_if h with ⟨hq, h⟩ | ⟨hq, h⟩
          · have e := Option.some.inj h
            subst e
            exact (Sl.rf _ _)
          · have ⟨_, hc6, h⟩ := b_some h
            have qhc6 := f12_keeps_s hc6
            exact Sl.trans (Sl.trans (Sl.sL (Sl.rf _ _)) (Sl.mono qhc6 (fun c hw => by unfold Vm12_keeps at hw; unfold Vm12_days; first | exact hw.elim | omega))) (f12_days_s78 (F := F) F _ _ _ _ h)
def Vm12_image (c : Nat) : Prop := False
set_option maxHeartbeats 1000000 in
theorem f12_image_s43 {F : Nat} {i1 : Int32} {r : Int32 × Mem} : ∀ (n : Nat) (x2 : Int32) (σ : Mem), m12_image_43 F i1 n x2 σ = some r → Sl (Vm12_image) σ r.2 := by
  intro n
  induction n with
  | zero => intro x2 σ h; unfold m12_image_43 at h; cases h
  | succ n ih =>
    intro x2 σ h
    unfold m12_image_43 at h
    rcases g_if h with ⟨hq, h⟩ | ⟨hq, h⟩
    · have ⟨hg, h⟩ := g_gd h
      have hb := inB_lt hg
      have e := Option.some.inj h
      subst e
      exact (Sl.rf _ _)
    · have ⟨hg, h⟩ := g_gd h
      have hb := inB_lt hg
      have ⟨hg, h⟩ := g_gd h
      have hb := inB_lt hg
      exact Sl.trans (Sl.ne (Sl.rf _ _) (by decide)) (ih _ _ h)
set_option maxHeartbeats 1000000 in
theorem f12_image_s {F : Nat} {i1 : Int32} {σ : Mem} {r : Int32 × Mem} (h : m12_image F i1 σ = some r) : Sl (Vm12_image) σ r.2 := by
  unfold m12_image at h
  have ⟨_, hc1, h⟩ := b_some h
  rcases g_if h with ⟨hq, h⟩ | ⟨hq, h⟩
  · have e := Option.some.inj h
    subst e
    exact (Sl.rf _ _)
  · have ⟨hg, h⟩ := g_gd h
    have hb := inB_lt hg
    have ⟨hg, h⟩ := g_gd h
    have hb := inB_lt hg
    have ⟨hg, h⟩ := g_gd h
    have hb := inB_lt hg
    exact Sl.trans (Sl.ne (Sl.ne (Sl.ne (Sl.rf _ _) (by decide)) (by decide)) (by decide)) (f12_image_s43 (F := F) F _ _ h)
def Vm12_back (c : Nat) : Prop := (21 ≤ c ∧ c ≤ 22) ∨ c = 34
set_option maxHeartbeats 1000000 in
theorem f12_back_s50 {F : Nat} {i1 : Int32} {r : Int32 × Mem} : ∀ (n : Nat) (x2 : Int32) (σ : Mem), m12_back_50 F i1 n x2 σ = some r → Sl (Vm12_back) σ r.2 := by
  intro n
  induction n with
  | zero => intro x2 σ h; unfold m12_back_50 at h; cases h
  | succ n ih =>
    intro x2 σ h
    unfold m12_back_50 at h
    rcases g_if h with ⟨hq, h⟩ | ⟨hq, h⟩
    · have ⟨hg, h⟩ := g_gd h
      have hb := inB_lt hg
      have e := Option.some.inj h
      subst e
      exact (Sl.rf _ _)
    · have ⟨hg, h⟩ := g_gd h
      have hb := inB_lt hg
      have ⟨hg, h⟩ := g_gd h
      have hb := inB_lt hg
      exact Sl.trans (Sl.ne (Sl.rf _ _) (by decide)) (ih _ _ h)
set_option maxHeartbeats 1000000 in
theorem f12_back_s {F : Nat} {i1 : Int32} {σ : Mem} {r : Int32 × Mem} (h : m12_back F i1 σ = some r) : Sl (Vm12_back) σ r.2 := by
  unfold m12_back at h
  have ⟨_, hc1, h⟩ := b_some h
  rcases g_if h with ⟨hq, h⟩ | ⟨hq, h⟩
  · have e := Option.some.inj h
    subst e
    exact (Sl.rf _ _)
  · have ⟨hg, h⟩ := g_gd h
    have hb := inB_lt hg
    rcases g_if h with ⟨hq, h⟩ | ⟨hq, h⟩
    · have e := Option.some.inj h
      subst e
      exact (Sl.rf _ _)
    · have ⟨hg, h⟩ := g_gd h
      have hb := inB_lt hg
      have ⟨hg, h⟩ := g_gd h
      have hb := inB_lt hg
      exact Sl.trans (Sl.at (Sl.at (Sl.at (Sl.rf _ _) (by unfold Vm12_back; omega)) (by unfold Vm12_back; omega)) (by unfold Vm12_back; omega)) (f12_back_s50 (F := F) F _ _ h)
