/-! FRAMES: a method writes to these cells alone -/
def Fr (W : Nat → Prop) (σ σ' : Mem) : Prop := (∀ c, ¬ W c → gI σ' c = gI σ c ∧ gL σ' c = gL σ c) ∧ (¬ W 1000 → gR σ' = gR σ)
theorem Fr.rf (W : Nat → Prop) (σ : Mem) : Fr W σ σ := ⟨fun _ _ => ⟨rfl, rfl⟩, fun _ => rfl⟩
theorem Fr.trans {W : Nat → Prop} {σ σ1 σ2 : Mem} (h : Fr W σ σ1) (g : Fr W σ1 σ2) : Fr W σ σ2 := ⟨fun c hc => ⟨(g.1 c hc).1.trans (h.1 c hc).1, (g.1 c hc).2.trans (h.1 c hc).2⟩, fun hc => (g.2 hc).trans (h.2 hc)⟩
theorem Fr.mono {W V : Nat → Prop} {σ σ1 : Mem} (h : Fr W σ σ1) (m : ∀ c, W c → V c) : Fr V σ σ1 := ⟨fun c hc => h.1 c (fun q => hc (m c q)), fun hc => h.2 (fun q => hc (m 1000 q))⟩
theorem Fr.sI {W : Nat → Prop} {σ σ1 : Mem} {c j : Nat} {v : Int32} (h : Fr W σ σ1) (hw : W c) : Fr W σ (sI σ1 c j v) := by
  refine ⟨fun c' hc => ⟨?_, (h.1 c' hc).2⟩, h.2⟩
  have hne : c' ≠ c := fun e => hc (e ▸ hw)
  rw [← (h.1 c' hc).1]
  funext j'
  exact if_neg (fun q => hne q.1)
theorem Fr.sL {W : Nat → Prop} {σ σ1 : Mem} {c j : Nat} {v : Int64} (h : Fr W σ σ1) (hw : W c) : Fr W σ (sL σ1 c j v) := by
  refine ⟨fun c' hc => ⟨(h.1 c' hc).1, ?_⟩, h.2⟩
  have hne : c' ≠ c := fun e => hc (e ▸ hw)
  rw [← (h.1 c' hc).2]
  funext j'
  exact if_neg (fun q => hne q.1)
theorem Fr.sR {W : Nat → Prop} {σ σ1 : Mem} {v : Nat} (h : Fr W σ σ1) (hw : W 1000) : Fr W σ (sR σ1 v) := ⟨h.1, fun hc => absurd hw hc⟩
theorem g_if {α : Type} {c : Prop} {d : Decidable c} {x y z : α} (h : (@ite _ c d x y) = z) : (c ∧ x = z) ∨ (¬ c ∧ y = z) := by
  by_cases hc : c
  · rw [if_pos hc] at h; exact Or.inl ⟨hc, h⟩
  · rw [if_neg hc] at h; exact Or.inr ⟨hc, h⟩
theorem kd5 {c : Nat} (h : kd c = 5) : 151 ≤ c ∧ c ≤ 181 ∧ c % 6 = 1 := by
  have h2 : ∀ c, c < 510 → kd c = 5 → 151 ≤ c ∧ c ≤ 181 ∧ c % 6 = 1 := by decide +kernel
  rcases Nat.lt_or_ge c 510 with z | z
  · exact h2 c z h
  · exfalso
    unfold kd at h
    have hl : kdL.length = 510 := by decide +kernel
    rw [List.getD_eq_getElem?_getD, List.getElem?_eq_none (by omega)] at h
    cases h
def Wm0_keepRow (c : Nat) : Prop := c = 59
set_option maxHeartbeats 1000000 in
theorem f0_keepRow_2 {F : Nat} {r : Mem} : ∀ (n : Nat) (x1 : Int32) (σ : Mem), m0_keepRow_2 F n x1 σ = some r → Fr (Wm0_keepRow) σ r := by
  intro n
  induction n with
  | zero => intro x1 σ h; unfold m0_keepRow_2 at h; cases h
  | succ n ih =>
    intro x1 σ h
    unfold m0_keepRow_2 at h
    rcases g_if h with ⟨hq, h⟩ | ⟨hq, h⟩
    · have e := Option.some.inj h
      subst e
      exact (Fr.rf _ _)
    · have ⟨hg, h⟩ := g_gd h
      have hb := inB_lt hg
      have ⟨hg, h⟩ := g_gd h
      have hb := inB_lt hg
      exact Fr.trans (Fr.sI (Fr.rf _ _) (by unfold Wm0_keepRow; omega)) (ih _ _ h)
set_option maxHeartbeats 1000000 in
theorem f0_keepRow {F : Nat} {σ : Mem} {r : Mem} (h : m0_keepRow F  σ = some r) : Fr (Wm0_keepRow) σ r := by
  unfold m0_keepRow at h
  exact Fr.trans (Fr.rf _ _) (f0_keepRow_2 (F := F) F _ _ h)
def Wm7_copyFrom (c0 : Nat) (c : Nat) : Prop := (c0 + 0 ≤ c ∧ c ≤ c0 + 9)
set_option maxHeartbeats 1000000 in
theorem f7_copyFrom_133 {F : Nat} {c0 : Nat} {c1 : Nat} {r : Mem} : ∀ (n : Nat) (x2 : Int32) (σ : Mem), m7_copyFrom_133 F c0 c1 n x2 σ = some r → Fr (Wm7_copyFrom c0) σ r := by
  intro n
  induction n with
  | zero => intro x2 σ h; unfold m7_copyFrom_133 at h; cases h
  | succ n ih =>
    intro x2 σ h
    unfold m7_copyFrom_133 at h
    rcases g_if h with ⟨hq, h⟩ | ⟨hq, h⟩
    · have e := Option.some.inj h
      subst e
      exact (Fr.rf _ _)
    · have ⟨hg, h⟩ := g_gd h
      have hb := inB_lt hg
      have ⟨hg, h⟩ := g_gd h
      have hb := inB_lt hg
      exact Fr.trans (Fr.sI (Fr.rf _ _) (by unfold Wm7_copyFrom; omega)) (ih _ _ h)
set_option maxHeartbeats 1000000 in
theorem f7_copyFrom_83 {F : Nat} {c0 : Nat} {c1 : Nat} {r : Mem} : ∀ (n : Nat) (x2 : Int32) (σ : Mem), m7_copyFrom_83 F c0 c1 n x2 σ = some r → Fr (Wm7_copyFrom c0) σ r := by
  intro n
  induction n with
  | zero => intro x2 σ h; unfold m7_copyFrom_83 at h; cases h
  | succ n ih =>
    intro x2 σ h
    unfold m7_copyFrom_83 at h
    rcases g_if h with ⟨hq, h⟩ | ⟨hq, h⟩
    · exact Fr.trans (Fr.rf _ _) (f7_copyFrom_133 (F := F) F _ _ h)
    · have ⟨hg, h⟩ := g_gd h
      have hb := inB_lt hg
      have ⟨hg, h⟩ := g_gd h
      have hb := inB_lt hg
      have ⟨hg, h⟩ := g_gd h
      have hb := inB_lt hg
      have ⟨hg, h⟩ := g_gd h
      have hb := inB_lt hg
      have ⟨hg, h⟩ := g_gd h
      have hb := inB_lt hg
      have ⟨hg, h⟩ := g_gd h
      have hb := inB_lt hg
      exact Fr.trans (Fr.sI (Fr.sI (Fr.sI (Fr.rf _ _) (by unfold Wm7_copyFrom; omega)) (by unfold Wm7_copyFrom; omega)) (by unfold Wm7_copyFrom; omega)) (ih _ _ h)
set_option maxHeartbeats 1000000 in
theorem f7_copyFrom_10 {F : Nat} {c0 : Nat} {c1 : Nat} {r : Mem} : ∀ (n : Nat) (x2 : Int32) (σ : Mem), m7_copyFrom_10 F c0 c1 n x2 σ = some r → Fr (Wm7_copyFrom c0) σ r := by
  intro n
  induction n with
  | zero => intro x2 σ h; unfold m7_copyFrom_10 at h; cases h
  | succ n ih =>
    intro x2 σ h
    unfold m7_copyFrom_10 at h
    rcases g_if h with ⟨hq, h⟩ | ⟨hq, h⟩
    · exact Fr.trans (Fr.rf _ _) (f7_copyFrom_83 (F := F) F _ _ h)
    · have ⟨hg, h⟩ := g_gd h
      have hb := inB_lt hg
      have ⟨hg, h⟩ := g_gd h
      have hb := inB_lt hg
      have ⟨hg, h⟩ := g_gd h
      have hb := inB_lt hg
      have ⟨hg, h⟩ := g_gd h
      have hb := inB_lt hg
      have ⟨hg, h⟩ := g_gd h
      have hb := inB_lt hg
      have ⟨hg, h⟩ := g_gd h
      have hb := inB_lt hg
      have ⟨hg, h⟩ := g_gd h
      have hb := inB_lt hg
      have ⟨hg, h⟩ := g_gd h
      have hb := inB_lt hg
      have ⟨hg, h⟩ := g_gd h
      have hb := inB_lt hg
      have ⟨hg, h⟩ := g_gd h
      have hb := inB_lt hg
      exact Fr.trans (Fr.sI (Fr.sI (Fr.sI (Fr.sI (Fr.sI (Fr.rf _ _) (by unfold Wm7_copyFrom; omega)) (by unfold Wm7_copyFrom; omega)) (by unfold Wm7_copyFrom; omega)) (by unfold Wm7_copyFrom; omega)) (by unfold Wm7_copyFrom; omega)) (ih _ _ h)
set_option maxHeartbeats 1000000 in
theorem f7_copyFrom {F : Nat} {c0 : Nat} {c1 : Nat} {σ : Mem} {r : Mem} (h : m7_copyFrom F c0 c1 σ = some r) : Fr (Wm7_copyFrom c0) σ r := by
  unfold m7_copyFrom at h
  exact Fr.trans (Fr.sI (Fr.rf _ _) (by unfold Wm7_copyFrom; omega)) (f7_copyFrom_10 (F := F) F _ _ h)
def Wm2_assign (c : Nat) : Prop := c = 41
set_option maxHeartbeats 1000000 in
theorem f2_assign_2 {F : Nat} {c1 : Nat} {r : Mem} : ∀ (n : Nat) (x2 : Int32) (σ : Mem), m2_assign_2 F c1 n x2 σ = some r → Fr (Wm2_assign) σ r := by
  intro n
  induction n with
  | zero => intro x2 σ h; unfold m2_assign_2 at h; cases h
  | succ n ih =>
    intro x2 σ h
    unfold m2_assign_2 at h
    rcases g_if h with ⟨hq, h⟩ | ⟨hq, h⟩
    · have e := Option.some.inj h
      subst e
      exact (Fr.rf _ _)
    · rcases g_if h with ⟨hq, h⟩ | ⟨hq, h⟩
      · have ⟨hg, h⟩ := g_gd h
        have hb := inB_lt hg
        exact Fr.trans (Fr.sI (Fr.rf _ _) (by unfold Wm2_assign; omega)) (ih _ _ h)
      · have ⟨_, hc1, h⟩ := b_some h
        have ⟨hg, h⟩ := g_gd h
        have hb := inB_lt hg
        exact Fr.trans (Fr.sI (Fr.rf _ _) (by unfold Wm2_assign; omega)) (ih _ _ h)
set_option maxHeartbeats 1000000 in
theorem f2_assign {F : Nat} {c1 : Nat} {σ : Mem} {r : Mem} (h : m2_assign F c1 σ = some r) : Fr (Wm2_assign) σ r := by
  unfold m2_assign at h
  exact Fr.trans (Fr.rf _ _) (f2_assign_2 (F := F) F _ _ h)
def Wm2_fillWords (c : Nat) : Prop := c = 44
set_option maxHeartbeats 1000000 in
theorem f2_fillWords_175 {F : Nat} {c1 : Nat} {i2 : Int32} {r : Mem} : ∀ (s1 : Int32) (s2 : Int64) (σ : Mem), m2_fillWords_175 F c1 i2 s1 s2 σ = some r → Fr (Wm2_fillWords) σ r := by
  intro s1 s2 σ h
  unfold m2_fillWords_175 at h
  have ⟨hg, h⟩ := g_gd h
  have hb := inB_lt hg
  have ⟨_, hc1, h⟩ := b_some h
  have ⟨hg, h⟩ := g_gd h
  have hb := inB_lt hg
  have ⟨hg, h⟩ := g_gd h
  have hb := inB_lt hg
  have ⟨hg, h⟩ := g_gd h
  have hb := inB_lt hg
  have ⟨hg, h⟩ := g_gd h
  have hb := inB_lt hg
  have ⟨hg, h⟩ := g_gd h
  have hb := inB_lt hg
  have ⟨hg, h⟩ := g_gd h
  have hb := inB_lt hg
  have ⟨hg, h⟩ := g_gd h
  have hb := inB_lt hg
  have e := Option.some.inj h
  subst e
  exact (Fr.sL (Fr.sL (Fr.sL (Fr.sL (Fr.sL (Fr.rf _ _) (by unfold Wm2_fillWords; omega)) (by unfold Wm2_fillWords; omega)) (by unfold Wm2_fillWords; omega)) (by unfold Wm2_fillWords; omega)) (by unfold Wm2_fillWords; omega))
set_option maxHeartbeats 1000000 in
theorem f2_fillWords_47 {F : Nat} {c1 : Nat} {i2 : Int32} {r : Mem} : ∀ (x3 : Int32) (s1 : Int32) (s2 : Int64) (σ : Mem), m2_fillWords_47 F c1 i2 x3 s1 s2 σ = some r → Fr (Wm2_fillWords) σ r := by
  intro x3 s1 s2 σ h
  unfold m2_fillWords_47 at h
  have ⟨hg, h⟩ := g_gd h
  have hb := inB_lt hg
  have ⟨hg, h⟩ := g_gd h
  have hb := inB_lt hg
  have ⟨hg, h⟩ := g_gd h
  have hb := inB_lt hg
  have ⟨hg, h⟩ := g_gd h
  have hb := inB_lt hg
  have ⟨hg, h⟩ := g_gd h
  have hb := inB_lt hg
  have ⟨hg, h⟩ := g_gd h
  have hb := inB_lt hg
  have ⟨hg, h⟩ := g_gd h
  have hb := inB_lt hg
  have ⟨hg, h⟩ := g_gd h
  have hb := inB_lt hg
  have ⟨hg, h⟩ := g_gd h
  have hb := inB_lt hg
  have ⟨hg, h⟩ := g_gd h
  have hb := inB_lt hg
  have ⟨hg, h⟩ := g_gd h
  have hb := inB_lt hg
  rcases g_if h with ⟨hq, h⟩ | ⟨hq, h⟩
  · have ⟨hg, h⟩ := g_gd h
    have hb := inB_lt hg
    have ⟨hg, h⟩ := g_gd h
    have hb := inB_lt hg
    exact Fr.trans (Fr.sL (Fr.sL (Fr.sL (Fr.sL (Fr.sL (Fr.sL (Fr.rf _ _) (by unfold Wm2_fillWords; omega)) (by unfold Wm2_fillWords; omega)) (by unfold Wm2_fillWords; omega)) (by unfold Wm2_fillWords; omega)) (by unfold Wm2_fillWords; omega)) (by unfold Wm2_fillWords; omega)) (f2_fillWords_175 (F := F) _ _ _ h)
  · have ⟨hg, h⟩ := g_gd h
    have hb := inB_lt hg
    have ⟨hg, h⟩ := g_gd h
    have hb := inB_lt hg
    exact Fr.trans (Fr.sL (Fr.sL (Fr.sL (Fr.sL (Fr.sL (Fr.sL (Fr.rf _ _) (by unfold Wm2_fillWords; omega)) (by unfold Wm2_fillWords; omega)) (by unfold Wm2_fillWords; omega)) (by unfold Wm2_fillWords; omega)) (by unfold Wm2_fillWords; omega)) (by unfold Wm2_fillWords; omega)) (f2_fillWords_175 (F := F) _ _ _ h)
set_option maxHeartbeats 1000000 in
theorem f2_fillWords {F : Nat} {c1 : Nat} {i2 : Int32} {σ : Mem} {r : Mem} (h : m2_fillWords F c1 i2 σ = some r) : Fr (Wm2_fillWords) σ r := by
  unfold m2_fillWords at h
  have ⟨hg, h⟩ := g_gd h
  have hb := inB_lt hg
  have ⟨hg, h⟩ := g_gd h
  have hb := inB_lt hg
  have ⟨hg, h⟩ := g_gd h
  have hb := inB_lt hg
  have ⟨hg, h⟩ := g_gd h
  have hb := inB_lt hg
  have ⟨_, hc1, h⟩ := b_some h
  rcases g_if h with ⟨hq, h⟩ | ⟨hq, h⟩
  · exact Fr.trans (Fr.sL (Fr.sL (Fr.rf _ _) (by unfold Wm2_fillWords; omega)) (by unfold Wm2_fillWords; omega)) (f2_fillWords_47 (F := F) _ _ _ _ h)
  · exact Fr.trans (Fr.sL (Fr.sL (Fr.rf _ _) (by unfold Wm2_fillWords; omega)) (by unfold Wm2_fillWords; omega)) (f2_fillWords_47 (F := F) _ _ _ _ h)
def Wm5_worked (c0 : Nat) (c : Nat) : Prop := c = c0 + 5
set_option maxHeartbeats 1000000 in
theorem f5_worked_383 {F : Nat} {c0 : Nat} {i1 : Int32} {i2 : Int32} {r : Int64 × Mem} {k6 : Int32 → Int32 → Mem → Option (Int64 × Mem)} (hk6 : ∀ (x4 : Int32) (x5 : Int32) (σ : Mem), k6 x4 x5 σ = some r → Fr (Wm5_worked c0) σ r.2) : ∀ (x4 : Int32) (x5 : Int32) (x7 : Int64) (σ : Mem), m5_worked_383 F c0 i1 i2 k6 x4 x5 x7 σ = some r → Fr (Wm5_worked c0) σ r.2 := by
  intro x4 x5 x7 σ h
  unfold m5_worked_383 at h
  have ⟨hg, h⟩ := g_gd h
  have hb := inB_lt hg
  exact Fr.trans (Fr.sL (Fr.rf _ _) (by unfold Wm5_worked; omega)) (hk6 _ _ _ h)
set_option maxHeartbeats 1000000 in
theorem f5_worked_361 {F : Nat} {c0 : Nat} {i1 : Int32} {i2 : Int32} {r : Int64 × Mem} {k383 : Int32 → Int32 → Int64 → Mem → Option (Int64 × Mem)} (hk383 : ∀ (x4 : Int32) (x5 : Int32) (x7 : Int64) (σ : Mem), k383 x4 x5 x7 σ = some r → Fr (Wm5_worked c0) σ r.2) : ∀ (x4 : Int32) (x5 : Int32) (s0 : Int64) (σ : Mem), m5_worked_361 F c0 i1 i2 k383 x4 x5 s0 σ = some r → Fr (Wm5_worked c0) σ r.2 := by
  intro x4 x5 s0 σ h
  unfold m5_worked_361 at h
  exact Fr.trans (Fr.rf _ _) (hk383 _ _ _ _ h)
set_option maxHeartbeats 1000000 in
theorem f5_worked_343 {F : Nat} {c0 : Nat} {i1 : Int32} {i2 : Int32} {r : Int64 × Mem} {k383 : Int32 → Int32 → Int64 → Mem → Option (Int64 × Mem)} (hk383 : ∀ (x4 : Int32) (x5 : Int32) (x7 : Int64) (σ : Mem), k383 x4 x5 x7 σ = some r → Fr (Wm5_worked c0) σ r.2) : ∀ (x4 : Int32) (x5 : Int32) (s0 : Int64) (σ : Mem), m5_worked_343 F c0 i1 i2 k383 x4 x5 s0 σ = some r → Fr (Wm5_worked c0) σ r.2 := by
  intro x4 x5 s0 σ h
  unfold m5_worked_343 at h
  exact Fr.trans (Fr.rf _ _) (hk383 _ _ _ _ h)
set_option maxHeartbeats 1000000 in
theorem f5_worked_325 {F : Nat} {c0 : Nat} {i1 : Int32} {i2 : Int32} {r : Int64 × Mem} {k383 : Int32 → Int32 → Int64 → Mem → Option (Int64 × Mem)} (hk383 : ∀ (x4 : Int32) (x5 : Int32) (x7 : Int64) (σ : Mem), k383 x4 x5 x7 σ = some r → Fr (Wm5_worked c0) σ r.2) : ∀ (x4 : Int32) (x5 : Int32) (s0 : Int64) (σ : Mem), m5_worked_325 F c0 i1 i2 k383 x4 x5 s0 σ = some r → Fr (Wm5_worked c0) σ r.2 := by
  intro x4 x5 s0 σ h
  unfold m5_worked_325 at h
  exact Fr.trans (Fr.rf _ _) (hk383 _ _ _ _ h)
set_option maxHeartbeats 1000000 in
theorem f5_worked_307 {F : Nat} {c0 : Nat} {i1 : Int32} {i2 : Int32} {r : Int64 × Mem} {k383 : Int32 → Int32 → Int64 → Mem → Option (Int64 × Mem)} (hk383 : ∀ (x4 : Int32) (x5 : Int32) (x7 : Int64) (σ : Mem), k383 x4 x5 x7 σ = some r → Fr (Wm5_worked c0) σ r.2) : ∀ (x4 : Int32) (x5 : Int32) (s0 : Int64) (σ : Mem), m5_worked_307 F c0 i1 i2 k383 x4 x5 s0 σ = some r → Fr (Wm5_worked c0) σ r.2 := by
  intro x4 x5 s0 σ h
  unfold m5_worked_307 at h
  exact Fr.trans (Fr.rf _ _) (hk383 _ _ _ _ h)
set_option maxHeartbeats 1000000 in
theorem f5_worked_289 {F : Nat} {c0 : Nat} {i1 : Int32} {i2 : Int32} {r : Int64 × Mem} {k383 : Int32 → Int32 → Int64 → Mem → Option (Int64 × Mem)} (hk383 : ∀ (x4 : Int32) (x5 : Int32) (x7 : Int64) (σ : Mem), k383 x4 x5 x7 σ = some r → Fr (Wm5_worked c0) σ r.2) : ∀ (x4 : Int32) (x5 : Int32) (s0 : Int64) (σ : Mem), m5_worked_289 F c0 i1 i2 k383 x4 x5 s0 σ = some r → Fr (Wm5_worked c0) σ r.2 := by
  intro x4 x5 s0 σ h
  unfold m5_worked_289 at h
  exact Fr.trans (Fr.rf _ _) (hk383 _ _ _ _ h)
set_option maxHeartbeats 1000000 in
theorem f5_worked_271 {F : Nat} {c0 : Nat} {i1 : Int32} {i2 : Int32} {r : Int64 × Mem} {k383 : Int32 → Int32 → Int64 → Mem → Option (Int64 × Mem)} (hk383 : ∀ (x4 : Int32) (x5 : Int32) (x7 : Int64) (σ : Mem), k383 x4 x5 x7 σ = some r → Fr (Wm5_worked c0) σ r.2) : ∀ (x4 : Int32) (x5 : Int32) (s0 : Int64) (σ : Mem), m5_worked_271 F c0 i1 i2 k383 x4 x5 s0 σ = some r → Fr (Wm5_worked c0) σ r.2 := by
  intro x4 x5 s0 σ h
  unfold m5_worked_271 at h
  exact Fr.trans (Fr.rf _ _) (hk383 _ _ _ _ h)
set_option maxHeartbeats 1000000 in
theorem f5_worked_250 {F : Nat} {c0 : Nat} {i1 : Int32} {i2 : Int32} {r : Int64 × Mem} {k383 : Int32 → Int32 → Int64 → Mem → Option (Int64 × Mem)} (hk383 : ∀ (x4 : Int32) (x5 : Int32) (x7 : Int64) (σ : Mem), k383 x4 x5 x7 σ = some r → Fr (Wm5_worked c0) σ r.2) : ∀ (x4 : Int32) (x5 : Int32) (s0 : Int64) (σ : Mem), m5_worked_250 F c0 i1 i2 k383 x4 x5 s0 σ = some r → Fr (Wm5_worked c0) σ r.2 := by
  intro x4 x5 s0 σ h
  unfold m5_worked_250 at h
  exact Fr.trans (Fr.rf _ _) (hk383 _ _ _ _ h)
set_option maxHeartbeats 1000000 in
theorem f5_worked_6 {F : Nat} {c0 : Nat} {i1 : Int32} {i2 : Int32} {r : Int64 × Mem} : ∀ (n : Nat) (x4 : Int32) (x5 : Int32) (σ : Mem), m5_worked_6 F c0 i1 i2 n x4 x5 σ = some r → Fr (Wm5_worked c0) σ r.2 := by
  intro n
  induction n with
  | zero => intro x4 x5 σ h; unfold m5_worked_6 at h; cases h
  | succ n ih =>
    intro x4 x5 σ h
    unfold m5_worked_6 at h
    rcases g_if h with ⟨hq, h⟩ | ⟨hq, h⟩
    · rcases g_if h with ⟨hq, h⟩ | ⟨hq, h⟩
      · have e := Option.some.inj h
        subst e
        exact (Fr.rf _ _)
      · have ⟨hg, h⟩ := g_gd h
        have hb := inB_lt hg
        have e := Option.some.inj h
        subst e
        exact (Fr.rf _ _)
    · have ⟨hg, h⟩ := g_gd h
      have hb := inB_lt hg
      rcases g_if h with ⟨hq, h⟩ | ⟨hq, h⟩
      · rcases g_if h with ⟨hq, h⟩ | ⟨hq, h⟩
        · rcases g_if h with ⟨hq, h⟩ | ⟨hq, h⟩
          · exact Fr.trans (Fr.rf _ _) (ih _ _ _ h)
          · have ⟨hg, h⟩ := g_gd h
            have hb := inB_lt hg
            have ⟨hg, h⟩ := g_gd h
            have hb := inB_lt hg
            exact Fr.trans (Fr.sL (Fr.rf _ _) (by unfold Wm5_worked; omega)) (ih _ _ _ h)
        · rcases g_if h with ⟨hq, h⟩ | ⟨hq, h⟩
          · exact Fr.trans (Fr.rf _ _) (ih _ _ _ h)
          · have ⟨hg, h⟩ := g_gd h
            have hb := inB_lt hg
            have ⟨hg, h⟩ := g_gd h
            have hb := inB_lt hg
            rcases g_if h with ⟨hq, h⟩ | ⟨hq, h⟩
            · exact Fr.trans (Fr.rf _ _) (f5_worked_383 (F := F) (fun _ _ _ h => (ih _ _ _ h)) _ _ _ _ h)
            rcases g_if h with ⟨hq, h⟩ | ⟨hq, h⟩
            · exact Fr.trans (Fr.rf _ _) (f5_worked_383 (F := F) (fun _ _ _ h => (ih _ _ _ h)) _ _ _ _ h)
            rcases g_if h with ⟨hq, h⟩ | ⟨hq, h⟩
            · rcases g_if h with ⟨hq, h⟩ | ⟨hq, h⟩
              · exact Fr.trans (Fr.rf _ _) (f5_worked_361 (F := F) (fun _ _ _ _ h => (f5_worked_383 (F := F) (fun _ _ _ h => (ih _ _ _ h)) _ _ _ _ h)) _ _ _ _ h)
              · exact Fr.trans (Fr.rf _ _) (f5_worked_361 (F := F) (fun _ _ _ _ h => (f5_worked_383 (F := F) (fun _ _ _ h => (ih _ _ _ h)) _ _ _ _ h)) _ _ _ _ h)
            rcases g_if h with ⟨hq, h⟩ | ⟨hq, h⟩
            · rcases g_if h with ⟨hq, h⟩ | ⟨hq, h⟩
              · exact Fr.trans (Fr.rf _ _) (f5_worked_343 (F := F) (fun _ _ _ _ h => (f5_worked_383 (F := F) (fun _ _ _ h => (ih _ _ _ h)) _ _ _ _ h)) _ _ _ _ h)
              · exact Fr.trans (Fr.rf _ _) (f5_worked_343 (F := F) (fun _ _ _ _ h => (f5_worked_383 (F := F) (fun _ _ _ h => (ih _ _ _ h)) _ _ _ _ h)) _ _ _ _ h)
            rcases g_if h with ⟨hq, h⟩ | ⟨hq, h⟩
            · rcases g_if h with ⟨hq, h⟩ | ⟨hq, h⟩
              · exact Fr.trans (Fr.rf _ _) (f5_worked_325 (F := F) (fun _ _ _ _ h => (f5_worked_383 (F := F) (fun _ _ _ h => (ih _ _ _ h)) _ _ _ _ h)) _ _ _ _ h)
              · exact Fr.trans (Fr.rf _ _) (f5_worked_325 (F := F) (fun _ _ _ _ h => (f5_worked_383 (F := F) (fun _ _ _ h => (ih _ _ _ h)) _ _ _ _ h)) _ _ _ _ h)
            rcases g_if h with ⟨hq, h⟩ | ⟨hq, h⟩
            · rcases g_if h with ⟨hq, h⟩ | ⟨hq, h⟩
              · exact Fr.trans (Fr.rf _ _) (f5_worked_307 (F := F) (fun _ _ _ _ h => (f5_worked_383 (F := F) (fun _ _ _ h => (ih _ _ _ h)) _ _ _ _ h)) _ _ _ _ h)
              · exact Fr.trans (Fr.rf _ _) (f5_worked_307 (F := F) (fun _ _ _ _ h => (f5_worked_383 (F := F) (fun _ _ _ h => (ih _ _ _ h)) _ _ _ _ h)) _ _ _ _ h)
            rcases g_if h with ⟨hq, h⟩ | ⟨hq, h⟩
            · rcases g_if h with ⟨hq, h⟩ | ⟨hq, h⟩
              · exact Fr.trans (Fr.rf _ _) (f5_worked_289 (F := F) (fun _ _ _ _ h => (f5_worked_383 (F := F) (fun _ _ _ h => (ih _ _ _ h)) _ _ _ _ h)) _ _ _ _ h)
              · exact Fr.trans (Fr.rf _ _) (f5_worked_289 (F := F) (fun _ _ _ _ h => (f5_worked_383 (F := F) (fun _ _ _ h => (ih _ _ _ h)) _ _ _ _ h)) _ _ _ _ h)
            rcases g_if h with ⟨hq, h⟩ | ⟨hq, h⟩
            · rcases g_if h with ⟨hq, h⟩ | ⟨hq, h⟩
              · exact Fr.trans (Fr.rf _ _) (f5_worked_271 (F := F) (fun _ _ _ _ h => (f5_worked_383 (F := F) (fun _ _ _ h => (ih _ _ _ h)) _ _ _ _ h)) _ _ _ _ h)
              · have ⟨hg, h⟩ := g_gd h
                exact Fr.trans (Fr.rf _ _) (f5_worked_271 (F := F) (fun _ _ _ _ h => (f5_worked_383 (F := F) (fun _ _ _ h => (ih _ _ _ h)) _ _ _ _ h)) _ _ _ _ h)
            rcases g_if h with ⟨hq, h⟩ | ⟨hq, h⟩
            · rcases g_if h with ⟨hq, h⟩ | ⟨hq, h⟩
              · exact Fr.trans (Fr.rf _ _) (f5_worked_250 (F := F) (fun _ _ _ _ h => (f5_worked_383 (F := F) (fun _ _ _ h => (ih _ _ _ h)) _ _ _ _ h)) _ _ _ _ h)
              · have ⟨hg, h⟩ := g_gd h
                exact Fr.trans (Fr.rf _ _) (f5_worked_250 (F := F) (fun _ _ _ _ h => (f5_worked_383 (F := F) (fun _ _ _ h => (ih _ _ _ h)) _ _ _ _ h)) _ _ _ _ h)
            rcases g_if h with ⟨hq, h⟩ | ⟨hq, h⟩
            · exact Fr.trans (Fr.rf _ _) (f5_worked_383 (F := F) (fun _ _ _ h => (ih _ _ _ h)) _ _ _ _ h)
            rcases g_if h with ⟨hq, h⟩ | ⟨hq, h⟩
            · exact Fr.trans (Fr.rf _ _) (f5_worked_383 (F := F) (fun _ _ _ h => (ih _ _ _ h)) _ _ _ _ h)
            rcases g_if h with ⟨hq, h⟩ | ⟨hq, h⟩
            · exact Fr.trans (Fr.rf _ _) (f5_worked_383 (F := F) (fun _ _ _ h => (ih _ _ _ h)) _ _ _ _ h)
            exact Fr.trans (Fr.rf _ _) (f5_worked_383 (F := F) (fun _ _ _ h => (ih _ _ _ h)) _ _ _ _ h)
      · rcases g_if h with ⟨hq, h⟩ | ⟨hq, h⟩
        · exact Fr.trans (Fr.rf _ _) (ih _ _ _ h)
        · rcases g_if h with ⟨hq, h⟩ | ⟨hq, h⟩
          · exact Fr.trans (Fr.rf _ _) (ih _ _ _ h)
          · rcases g_if h with ⟨hq, h⟩ | ⟨hq, h⟩
            · have ⟨hg, h⟩ := g_gd h
              have hb := inB_lt hg
              have ⟨hg, h⟩ := g_gd h
              have hb := inB_lt hg
              exact Fr.trans (Fr.sL (Fr.rf _ _) (by unfold Wm5_worked; omega)) (ih _ _ _ h)
            · have ⟨hg, h⟩ := g_gd h
              have hb := inB_lt hg
              exact Fr.trans (Fr.sL (Fr.rf _ _) (by unfold Wm5_worked; omega)) (ih _ _ _ h)
set_option maxHeartbeats 1000000 in
theorem f5_worked {F : Nat} {c0 : Nat} {i1 : Int32} {i2 : Int32} {σ : Mem} {r : Int64 × Mem} (h : m5_worked F c0 i1 i2 σ = some r) : Fr (Wm5_worked c0) σ r.2 := by
  unfold m5_worked at h
  exact Fr.trans (Fr.rf _ _) (f5_worked_6 (F := F) F _ _ _ h)
def Wm5_strikes (c0 : Nat) (c : Nat) : Prop := c = c0 + 5
set_option maxHeartbeats 1000000 in
theorem f5_strikes_53 {F : Nat} {c0 : Nat} {r : Int32 × Mem} : ∀ (x2 : Int32) (σ : Mem), m5_strikes_53 F c0 x2 σ = some r → Fr (Wm5_strikes c0) σ r.2 := by
  intro x2 σ h
  unfold m5_strikes_53 at h
  have ⟨hg, h⟩ := g_gd h
  have hb := inB_lt hg
  have ⟨hg, h⟩ := g_gd h
  have hb := inB_lt hg
  have ⟨_, hc1, h⟩ := b_some h
  have qhc1 := f5_worked hc1
  rcases g_if h with ⟨hq, h⟩ | ⟨hq, h⟩
  · have e := Option.some.inj h
    subst e
    exact (Fr.trans (Fr.rf _ _) (Fr.mono qhc1 (fun c hw => by unfold Wm5_worked at hw; unfold Wm5_strikes; omega)))
  · have e := Option.some.inj h
    subst e
    exact (Fr.trans (Fr.rf _ _) (Fr.mono qhc1 (fun c hw => by unfold Wm5_worked at hw; unfold Wm5_strikes; omega)))
set_option maxHeartbeats 1000000 in
theorem f5_strikes_2 {F : Nat} {c0 : Nat} {r : Int32 × Mem} : ∀ (n : Nat) (x2 : Int32) (σ : Mem), m5_strikes_2 F c0 n x2 σ = some r → Fr (Wm5_strikes c0) σ r.2 := by
  intro n
  induction n with
  | zero => intro x2 σ h; unfold m5_strikes_2 at h; cases h
  | succ n ih =>
    intro x2 σ h
    unfold m5_strikes_2 at h
    rcases g_if h with ⟨hq, h⟩ | ⟨hq, h⟩
    · have e := Option.some.inj h
      subst e
      exact (Fr.rf _ _)
    · rcases g_if h with ⟨hq, h⟩ | ⟨hq, h⟩
      · have e := Option.some.inj h
        subst e
        exact (Fr.rf _ _)
      · have ⟨hg, h⟩ := g_gd h
        have hb := inB_lt hg
        have ⟨hg, h⟩ := g_gd h
        have hb := inB_lt hg
        rcases g_if h with ⟨hq, h⟩ | ⟨hq, h⟩
        · exact Fr.trans (Fr.rf _ _) (f5_strikes_53 (F := F) _ _ h)
        · have ⟨hg, h⟩ := g_gd h
          have hb := inB_lt hg
          have ⟨hg, h⟩ := g_gd h
          have hb := inB_lt hg
          have ⟨_, hc1, h⟩ := b_some h
          have qhc1 := f5_worked hc1
          rcases g_if h with ⟨hq, h⟩ | ⟨hq, h⟩
          · exact Fr.trans (Fr.trans (Fr.rf _ _) (Fr.mono qhc1 (fun c hw => by unfold Wm5_worked at hw; unfold Wm5_strikes; omega))) (ih _ _ h)
          · exact Fr.trans (Fr.trans (Fr.rf _ _) (Fr.mono qhc1 (fun c hw => by unfold Wm5_worked at hw; unfold Wm5_strikes; omega))) (f5_strikes_53 (F := F) _ _ h)
set_option maxHeartbeats 1000000 in
theorem f5_strikes {F : Nat} {c0 : Nat} {σ : Mem} {r : Int32 × Mem} (h : m5_strikes F c0 σ = some r) : Fr (Wm5_strikes c0) σ r.2 := by
  unfold m5_strikes at h
  exact Fr.trans (Fr.rf _ _) (f5_strikes_2 (F := F) F _ _ h)
def Wm2_willsToStrike (c : Nat) : Prop := c = 44 ∨ (156 ≤ c ∧ c ≤ 186 ∧ c % 6 = 0)
set_option maxHeartbeats 1000000 in
theorem f2_willsToStrike {F : Nat} {c1 : Nat} {i2 : Int32} {σ : Mem} {r : Int32 × Mem} (h : m2_willsToStrike F c1 i2 σ = some r) : Fr (Wm2_willsToStrike) σ r.2 := by
  unfold m2_willsToStrike at h
  rcases g_if h with ⟨hq, h⟩ | ⟨hq, h⟩
  · have ⟨hgr, h⟩ := g_gd h
    rcases g_if h with ⟨hq, h⟩ | ⟨hq, h⟩
    · have ⟨_, hc1, h⟩ := b_some h
      have ⟨hg, h⟩ := g_gd h
      have e := Option.some.inj h
      subst e
      exact (Fr.rf _ _)
    · have ⟨_, hc1, h⟩ := b_some h
      have qhc1 := f2_fillWords hc1
      have ⟨hgr, h⟩ := g_gd h
      have ⟨hz, h⟩ := g_ifn h
      have hk := kd5 (hgr.resolve_left hz)
      have ⟨_, hc2, h⟩ := b_some h
      have qhc2 := f5_strikes hc2
      have ⟨hg, h⟩ := g_gd h
      have e := Option.some.inj h
      subst e
      exact (Fr.trans (Fr.trans (Fr.rf _ _) (Fr.mono qhc1 (fun c hw => by unfold Wm2_fillWords at hw; unfold Wm2_willsToStrike; omega))) (Fr.mono qhc2 (fun c hw => by unfold Wm5_strikes at hw; unfold Wm2_willsToStrike; omega)))
  · rcases g_if h with ⟨hq, h⟩ | ⟨hq, h⟩
    · have e := Option.some.inj h
      subst e
      exact (Fr.rf _ _)
    · have e := Option.some.inj h
      subst e
      exact (Fr.rf _ _)
def Wm2_heatUp (c1 : Nat) (c : Nat) : Prop := c = 40 ∨ (c1 + 1 ≤ c ∧ c ≤ c1 + 2) ∨ c = c1 + 4 ∨ c = c1 + 6
set_option maxHeartbeats 1000000 in
theorem f2_heatUp_32 {F : Nat} {c1 : Nat} {i2 : Int32} {r : Mem} : ∀ (σ : Mem), m2_heatUp_32 F c1 i2 σ = some r → Fr (Wm2_heatUp c1) σ r := by
  intro σ h
  unfold m2_heatUp_32 at h
  have ⟨hg, h⟩ := g_gd h
  have hb := inB_lt hg
  rcases g_if h with ⟨hq, h⟩ | ⟨hq, h⟩
  · have e := Option.some.inj h
    subst e
    exact (Fr.rf _ _)
  · have ⟨hg, h⟩ := g_gd h
    have hb := inB_lt hg
    have ⟨hg, h⟩ := g_gd h
    have hb := inB_lt hg
    have ⟨hg, h⟩ := g_gd h
    have hb := inB_lt hg
    have ⟨hg, h⟩ := g_gd h
    have hb := inB_lt hg
    have ⟨hg, h⟩ := g_gd h
    have hb := inB_lt hg
    have ⟨hg, h⟩ := g_gd h
    have hb := inB_lt hg
    have ⟨hg, h⟩ := g_gd h
    have hb := inB_lt hg
    have e := Option.some.inj h
    subst e
    exact (Fr.sI (Fr.sI (Fr.sI (Fr.sI (Fr.rf _ _) (by unfold Wm2_heatUp; omega)) (by unfold Wm2_heatUp; omega)) (by unfold Wm2_heatUp; omega)) (by unfold Wm2_heatUp; omega))
set_option maxHeartbeats 1000000 in
theorem f2_heatUp {F : Nat} {c1 : Nat} {i2 : Int32} {σ : Mem} {r : Mem} (h : m2_heatUp F c1 i2 σ = some r) : Fr (Wm2_heatUp c1) σ r := by
  unfold m2_heatUp at h
  have ⟨hg, h⟩ := g_gd h
  have hb := inB_lt hg
  rcases g_if h with ⟨hq, h⟩ | ⟨hq, h⟩
  · have ⟨hg, h⟩ := g_gd h
    have hb := inB_lt hg
    have ⟨hg, h⟩ := g_gd h
    have hb := inB_lt hg
    have ⟨hg, h⟩ := g_gd h
    have hb := inB_lt hg
    exact Fr.trans (Fr.sI (Fr.sI (Fr.rf _ _) (by unfold Wm2_heatUp; omega)) (by unfold Wm2_heatUp; omega)) (f2_heatUp_32 (F := F) _ h)
  · exact Fr.trans (Fr.sI (Fr.rf _ _) (by unfold Wm2_heatUp; omega)) (f2_heatUp_32 (F := F) _ h)
def Wm2_takes (c : Nat) : Prop := c = 43
set_option maxHeartbeats 1000000 in
theorem f2_takes_79 {F : Nat} {c1 : Nat} {i2 : Int32} {r : Int32 × Mem} : ∀ (n : Nat) (x3 : Int32) (x4 : Int32) (σ : Mem), m2_takes_79 F c1 i2 n x3 x4 σ = some r → Fr (Wm2_takes) σ r.2 := by
  intro n
  induction n with
  | zero => intro x3 x4 σ h; unfold m2_takes_79 at h; cases h
  | succ n ih =>
    intro x3 x4 σ h
    unfold m2_takes_79 at h
    rcases g_if h with ⟨hq, h⟩ | ⟨hq, h⟩
    · have e := Option.some.inj h
      subst e
      exact (Fr.rf _ _)
    · rcases g_if h with ⟨hq, h⟩ | ⟨hq, h⟩
      · have ⟨hg, h⟩ := g_gd h
        have hb := inB_lt hg
        exact Fr.trans (Fr.sI (Fr.rf _ _) (by unfold Wm2_takes; omega)) (ih _ _ _ h)
      · exact Fr.trans (Fr.rf _ _) (ih _ _ _ h)
set_option maxHeartbeats 1000000 in
theorem f2_takes_42 {F : Nat} {c1 : Nat} {i2 : Int32} {r : Int32 × Mem} : ∀ (n : Nat) (x3 : Int32) (x4 : Int32) (σ : Mem), m2_takes_42 F c1 i2 n x3 x4 σ = some r → Fr (Wm2_takes) σ r.2 := by
  intro n
  induction n with
  | zero => intro x3 x4 σ h; unfold m2_takes_42 at h; cases h
  | succ n ih =>
    intro x3 x4 σ h
    unfold m2_takes_42 at h
    rcases g_if h with ⟨hq, h⟩ | ⟨hq, h⟩
    · exact Fr.trans (Fr.rf _ _) (f2_takes_79 (F := F) F _ _ _ h)
    · rcases g_if h with ⟨hq, h⟩ | ⟨hq, h⟩
      · have ⟨_, hc1, h⟩ := b_some h
        rcases g_if h with ⟨hq, h⟩ | ⟨hq, h⟩
        · have e := Option.some.inj h
          subst e
          exact (Fr.rf _ _)
        · exact Fr.trans (Fr.rf _ _) (ih _ _ _ h)
      · exact Fr.trans (Fr.rf _ _) (ih _ _ _ h)
set_option maxHeartbeats 1000000 in
theorem f2_takes {F : Nat} {c1 : Nat} {i2 : Int32} {σ : Mem} {r : Int32 × Mem} (h : m2_takes F c1 i2 σ = some r) : Fr (Wm2_takes) σ r.2 := by
  unfold m2_takes at h
  have ⟨hg, h⟩ := g_gd h
  have hb := inB_lt hg
  have ⟨hg, h⟩ := g_gd h
  have hb := inB_lt hg
  rcases g_if h with ⟨hq, h⟩ | ⟨hq, h⟩
  · exact Fr.trans (Fr.rf _ _) (f2_takes_42 (F := F) F _ _ _ h)
  · rcases g_if h with ⟨hq, h⟩ | ⟨hq, h⟩
    · have ⟨_, hc1, h⟩ := b_some h
      rcases g_if h with ⟨hq, h⟩ | ⟨hq, h⟩
      · exact Fr.trans (Fr.rf _ _) (f2_takes_42 (F := F) F _ _ _ h)
      · exact Fr.trans (Fr.rf _ _) (f2_takes_42 (F := F) F _ _ _ h)
    · exact Fr.trans (Fr.rf _ _) (f2_takes_42 (F := F) F _ _ _ h)
def Wm2_strikeOnce (c1 : Nat) (c : Nat) : Prop := c = 40 ∨ (c1 + 1 ≤ c ∧ c ≤ c1 + 3) ∨ (c1 + 5 ≤ c ∧ c ≤ c1 + 7)
set_option maxHeartbeats 1000000 in
theorem f2_strikeOnce {F : Nat} {c1 : Nat} {i2 : Int32} {σ : Mem} {r : Mem} (h : m2_strikeOnce F c1 i2 σ = some r) : Fr (Wm2_strikeOnce c1) σ r := by
  unfold m2_strikeOnce at h
  have ⟨hg, h⟩ := g_gd h
  have hb := inB_lt hg
  have ⟨_, hc1, h⟩ := b_some h
  have ⟨hg, h⟩ := g_gd h
  have hb := inB_lt hg
  have ⟨hg, h⟩ := g_gd h
  have hb := inB_lt hg
  have ⟨hg, h⟩ := g_gd h
  have hb := inB_lt hg
  rcases g_if h with ⟨hq, h⟩ | ⟨hq, h⟩
  · have ⟨hg, h⟩ := g_gd h
    have hb := inB_lt hg
    have ⟨hg, h⟩ := g_gd h
    have hb := inB_lt hg
    have e := Option.some.inj h
    subst e
    exact (Fr.sI (Fr.sI (Fr.sI (Fr.rf _ _) (by unfold Wm2_strikeOnce; omega)) (by unfold Wm2_strikeOnce; omega)) (by unfold Wm2_strikeOnce; omega))
  · rcases g_if h with ⟨hq, h⟩ | ⟨hq, h⟩
    · have ⟨hg, h⟩ := g_gd h
      have hb := inB_lt hg
      have ⟨hg, h⟩ := g_gd h
      have hb := inB_lt hg
      have ⟨hg, h⟩ := g_gd h
      have hb := inB_lt hg
      rcases g_if h with ⟨hq, h⟩ | ⟨hq, h⟩
      · have ⟨hg, h⟩ := g_gd h
        have hb := inB_lt hg
        have ⟨hg, h⟩ := g_gd h
        have hb := inB_lt hg
        have ⟨hg, h⟩ := g_gd h
        have hb := inB_lt hg
        have ⟨hg, h⟩ := g_gd h
        have hb := inB_lt hg
        have e := Option.some.inj h
        subst e
        exact (Fr.sI (Fr.sI (Fr.sI (Fr.sI (Fr.sI (Fr.sI (Fr.sI (Fr.sI (Fr.rf _ _) (by unfold Wm2_strikeOnce; omega)) (by unfold Wm2_strikeOnce; omega)) (by unfold Wm2_strikeOnce; omega)) (by unfold Wm2_strikeOnce; omega)) (by unfold Wm2_strikeOnce; omega)) (by unfold Wm2_strikeOnce; omega)) (by unfold Wm2_strikeOnce; omega)) (by unfold Wm2_strikeOnce; omega))
      · have e := Option.some.inj h
        subst e
        exact (Fr.sI (Fr.sI (Fr.sI (Fr.sI (Fr.sI (Fr.rf _ _) (by unfold Wm2_strikeOnce; omega)) (by unfold Wm2_strikeOnce; omega)) (by unfold Wm2_strikeOnce; omega)) (by unfold Wm2_strikeOnce; omega)) (by unfold Wm2_strikeOnce; omega))
    · have e := Option.some.inj h
      subst e
      exact (Fr.sI (Fr.sI (Fr.sI (Fr.sI (Fr.rf _ _) (by unfold Wm2_strikeOnce; omega)) (by unfold Wm2_strikeOnce; omega)) (by unfold Wm2_strikeOnce; omega)) (by unfold Wm2_strikeOnce; omega))
def Wm2_work (c1 : Nat) (c : Nat) : Prop := c = 40 ∨ c = 43 ∨ (c1 + 1 ≤ c ∧ c ≤ c1 + 7)
set_option maxHeartbeats 1000000 in
theorem f2_work_37 {F : Nat} {c1 : Nat} {r : Mem} : ∀ (n : Nat) (x2 : Int32) (σ : Mem), m2_work_37 F c1 n x2 σ = some r → Fr (Wm2_work c1) σ r := by
  intro n
  induction n with
  | zero => intro x2 σ h; unfold m2_work_37 at h; cases h
  | succ n ih =>
    intro x2 σ h
    unfold m2_work_37 at h
    rcases g_if h with ⟨hq, h⟩ | ⟨hq, h⟩
    · have e := Option.some.inj h
      subst e
      exact (Fr.rf _ _)
    · have ⟨hg, h⟩ := g_gd h
      have hb := inB_lt hg
      rcases g_if h with ⟨hq, h⟩ | ⟨hq, h⟩
      · exact Fr.trans (Fr.rf _ _) (ih _ _ h)
      · have ⟨hg, h⟩ := g_gd h
        have hb := inB_lt hg
        rcases g_if h with ⟨hq, h⟩ | ⟨hq, h⟩
        · have ⟨_, hc1, h⟩ := b_some h
          have qhc1 := f2_heatUp hc1
          exact Fr.trans (Fr.trans (Fr.rf _ _) (Fr.mono qhc1 (fun c hw => by unfold Wm2_heatUp at hw; unfold Wm2_work; omega))) (ih _ _ h)
        · have ⟨_, hc1, h⟩ := b_some h
          have qhc1 := f2_takes hc1
          rcases g_if h with ⟨hq, h⟩ | ⟨hq, h⟩
          · have ⟨hg, h⟩ := g_gd h
            have hb := inB_lt hg
            have ⟨hg, h⟩ := g_gd h
            have hb := inB_lt hg
            have ⟨hg, h⟩ := g_gd h
            have hb := inB_lt hg
            have ⟨hg, h⟩ := g_gd h
            have hb := inB_lt hg
            exact Fr.trans (Fr.sI (Fr.sI (Fr.trans (Fr.rf _ _) (Fr.mono qhc1 (fun c hw => by unfold Wm2_takes at hw; unfold Wm2_work; omega))) (by unfold Wm2_work; omega)) (by unfold Wm2_work; omega)) (ih _ _ h)
          · have ⟨_, hc2, h⟩ := b_some h
            have qhc2 := f2_strikeOnce hc2
            exact Fr.trans (Fr.trans (Fr.trans (Fr.rf _ _) (Fr.mono qhc1 (fun c hw => by unfold Wm2_takes at hw; unfold Wm2_work; omega))) (Fr.mono qhc2 (fun c hw => by unfold Wm2_strikeOnce at hw; unfold Wm2_work; omega))) (ih _ _ h)
set_option maxHeartbeats 1000000 in
theorem f2_work_17 {F : Nat} {c1 : Nat} {r : Mem} : ∀ (n : Nat) (x2 : Int32) (σ : Mem), m2_work_17 F c1 n x2 σ = some r → Fr (Wm2_work c1) σ r := by
  intro n
  induction n with
  | zero => intro x2 σ h; unfold m2_work_17 at h; cases h
  | succ n ih =>
    intro x2 σ h
    unfold m2_work_17 at h
    rcases g_if h with ⟨hq, h⟩ | ⟨hq, h⟩
    · exact Fr.trans (Fr.rf _ _) (f2_work_37 (F := F) F _ _ h)
    · have ⟨hg, h⟩ := g_gd h
      have hb := inB_lt hg
      exact Fr.trans (Fr.sI (Fr.rf _ _) (by unfold Wm2_work; omega)) (ih _ _ h)
set_option maxHeartbeats 1000000 in
theorem f2_work {F : Nat} {c1 : Nat} {σ : Mem} {r : Mem} (h : m2_work F c1 σ = some r) : Fr (Wm2_work c1) σ r := by
  unfold m2_work at h
  exact Fr.trans (Fr.sI (Fr.sI (Fr.sI (Fr.rf _ _) (by unfold Wm2_work; omega)) (by unfold Wm2_work; omega)) (by unfold Wm2_work; omega)) (f2_work_17 (F := F) F _ _ h)
def Wm2_go (c1 : Nat) (c : Nat) : Prop := (40 ≤ c ∧ c ≤ 44) ∨ (156 ≤ c ∧ c ≤ 186 ∧ c % 6 = 0) ∨ (c1 + 0 ≤ c ∧ c ≤ c1 + 7) ∨ c = c1 + 9
set_option maxHeartbeats 1000000 in
theorem f2_go_55 {F : Nat} {c1 : Nat} {r : Mem} : ∀ (n : Nat) (x2 : Int32) (σ : Mem), m2_go_55 F c1 n x2 σ = some r → Fr (Wm2_go c1) σ r := by
  intro n
  induction n with
  | zero => intro x2 σ h; unfold m2_go_55 at h; cases h
  | succ n ih =>
    intro x2 σ h
    unfold m2_go_55 at h
    rcases g_if h with ⟨hq, h⟩ | ⟨hq, h⟩
    · have e := Option.some.inj h
      subst e
      exact (Fr.sI (Fr.rf _ _) (by unfold Wm2_go; omega))
    · have ⟨hg, h⟩ := g_gd h
      have hb := inB_lt hg
      rcases g_if h with ⟨hq, h⟩ | ⟨hq, h⟩
      · exact Fr.trans (Fr.rf _ _) (ih _ _ h)
      · have ⟨hg, h⟩ := g_gd h
        have hb := inB_lt hg
        rcases g_if h with ⟨hq, h⟩ | ⟨hq, h⟩
        · exact Fr.trans (Fr.rf _ _) (ih _ _ h)
        · have ⟨hg, h⟩ := g_gd h
          have hb := inB_lt hg
          have ⟨hg, h⟩ := g_gd h
          have hb := inB_lt hg
          exact Fr.trans (Fr.sI (Fr.rf _ _) (by unfold Wm2_go; omega)) (ih _ _ h)
set_option maxHeartbeats 1000000 in
theorem f2_go_7 {F : Nat} {c1 : Nat} {r : Mem} : ∀ (n : Nat) (x2 : Int32) (σ : Mem), m2_go_7 F c1 n x2 σ = some r → Fr (Wm2_go c1) σ r := by
  intro n
  induction n with
  | zero => intro x2 σ h; unfold m2_go_7 at h; cases h
  | succ n ih =>
    intro x2 σ h
    unfold m2_go_7 at h
    rcases g_if h with ⟨hq, h⟩ | ⟨hq, h⟩
    · have ⟨_, hc1, h⟩ := b_some h
      have qhc1 := f2_work hc1
      exact Fr.trans (Fr.trans (Fr.rf _ _) (Fr.mono qhc1 (fun c hw => by unfold Wm2_work at hw; unfold Wm2_go; omega))) (f2_go_55 (F := F) F _ _ h)
    · have ⟨hg, h⟩ := g_gd h
      have hb := inB_lt hg
      rcases g_if h with ⟨hq, h⟩ | ⟨hq, h⟩
      · have ⟨hg, h⟩ := g_gd h
        have hb := inB_lt hg
        exact Fr.trans (Fr.sI (Fr.rf _ _) (by unfold Wm2_go; omega)) (ih _ _ h)
      · have ⟨_, hc1, h⟩ := b_some h
        have qhc1 := f2_willsToStrike hc1
        rcases g_if h with ⟨hq, h⟩ | ⟨hq, h⟩
        · have ⟨hg, h⟩ := g_gd h
          have hb := inB_lt hg
          exact Fr.trans (Fr.sI (Fr.trans (Fr.rf _ _) (Fr.mono qhc1 (fun c hw => by unfold Wm2_willsToStrike at hw; unfold Wm2_go; omega))) (by unfold Wm2_go; omega)) (ih _ _ h)
        · have ⟨hg, h⟩ := g_gd h
          have hb := inB_lt hg
          exact Fr.trans (Fr.sI (Fr.trans (Fr.rf _ _) (Fr.mono qhc1 (fun c hw => by unfold Wm2_willsToStrike at hw; unfold Wm2_go; omega))) (by unfold Wm2_go; omega)) (ih _ _ h)
set_option maxHeartbeats 1000000 in
theorem f2_go {F : Nat} {c1 : Nat} {σ : Mem} {r : Mem} (h : m2_go F c1 σ = some r) : Fr (Wm2_go c1) σ r := by
  unfold m2_go at h
  have ⟨_, hc1, h⟩ := b_some h
  have qhc1 := f2_assign hc1
  exact Fr.trans (Fr.trans (Fr.rf _ _) (Fr.mono qhc1 (fun c hw => by unfold Wm2_assign at hw; unfold Wm2_go; omega))) (f2_go_7 (F := F) F _ _ h)
def Wm0_chooseSets (c : Nat) : Prop := (40 ≤ c ∧ c ≤ 44) ∨ c = 56 ∨ (58 ≤ c ∧ c ≤ 59) ∨ (61 ≤ c ∧ c ≤ 120) ∨ (156 ≤ c ∧ c ≤ 186 ∧ c % 6 = 0)
set_option maxHeartbeats 1000000 in
theorem f0_chooseSets_40 {F : Nat} {rec : Int32 → Int32 → Mem → Option (Mem)} {i1 : Int32} {i2 : Int32} {r : Mem} (hrec : ∀ (i1 : Int32) (i2 : Int32) (σ : Mem) {r : Mem}, rec i1 i2 σ = some r → Fr (Wm0_chooseSets) σ r) : ∀ (n : Nat) (x3 : Int32) (x4 : Int32) (σ : Mem), m0_chooseSets_40 F rec i1 i2 n x3 x4 σ = some r → Fr (Wm0_chooseSets) σ r := by
  intro n
  induction n with
  | zero => intro x3 x4 σ h; unfold m0_chooseSets_40 at h; cases h
  | succ n ih =>
    intro x3 x4 σ h
    unfold m0_chooseSets_40 at h
    rcases g_if h with ⟨hq, h⟩ | ⟨hq, h⟩
    · have e := Option.some.inj h
      subst e
      exact (Fr.rf _ _)
    · rcases g_if h with ⟨hq, h⟩ | ⟨hq, h⟩
      · have ⟨hg, h⟩ := g_gd h
        have hb := inB_lt hg
        have ⟨hg, h⟩ := g_gd h
        have hb := inB_lt hg
        have ⟨_, hc1, h⟩ := b_some h
        have qhc1 := f7_copyFrom hc1
        have ⟨_, hc2, h⟩ := b_some h
        have qhc2 := f2_go hc2
        have ⟨hg, h⟩ := g_gd h
        have hb := inB_lt hg
        have ⟨_, hc3, h⟩ := b_some h
        have qhc3 := hrec _ _ _ hc3
        exact Fr.trans (Fr.trans (Fr.sI (Fr.trans (Fr.sI (Fr.trans (Fr.rf _ _) (Fr.mono qhc1 (fun c hw => by unfold Wm7_copyFrom at hw; unfold Wm0_chooseSets; omega))) (by unfold Wm0_chooseSets; omega)) (Fr.mono qhc2 (fun c hw => by unfold Wm2_go at hw; unfold Wm0_chooseSets; omega))) (by unfold Wm0_chooseSets; omega)) qhc3) (ih _ _ _ h)
      · exact Fr.trans (Fr.rf _ _) (ih _ _ _ h)
set_option maxHeartbeats 1000000 in
theorem f0_chooseSets (F : Nat) : ∀ (D : Nat) (i1 : Int32) (i2 : Int32) (σ : Mem) {r : Mem}, m0_chooseSets F D i1 i2 σ = some r → Fr (Wm0_chooseSets) σ r := by
  intro D
  induction D with
  | zero => intro i1 i2 σ r h; cases h
  | succ D ih =>
    intro i1 i2 σ r h
    have hrec := @ih
    change m0_chooseSets_e F (m0_chooseSets F D) i1 i2 σ = some r at h
    unfold m0_chooseSets_e at h
    rcases g_if h with ⟨hq, h⟩ | ⟨hq, h⟩
    · have ⟨hg, h⟩ := g_gd h
      have hb := inB_lt hg
      have ⟨_, hc1, h⟩ := b_some h
      exact Fr.trans (Fr.rf _ _) (f0_chooseSets_40 (F := F) hrec F _ _ _ h)
    · rcases g_if h with ⟨hq, h⟩ | ⟨hq, h⟩
      · have e := Option.some.inj h
        subst e
        exact (Fr.rf _ _)
      · have ⟨_, hc1, h⟩ := b_some h
        have qhc1 := f0_keepRow hc1
        have e := Option.some.inj h
        subst e
        exact (Fr.trans (Fr.sI (Fr.rf _ _) (by unfold Wm0_chooseSets; omega)) (Fr.mono qhc1 (fun c hw => by unfold Wm0_keepRow at hw; unfold Wm0_chooseSets; omega)))
def Wm0_bestRota (c : Nat) : Prop := (40 ≤ c ∧ c ≤ 44) ∨ c = 56 ∨ (58 ≤ c ∧ c ≤ 59) ∨ (61 ≤ c ∧ c ≤ 120) ∨ (156 ≤ c ∧ c ≤ 186 ∧ c % 6 = 0)
set_option maxHeartbeats 1000000 in
theorem f0_bestRota {F : Nat} {c1 : Nat} {i2 : Int32} {i3 : Int32} {σ : Mem} {r : Int32 × Mem} (h : m0_bestRota F c1 i2 i3 σ = some r) : Fr (Wm0_bestRota) σ r.2 := by
  unfold m0_bestRota at h
  have ⟨hg, h⟩ := g_gd h
  have hb := inB_lt hg
  have ⟨_, hc1, h⟩ := b_some h
  have qhc1 := f7_copyFrom hc1
  have ⟨_, hc2, h⟩ := b_some h
  have qhc2 := f0_chooseSets F 6 _ _ _ hc2
  rcases g_if h with ⟨hq, h⟩ | ⟨hq, h⟩
  · have e := Option.some.inj h
    subst e
    exact (Fr.trans (Fr.sI (Fr.sI (Fr.trans (Fr.rf _ _) (Fr.mono qhc1 (fun c hw => by unfold Wm7_copyFrom at hw; unfold Wm0_bestRota; omega))) (by unfold Wm0_bestRota; omega)) (by unfold Wm0_bestRota; omega)) (Fr.mono qhc2 (fun c hw => by unfold Wm0_chooseSets at hw; unfold Wm0_bestRota; omega)))
  · rcases g_if h with ⟨hq, h⟩ | ⟨hq, h⟩
    · have e := Option.some.inj h
      subst e
      exact (Fr.trans (Fr.sI (Fr.sI (Fr.trans (Fr.rf _ _) (Fr.mono qhc1 (fun c hw => by unfold Wm7_copyFrom at hw; unfold Wm0_bestRota; omega))) (by unfold Wm0_bestRota; omega)) (by unfold Wm0_bestRota; omega)) (Fr.mono qhc2 (fun c hw => by unfold Wm0_chooseSets at hw; unfold Wm0_bestRota; omega)))
    · have ⟨hg, h⟩ := g_gd h
      have hb := inB_lt hg
      have e := Option.some.inj h
      subst e
      exact (Fr.trans (Fr.sI (Fr.sI (Fr.trans (Fr.rf _ _) (Fr.mono qhc1 (fun c hw => by unfold Wm7_copyFrom at hw; unfold Wm0_bestRota; omega))) (by unfold Wm0_bestRota; omega)) (by unfold Wm0_bestRota; omega)) (Fr.mono qhc2 (fun c hw => by unfold Wm0_chooseSets at hw; unfold Wm0_bestRota; omega)))
def Wm0_putFirst (c1 : Nat) (c : Nat) : Prop := c = c1 + 1 ∨ c = c1 + 8
set_option maxHeartbeats 1000000 in
theorem f0_putFirst {F : Nat} {c1 : Nat} {i2 : Int32} {i3 : Int32} {σ : Mem} {r : Mem} (h : m0_putFirst F c1 i2 i3 σ = some r) : Fr (Wm0_putFirst c1) σ r := by
  unfold m0_putFirst at h
  rcases g_if h with ⟨hq, h⟩ | ⟨hq, h⟩
  · have ⟨hg, h⟩ := g_gd h
    have hb := inB_lt hg
    have e := Option.some.inj h
    subst e
    exact (Fr.sI (Fr.rf _ _) (by unfold Wm0_putFirst; omega))
  · have ⟨_, hc1, h⟩ := b_some h
    rcases g_if h with ⟨hq, h⟩ | ⟨hq, h⟩
    · have ⟨hg, h⟩ := g_gd h
      have hb := inB_lt hg
      have e := Option.some.inj h
      subst e
      exact (Fr.sI (Fr.rf _ _) (by unfold Wm0_putFirst; omega))
    · have ⟨hg, h⟩ := g_gd h
      have hb := inB_lt hg
      have ⟨hg, h⟩ := g_gd h
      have hb := inB_lt hg
      have e := Option.some.inj h
      subst e
      exact (Fr.sI (Fr.sI (Fr.rf _ _) (by unfold Wm0_putFirst; omega)) (by unfold Wm0_putFirst; omega))
def Wm0_chooseJobs (c : Nat) : Prop := (40 ≤ c ∧ c ≤ 44) ∨ c = 56 ∨ (58 ≤ c ∧ c ≤ 59) ∨ (61 ≤ c ∧ c ≤ 120) ∨ (156 ≤ c ∧ c ≤ 186 ∧ c % 6 = 0)
set_option maxHeartbeats 1000000 in
theorem f0_chooseJobs_169 {F : Nat} {rec : Int32 → Int32 → Mem → Option (Mem)} {i1 : Int32} {i2 : Int32} {r : Mem} (hrec : ∀ (i1 : Int32) (i2 : Int32) (σ : Mem) {r : Mem}, rec i1 i2 σ = some r → Fr (Wm0_chooseJobs) σ r) {k11 : Int32 → Mem → Option (Mem)} (hk11 : ∀ (x3 : Int32) (σ : Mem), k11 x3 σ = some r → Fr (Wm0_chooseJobs) σ r) : ∀ (x3 : Int32) (x4 : Nat) (x5 : Int32) (σ : Mem), 61 ≤ x4 ∧ x4 ≤ 111 → m0_chooseJobs_169 F rec i1 i2 k11 x3 x4 x5 σ = some r → Fr (Wm0_chooseJobs) σ r := by
  intro x3 x4 x5 σ hv0 h
  unfold m0_chooseJobs_169 at h
  have ⟨hg, h⟩ := g_gd h
  have hb := inB_lt hg
  have ⟨hg, h⟩ := g_gd h
  have hb := inB_lt hg
  rcases g_if h with ⟨hq, h⟩ | ⟨hq, h⟩
  · have ⟨_, hc1, h⟩ := b_some h
    have qhc1 := f0_keepRow hc1
    exact Fr.trans (Fr.trans (Fr.sI (Fr.rf _ _) (by unfold Wm0_chooseJobs; omega)) (Fr.mono qhc1 (fun c hw => by unfold Wm0_keepRow at hw; unfold Wm0_chooseJobs; omega))) (hk11 _ _ h)
  · exact Fr.trans (Fr.rf _ _) (hk11 _ _ h)
set_option maxHeartbeats 1000000 in
theorem f0_chooseJobs_132 {F : Nat} {rec : Int32 → Int32 → Mem → Option (Mem)} {i1 : Int32} {i2 : Int32} {r : Mem} (hrec : ∀ (i1 : Int32) (i2 : Int32) (σ : Mem) {r : Mem}, rec i1 i2 σ = some r → Fr (Wm0_chooseJobs) σ r) {k11 : Int32 → Mem → Option (Mem)} (hk11 : ∀ (x3 : Int32) (σ : Mem), k11 x3 σ = some r → Fr (Wm0_chooseJobs) σ r) : ∀ (x3 : Int32) (x4 : Nat) (x5 : Int32) (σ : Mem), 61 ≤ x4 ∧ x4 ≤ 111 → m0_chooseJobs_132 F rec i1 i2 k11 x3 x4 x5 σ = some r → Fr (Wm0_chooseJobs) σ r := by
  intro x3 x4 x5 σ hv0 h
  unfold m0_chooseJobs_132 at h
  have ⟨hg, h⟩ := g_gd h
  have hb := inB_lt hg
  have ⟨hg, h⟩ := g_gd h
  have hb := inB_lt hg
  rcases g_if h with ⟨hq, h⟩ | ⟨hq, h⟩
  · rcases g_if h with ⟨hq, h⟩ | ⟨hq, h⟩
    · exact Fr.trans (Fr.rf _ _) (f0_chooseJobs_169 (F := F) hrec (fun _ _ h => (hk11 _ _ h)) _ _ _ _ (by omega) h)
    · have ⟨_, hc1, h⟩ := b_some h
      have qhc1 := hrec _ _ _ hc1
      exact Fr.trans (Fr.trans (Fr.rf _ _) qhc1) (hk11 _ _ h)
  · exact Fr.trans (Fr.rf _ _) (f0_chooseJobs_169 (F := F) hrec (fun _ _ h => (hk11 _ _ h)) _ _ _ _ (by omega) h)
set_option maxHeartbeats 1000000 in
theorem f0_chooseJobs_91 {F : Nat} {rec : Int32 → Int32 → Mem → Option (Mem)} {i1 : Int32} {i2 : Int32} {r : Mem} (hrec : ∀ (i1 : Int32) (i2 : Int32) (σ : Mem) {r : Mem}, rec i1 i2 σ = some r → Fr (Wm0_chooseJobs) σ r) {k11 : Int32 → Mem → Option (Mem)} (hk11 : ∀ (x3 : Int32) (σ : Mem), k11 x3 σ = some r → Fr (Wm0_chooseJobs) σ r) : ∀ (n : Nat) (x3 : Int32) (x4 : Nat) (x5 : Int32) (σ : Mem), 61 ≤ x4 ∧ x4 ≤ 111 → m0_chooseJobs_91 F rec i1 i2 k11 n x3 x4 x5 σ = some r → Fr (Wm0_chooseJobs) σ r := by
  intro n
  induction n with
  | zero => intro x3 x4 x5 σ hv0 h; unfold m0_chooseJobs_91 at h; cases h
  | succ n ih =>
    intro x3 x4 x5 σ hv0 h
    unfold m0_chooseJobs_91 at h
    rcases g_if h with ⟨hq, h⟩ | ⟨hq, h⟩
    · exact Fr.trans (Fr.rf _ _) (f0_chooseJobs_132 (F := F) hrec (fun _ _ h => (hk11 _ _ h)) _ _ _ _ (by omega) h)
    · have ⟨hg, h⟩ := g_gd h
      have hb := inB_lt hg
      have ⟨hg, h⟩ := g_gd h
      have hb := inB_lt hg
      rcases g_if h with ⟨hq, h⟩ | ⟨hq, h⟩
      · exact Fr.trans (Fr.rf _ _) (f0_chooseJobs_132 (F := F) hrec (fun _ _ h => (hk11 _ _ h)) _ _ _ _ (by omega) h)
      · have ⟨_, hc1, h⟩ := b_some h
        have qhc1 := f2_go hc1
        exact Fr.trans (Fr.trans (Fr.rf _ _) (Fr.mono qhc1 (fun c hw => by unfold Wm2_go at hw; unfold Wm0_chooseJobs; omega))) (ih _ _ _ _ (by omega) h)
set_option maxHeartbeats 1000000 in
theorem f0_chooseJobs_85 {F : Nat} {rec : Int32 → Int32 → Mem → Option (Mem)} {i1 : Int32} {i2 : Int32} {r : Mem} (hrec : ∀ (i1 : Int32) (i2 : Int32) (σ : Mem) {r : Mem}, rec i1 i2 σ = some r → Fr (Wm0_chooseJobs) σ r) {k11 : Int32 → Mem → Option (Mem)} (hk11 : ∀ (x3 : Int32) (σ : Mem), k11 x3 σ = some r → Fr (Wm0_chooseJobs) σ r) : ∀ (x3 : Int32) (x4 : Nat) (s1 : Nat) (s2 : Int32) (s3 : Int32) (σ : Mem), 61 ≤ x4 ∧ x4 ≤ 111 → 61 ≤ s1 ∧ s1 ≤ 111 → m0_chooseJobs_85 F rec i1 i2 k11 x3 x4 s1 s2 s3 σ = some r → Fr (Wm0_chooseJobs) σ r := by
  intro x3 x4 s1 s2 s3 σ hv0 hv1 h
  unfold m0_chooseJobs_85 at h
  have ⟨_, hc1, h⟩ := b_some h
  have qhc1 := f0_putFirst hc1
  exact Fr.trans (Fr.trans (Fr.rf _ _) (Fr.mono qhc1 (fun c hw => by unfold Wm0_putFirst at hw; unfold Wm0_chooseJobs; omega))) (f0_chooseJobs_91 (F := F) hrec (fun _ _ h => (hk11 _ _ h)) F _ _ _ _ (by omega) h)
set_option maxHeartbeats 1000000 in
theorem f0_chooseJobs_11 {F : Nat} {rec : Int32 → Int32 → Mem → Option (Mem)} {i1 : Int32} {i2 : Int32} {r : Mem} (hrec : ∀ (i1 : Int32) (i2 : Int32) (σ : Mem) {r : Mem}, rec i1 i2 σ = some r → Fr (Wm0_chooseJobs) σ r) : ∀ (n : Nat) (x3 : Int32) (σ : Mem), m0_chooseJobs_11 F rec i1 i2 n x3 σ = some r → Fr (Wm0_chooseJobs) σ r := by
  intro n
  induction n with
  | zero => intro x3 σ h; unfold m0_chooseJobs_11 at h; cases h
  | succ n ih =>
    intro x3 σ h
    unfold m0_chooseJobs_11 at h
    rcases g_if h with ⟨hq, h⟩ | ⟨hq, h⟩
    · have e := Option.some.inj h
      subst e
      exact (Fr.rf _ _)
    · have ⟨hg, h⟩ := g_gd h
      have hb := inB_lt hg
      have ⟨hg, h⟩ := g_gd h
      have hb := inB_lt hg
      have ⟨_, hc1, h⟩ := b_some h
      have qhc1 := f7_copyFrom hc1
      have ⟨hg, h⟩ := g_gd h
      have hb := inB_lt hg
      have ⟨hg, h⟩ := g_gd h
      have hb := inB_lt hg
      rcases g_if h with ⟨hq, h⟩ | ⟨hq, h⟩
      · exact Fr.trans (Fr.trans (Fr.rf _ _) (Fr.mono qhc1 (fun c hw => by unfold Wm7_copyFrom at hw; unfold Wm0_chooseJobs; omega))) (ih _ _ h)
      · have ⟨hg, h⟩ := g_gd h
        have hb := inB_lt hg
        have ⟨hg, h⟩ := g_gd h
        have hb := inB_lt hg
        have ⟨hg, h⟩ := g_gd h
        have hb := inB_lt hg
        rcases g_if h with ⟨hq, h⟩ | ⟨hq, h⟩
        · exact Fr.trans (Fr.sI (Fr.trans (Fr.rf _ _) (Fr.mono qhc1 (fun c hw => by unfold Wm7_copyFrom at hw; unfold Wm0_chooseJobs; omega))) (by unfold Wm0_chooseJobs; omega)) (f0_chooseJobs_85 (F := F) hrec (fun _ _ h => (ih _ _ h)) _ _ _ _ _ _ (by omega) (by omega) h)
        · exact Fr.trans (Fr.sI (Fr.trans (Fr.rf _ _) (Fr.mono qhc1 (fun c hw => by unfold Wm7_copyFrom at hw; unfold Wm0_chooseJobs; omega))) (by unfold Wm0_chooseJobs; omega)) (f0_chooseJobs_85 (F := F) hrec (fun _ _ h => (ih _ _ h)) _ _ _ _ _ _ (by omega) (by omega) h)
set_option maxHeartbeats 1000000 in
theorem f0_chooseJobs (F : Nat) : ∀ (D : Nat) (i1 : Int32) (i2 : Int32) (σ : Mem) {r : Mem}, m0_chooseJobs F D i1 i2 σ = some r → Fr (Wm0_chooseJobs) σ r := by
  intro D
  induction D with
  | zero => intro i1 i2 σ r h; cases h
  | succ D ih =>
    intro i1 i2 σ r h
    have hrec := @ih
    change m0_chooseJobs_e F (m0_chooseJobs F D) i1 i2 σ = some r at h
    unfold m0_chooseJobs_e at h
    rcases g_if h with ⟨hq, h⟩ | ⟨hq, h⟩
    · exact Fr.trans (Fr.rf _ _) (f0_chooseJobs_11 (F := F) hrec F _ _ h)
    · have e := Option.some.inj h
      subst e
      exact (Fr.rf _ _)
def Wm0_bestOrder (c : Nat) : Prop := (40 ≤ c ∧ c ≤ 44) ∨ c = 56 ∨ (58 ≤ c ∧ c ≤ 120) ∨ (156 ≤ c ∧ c ≤ 186 ∧ c % 6 = 0)
set_option maxHeartbeats 1000000 in
theorem f0_bestOrder_99 {F : Nat} {c1 : Nat} {i2 : Int32} {i3 : Int32} {r : Int32 × Mem} : ∀ (s1 : Int32) (σ : Mem), m0_bestOrder_99 F c1 i2 i3 s1 σ = some r → Fr (Wm0_bestOrder) σ r.2 := by
  intro s1 σ h
  unfold m0_bestOrder_99 at h
  have ⟨_, hc1, h⟩ := b_some h
  have qhc1 := f0_chooseJobs F 7 _ _ _ hc1
  rcases g_if h with ⟨hq, h⟩ | ⟨hq, h⟩
  · have e := Option.some.inj h
    subst e
    exact (Fr.trans (Fr.sI (Fr.rf _ _) (by unfold Wm0_bestOrder; omega)) (Fr.mono qhc1 (fun c hw => by unfold Wm0_chooseJobs at hw; unfold Wm0_bestOrder; omega)))
  · rcases g_if h with ⟨hq, h⟩ | ⟨hq, h⟩
    · rcases g_if h with ⟨hq, h⟩ | ⟨hq, h⟩
      · have e := Option.some.inj h
        subst e
        exact (Fr.trans (Fr.sI (Fr.rf _ _) (by unfold Wm0_bestOrder; omega)) (Fr.mono qhc1 (fun c hw => by unfold Wm0_chooseJobs at hw; unfold Wm0_bestOrder; omega)))
      · rcases g_if h with ⟨hq, h⟩ | ⟨hq, h⟩
        · have e := Option.some.inj h
          subst e
          exact (Fr.trans (Fr.sI (Fr.rf _ _) (by unfold Wm0_bestOrder; omega)) (Fr.mono qhc1 (fun c hw => by unfold Wm0_chooseJobs at hw; unfold Wm0_bestOrder; omega)))
        · have ⟨hg, h⟩ := g_gd h
          have hb := inB_lt hg
          have e := Option.some.inj h
          subst e
          exact (Fr.trans (Fr.sI (Fr.rf _ _) (by unfold Wm0_bestOrder; omega)) (Fr.mono qhc1 (fun c hw => by unfold Wm0_chooseJobs at hw; unfold Wm0_bestOrder; omega)))
    · have e := Option.some.inj h
      subst e
      exact (Fr.trans (Fr.sI (Fr.rf _ _) (by unfold Wm0_bestOrder; omega)) (Fr.mono qhc1 (fun c hw => by unfold Wm0_chooseJobs at hw; unfold Wm0_bestOrder; omega)))
set_option maxHeartbeats 1000000 in
theorem f0_bestOrder_84 {F : Nat} {c1 : Nat} {i2 : Int32} {i3 : Int32} {r : Int32 × Mem} : ∀ (σ : Mem), m0_bestOrder_84 F c1 i2 i3 σ = some r → Fr (Wm0_bestOrder) σ r.2 := by
  intro σ h
  unfold m0_bestOrder_84 at h
  rcases g_if h with ⟨hq, h⟩ | ⟨hq, h⟩
  · exact Fr.trans (Fr.rf _ _) (f0_bestOrder_99 (F := F) _ _ h)
  · exact Fr.trans (Fr.rf _ _) (f0_bestOrder_99 (F := F) _ _ h)
set_option maxHeartbeats 1000000 in
theorem f0_bestOrder_23 {F : Nat} {c1 : Nat} {i2 : Int32} {i3 : Int32} {r : Int32 × Mem} : ∀ (n : Nat) (x4 : Int32) (σ : Mem), m0_bestOrder_23 F c1 i2 i3 n x4 σ = some r → Fr (Wm0_bestOrder) σ r.2 := by
  intro n
  induction n with
  | zero => intro x4 σ h; unfold m0_bestOrder_23 at h; cases h
  | succ n ih =>
    intro x4 σ h
    unfold m0_bestOrder_23 at h
    rcases g_if h with ⟨hq, h⟩ | ⟨hq, h⟩
    · exact Fr.trans (Fr.rf _ _) (f0_bestOrder_84 (F := F) _ h)
    · rcases g_if h with ⟨hq, h⟩ | ⟨hq, h⟩
      · exact Fr.trans (Fr.rf _ _) (f0_bestOrder_84 (F := F) _ h)
      · have ⟨_, hc1, h⟩ := b_some h
        rcases g_if h with ⟨hq, h⟩ | ⟨hq, h⟩
        · exact Fr.trans (Fr.rf _ _) (ih _ _ h)
        · have ⟨hg, h⟩ := g_gd h
          have hb := inB_lt hg
          exact Fr.trans (Fr.sI (Fr.sI (Fr.rf _ _) (by unfold Wm0_bestOrder; omega)) (by unfold Wm0_bestOrder; omega)) (ih _ _ h)
set_option maxHeartbeats 1000000 in
theorem f0_bestOrder {F : Nat} {c1 : Nat} {i2 : Int32} {i3 : Int32} {σ : Mem} {r : Int32 × Mem} (h : m0_bestOrder F c1 i2 i3 σ = some r) : Fr (Wm0_bestOrder) σ r.2 := by
  unfold m0_bestOrder at h
  have ⟨hg, h⟩ := g_gd h
  have hb := inB_lt hg
  have ⟨_, hc1, h⟩ := b_some h
  have qhc1 := f7_copyFrom hc1
  exact Fr.trans (Fr.sI (Fr.sI (Fr.trans (Fr.rf _ _) (Fr.mono qhc1 (fun c hw => by unfold Wm7_copyFrom at hw; unfold Wm0_bestOrder; omega))) (by unfold Wm0_bestOrder; omega)) (by unfold Wm0_bestOrder; omega)) (f0_bestOrder_23 (F := F) F _ _ h)
def Wm0_chooseBeside (c : Nat) : Prop := c = 56 ∨ (58 ≤ c ∧ c ≤ 59)
set_option maxHeartbeats 1000000 in
theorem f0_chooseBeside_73 {F : Nat} {rec : Int32 → Int32 → Int32 → Int32 → Mem → Option (Mem)} {i1 : Int32} {i2 : Int32} {i3 : Int32} {i4 : Int32} {r : Mem} (hrec : ∀ (i1 : Int32) (i2 : Int32) (i3 : Int32) (i4 : Int32) (σ : Mem) {r : Mem}, rec i1 i2 i3 i4 σ = some r → Fr (Wm0_chooseBeside) σ r) : ∀ (n : Nat) (x5 : Int32) (σ : Mem), m0_chooseBeside_73 F rec i1 i2 i3 i4 n x5 σ = some r → Fr (Wm0_chooseBeside) σ r := by
  intro n
  induction n with
  | zero => intro x5 σ h; unfold m0_chooseBeside_73 at h; cases h
  | succ n ih =>
    intro x5 σ h
    unfold m0_chooseBeside_73 at h
    rcases g_if h with ⟨hq, h⟩ | ⟨hq, h⟩
    · have e := Option.some.inj h
      subst e
      exact (Fr.rf _ _)
    · have ⟨hg, h⟩ := g_gd h
      have hb := inB_lt hg
      have ⟨_, hc1, h⟩ := b_some h
      rcases g_if h with ⟨hq, h⟩ | ⟨hq, h⟩
      · exact Fr.trans (Fr.rf _ _) (ih _ _ h)
      · have ⟨hg, h⟩ := g_gd h
        have hb := inB_lt hg
        rcases g_if h with ⟨hq, h⟩ | ⟨hq, h⟩
        · have ⟨hg, h⟩ := g_gd h
          have hb := inB_lt hg
          have ⟨hg, h⟩ := g_gd h
          have hb := inB_lt hg
          have ⟨hg, h⟩ := g_gd h
          have hb := inB_lt hg
          have ⟨_, hc2, h⟩ := b_some h
          have qhc2 := hrec _ _ _ _ _ hc2
          exact Fr.trans (Fr.trans (Fr.sI (Fr.rf _ _) (by unfold Wm0_chooseBeside; omega)) qhc2) (ih _ _ h)
        · exact Fr.trans (Fr.rf _ _) (ih _ _ h)
set_option maxHeartbeats 1000000 in
theorem f0_chooseBeside_36 {F : Nat} {rec : Int32 → Int32 → Int32 → Int32 → Mem → Option (Mem)} {i1 : Int32} {i2 : Int32} {i3 : Int32} {i4 : Int32} {r : Mem} (hrec : ∀ (i1 : Int32) (i2 : Int32) (i3 : Int32) (i4 : Int32) (σ : Mem) {r : Mem}, rec i1 i2 i3 i4 σ = some r → Fr (Wm0_chooseBeside) σ r) : ∀ (σ : Mem), m0_chooseBeside_36 F rec i1 i2 i3 i4 σ = some r → Fr (Wm0_chooseBeside) σ r := by
  intro σ h
  unfold m0_chooseBeside_36 at h
  have ⟨_, hc1, h⟩ := b_some h
  have qhc1 := f0_keepRow hc1
  have e := Option.some.inj h
  subst e
  exact (Fr.trans (Fr.sI (Fr.sI (Fr.rf _ _) (by unfold Wm0_chooseBeside; omega)) (by unfold Wm0_chooseBeside; omega)) (Fr.mono qhc1 (fun c hw => by unfold Wm0_keepRow at hw; unfold Wm0_chooseBeside; omega)))
set_option maxHeartbeats 1000000 in
theorem f0_chooseBeside (F : Nat) : ∀ (D : Nat) (i1 : Int32) (i2 : Int32) (i3 : Int32) (i4 : Int32) (σ : Mem) {r : Mem}, m0_chooseBeside F D i1 i2 i3 i4 σ = some r → Fr (Wm0_chooseBeside) σ r := by
  intro D
  induction D with
  | zero => intro i1 i2 i3 i4 σ r h; cases h
  | succ D ih =>
    intro i1 i2 i3 i4 σ r h
    have hrec := @ih
    change m0_chooseBeside_e F (m0_chooseBeside F D) i1 i2 i3 i4 σ = some r at h
    unfold m0_chooseBeside_e at h
    rcases g_if h with ⟨hq, h⟩ | ⟨hq, h⟩
    · have ⟨hg, h⟩ := g_gd h
      have hb := inB_lt hg
      have ⟨_, hc1, h⟩ := b_some h
      have qhc1 := hrec _ _ _ _ _ hc1
      exact Fr.trans (Fr.trans (Fr.sI (Fr.rf _ _) (by unfold Wm0_chooseBeside; omega)) qhc1) (f0_chooseBeside_73 (F := F) hrec F _ _ h)
    · rcases g_if h with ⟨hq, h⟩ | ⟨hq, h⟩
      · exact Fr.trans (Fr.rf _ _) (f0_chooseBeside_36 (F := F) hrec _ h)
      · rcases g_if h with ⟨hq, h⟩ | ⟨hq, h⟩
        · rcases g_if h with ⟨hq, h⟩ | ⟨hq, h⟩
          · have e := Option.some.inj h
            subst e
            exact (Fr.rf _ _)
          · exact Fr.trans (Fr.rf _ _) (f0_chooseBeside_36 (F := F) hrec _ h)
        · have e := Option.some.inj h
          subst e
          exact (Fr.rf _ _)
def Wm0_bestBeside (c : Nat) : Prop := c = 56 ∨ (58 ≤ c ∧ c ≤ 59) ∨ (61 ≤ c ∧ c ≤ 120)
set_option maxHeartbeats 1000000 in
theorem f0_bestBeside_22 {F : Nat} {c1 : Nat} {i2 : Int32} {r : Int32 × Mem} : ∀ (n : Nat) (x3 : Int32) (σ : Mem), m0_bestBeside_22 F c1 i2 n x3 σ = some r → Fr (Wm0_bestBeside) σ r.2 := by
  intro n
  induction n with
  | zero => intro x3 σ h; unfold m0_bestBeside_22 at h; cases h
  | succ n ih =>
    intro x3 σ h
    unfold m0_bestBeside_22 at h
    rcases g_if h with ⟨hq, h⟩ | ⟨hq, h⟩
    · have ⟨_, hc1, h⟩ := b_some h
      have qhc1 := f0_chooseBeside F 5 _ _ _ _ _ hc1
      rcases g_if h with ⟨hq, h⟩ | ⟨hq, h⟩
      · have e := Option.some.inj h
        subst e
        exact (Fr.trans (Fr.rf _ _) (Fr.mono qhc1 (fun c hw => by unfold Wm0_chooseBeside at hw; unfold Wm0_bestBeside; omega)))
      · rcases g_if h with ⟨hq, h⟩ | ⟨hq, h⟩
        · have e := Option.some.inj h
          subst e
          exact (Fr.trans (Fr.rf _ _) (Fr.mono qhc1 (fun c hw => by unfold Wm0_chooseBeside at hw; unfold Wm0_bestBeside; omega)))
        · rcases g_if h with ⟨hq, h⟩ | ⟨hq, h⟩
          · have e := Option.some.inj h
            subst e
            exact (Fr.trans (Fr.rf _ _) (Fr.mono qhc1 (fun c hw => by unfold Wm0_chooseBeside at hw; unfold Wm0_bestBeside; omega)))
          · have ⟨hg, h⟩ := g_gd h
            have hb := inB_lt hg
            have e := Option.some.inj h
            subst e
            exact (Fr.trans (Fr.rf _ _) (Fr.mono qhc1 (fun c hw => by unfold Wm0_chooseBeside at hw; unfold Wm0_bestBeside; omega)))
    · have ⟨hg, h⟩ := g_gd h
      have hb := inB_lt hg
      exact Fr.trans (Fr.sI (Fr.rf _ _) (by unfold Wm0_bestBeside; omega)) (ih _ _ h)
set_option maxHeartbeats 1000000 in
theorem f0_bestBeside {F : Nat} {c1 : Nat} {i2 : Int32} {σ : Mem} {r : Int32 × Mem} (h : m0_bestBeside F c1 i2 σ = some r) : Fr (Wm0_bestBeside) σ r.2 := by
  unfold m0_bestBeside at h
  have ⟨hg, h⟩ := g_gd h
  have hb := inB_lt hg
  have ⟨_, hc1, h⟩ := b_some h
  have qhc1 := f7_copyFrom hc1
  exact Fr.trans (Fr.sI (Fr.sI (Fr.trans (Fr.rf _ _) (Fr.mono qhc1 (fun c hw => by unfold Wm7_copyFrom at hw; unfold Wm0_bestBeside; omega))) (by unfold Wm0_bestBeside; omega)) (by unfold Wm0_bestBeside; omega)) (f0_bestBeside_22 (F := F) F _ _ h)
def Wm2_plain (c : Nat) : Prop := c = 40 ∨ c = 1000
set_option maxHeartbeats 1000000 in
theorem f2_plain {F : Nat} {c1 : Nat} {σ : Mem} {r : Mem} (h : m2_plain F c1 σ = some r) : Fr (Wm2_plain) σ r := by
  unfold m2_plain at h
  have e := Option.some.inj h
  subst e
  exact (Fr.sI (Fr.sI (Fr.sI (Fr.sI (Fr.sI (Fr.sR (Fr.rf _ _) (by unfold Wm2_plain; omega)) (by unfold Wm2_plain; omega)) (by unfold Wm2_plain; omega)) (by unfold Wm2_plain; omega)) (by unfold Wm2_plain; omega)) (by unfold Wm2_plain; omega))
def Wm7_begin (c0 : Nat) (c : Nat) : Prop := (c0 + 0 ≤ c ∧ c ≤ c0 + 9)
set_option maxHeartbeats 1000000 in
theorem f7_begin_95 {F : Nat} {c0 : Nat} {c1 : Nat} {r : Mem} : ∀ (n : Nat) (x2 : Int32) (σ : Mem), m7_begin_95 F c0 c1 n x2 σ = some r → Fr (Wm7_begin c0) σ r := by
  intro n
  induction n with
  | zero => intro x2 σ h; unfold m7_begin_95 at h; cases h
  | succ n ih =>
    intro x2 σ h
    unfold m7_begin_95 at h
    rcases g_if h with ⟨hq, h⟩ | ⟨hq, h⟩
    · have ⟨hg, h⟩ := g_gd h
      have hb := inB_lt hg
      have e := Option.some.inj h
      subst e
      exact (Fr.sI (Fr.rf _ _) (by unfold Wm7_begin; omega))
    · have ⟨hg, h⟩ := g_gd h
      have hb := inB_lt hg
      have ⟨hg, h⟩ := g_gd h
      have hb := inB_lt hg
      exact Fr.trans (Fr.sI (Fr.rf _ _) (by unfold Wm7_begin; omega)) (ih _ _ h)
set_option maxHeartbeats 1000000 in
theorem f7_begin_55 {F : Nat} {c0 : Nat} {c1 : Nat} {r : Mem} : ∀ (n : Nat) (x2 : Int32) (σ : Mem), m7_begin_55 F c0 c1 n x2 σ = some r → Fr (Wm7_begin c0) σ r := by
  intro n
  induction n with
  | zero => intro x2 σ h; unfold m7_begin_55 at h; cases h
  | succ n ih =>
    intro x2 σ h
    unfold m7_begin_55 at h
    rcases g_if h with ⟨hq, h⟩ | ⟨hq, h⟩
    · exact Fr.trans (Fr.rf _ _) (f7_begin_95 (F := F) F _ _ h)
    · have ⟨hg, h⟩ := g_gd h
      have hb := inB_lt hg
      have ⟨hg, h⟩ := g_gd h
      have hb := inB_lt hg
      have ⟨hg, h⟩ := g_gd h
      have hb := inB_lt hg
      have ⟨hg, h⟩ := g_gd h
      have hb := inB_lt hg
      exact Fr.trans (Fr.sI (Fr.sI (Fr.sI (Fr.rf _ _) (by unfold Wm7_begin; omega)) (by unfold Wm7_begin; omega)) (by unfold Wm7_begin; omega)) (ih _ _ h)
set_option maxHeartbeats 1000000 in
theorem f7_begin_7 {F : Nat} {c0 : Nat} {c1 : Nat} {r : Mem} : ∀ (n : Nat) (x2 : Int32) (σ : Mem), m7_begin_7 F c0 c1 n x2 σ = some r → Fr (Wm7_begin c0) σ r := by
  intro n
  induction n with
  | zero => intro x2 σ h; unfold m7_begin_7 at h; cases h
  | succ n ih =>
    intro x2 σ h
    unfold m7_begin_7 at h
    rcases g_if h with ⟨hq, h⟩ | ⟨hq, h⟩
    · exact Fr.trans (Fr.rf _ _) (f7_begin_55 (F := F) F _ _ h)
    · have ⟨hg, h⟩ := g_gd h
      have hb := inB_lt hg
      have ⟨hg, h⟩ := g_gd h
      have hb := inB_lt hg
      have ⟨hg, h⟩ := g_gd h
      have hb := inB_lt hg
      have ⟨hg, h⟩ := g_gd h
      have hb := inB_lt hg
      have ⟨hg, h⟩ := g_gd h
      have hb := inB_lt hg
      exact Fr.trans (Fr.sI (Fr.sI (Fr.sI (Fr.sI (Fr.sI (Fr.rf _ _) (by unfold Wm7_begin; omega)) (by unfold Wm7_begin; omega)) (by unfold Wm7_begin; omega)) (by unfold Wm7_begin; omega)) (by unfold Wm7_begin; omega)) (ih _ _ h)
set_option maxHeartbeats 1000000 in
theorem f7_begin {F : Nat} {c0 : Nat} {c1 : Nat} {σ : Mem} {r : Mem} (h : m7_begin F c0 c1 σ = some r) : Fr (Wm7_begin c0) σ r := by
  unfold m7_begin at h
  exact Fr.trans (Fr.sI (Fr.rf _ _) (by unfold Wm7_begin; omega)) (f7_begin_7 (F := F) F _ _ h)
def Wm1_fits (c : Nat) : Prop := (40 ≤ c ∧ c ≤ 44) ∨ (136 ≤ c ∧ c ≤ 146) ∨ (156 ≤ c ∧ c ≤ 186 ∧ c % 6 = 0)
set_option maxHeartbeats 1000000 in
theorem f1_fits_82 {F : Nat} {c1 : Nat} {i2 : Int32} {r : Int32 × Mem} {k23 : Int32 → Int32 → Mem → Option (Int32 × Mem)} (hk23 : ∀ (x3 : Int32) (x4 : Int32) (σ : Mem), k23 x3 x4 σ = some r → Fr (Wm1_fits) σ r.2) : ∀ (x3 : Int32) (x4 : Int32) (σ : Mem), m1_fits_82 F c1 i2 k23 x3 x4 σ = some r → Fr (Wm1_fits) σ r.2 := by
  intro x3 x4 σ h
  unfold m1_fits_82 at h
  have ⟨_, hc1, h⟩ := b_some h
  have qhc1 := f2_go hc1
  exact Fr.trans (Fr.trans (Fr.rf _ _) (Fr.mono qhc1 (fun c hw => by unfold Wm2_go at hw; unfold Wm1_fits; omega))) (hk23 _ _ _ h)
set_option maxHeartbeats 1000000 in
theorem f1_fits_53 {F : Nat} {c1 : Nat} {i2 : Int32} {r : Int32 × Mem} {k82 : Int32 → Int32 → Mem → Option (Int32 × Mem)} (hk82 : ∀ (x3 : Int32) (x4 : Int32) (σ : Mem), k82 x3 x4 σ = some r → Fr (Wm1_fits) σ r.2) : ∀ (n : Nat) (x3 : Int32) (x4 : Int32) (x5 : Int32) (σ : Mem), m1_fits_53 F c1 i2 k82 n x3 x4 x5 σ = some r → Fr (Wm1_fits) σ r.2 := by
  intro n
  induction n with
  | zero => intro x3 x4 x5 σ h; unfold m1_fits_53 at h; cases h
  | succ n ih =>
    intro x3 x4 x5 σ h
    unfold m1_fits_53 at h
    rcases g_if h with ⟨hq, h⟩ | ⟨hq, h⟩
    · exact Fr.trans (Fr.rf _ _) (hk82 _ _ _ h)
    · have ⟨hg, h⟩ := g_gd h
      have hb := inB_lt hg
      have ⟨hg, h⟩ := g_gd h
      have hb := inB_lt hg
      exact Fr.trans (Fr.sI (Fr.rf _ _) (by unfold Wm1_fits; omega)) (ih _ _ _ _ h)
set_option maxHeartbeats 1000000 in
theorem f1_fits_23 {F : Nat} {c1 : Nat} {i2 : Int32} {r : Int32 × Mem} : ∀ (n : Nat) (x3 : Int32) (x4 : Int32) (σ : Mem), m1_fits_23 F c1 i2 n x3 x4 σ = some r → Fr (Wm1_fits) σ r.2 := by
  intro n
  induction n with
  | zero => intro x3 x4 σ h; unfold m1_fits_23 at h; cases h
  | succ n ih =>
    intro x3 x4 σ h
    unfold m1_fits_23 at h
    rcases g_if h with ⟨hq, h⟩ | ⟨hq, h⟩
    · have e := Option.some.inj h
      subst e
      exact (Fr.rf _ _)
    · have ⟨_, hc1, h⟩ := b_some h
      rcases g_if h with ⟨hq, h⟩ | ⟨hq, h⟩
      · have e := Option.some.inj h
        subst e
        exact (Fr.rf _ _)
      · rcases g_if h with ⟨hq, h⟩ | ⟨hq, h⟩
        · exact Fr.trans (Fr.rf _ _) (f1_fits_53 (F := F) (fun _ _ _ h => (f1_fits_82 (F := F) (fun _ _ _ h => (ih _ _ _ h)) _ _ _ h)) F _ _ _ _ h)
        · exact Fr.trans (Fr.rf _ _) (f1_fits_82 (F := F) (fun _ _ _ h => (ih _ _ _ h)) _ _ _ h)
set_option maxHeartbeats 1000000 in
theorem f1_fits {F : Nat} {c1 : Nat} {i2 : Int32} {σ : Mem} {r : Int32 × Mem} (h : m1_fits F c1 i2 σ = some r) : Fr (Wm1_fits) σ r.2 := by
  unfold m1_fits at h
  have ⟨_, hc1, h⟩ := b_some h
  have ⟨_, hc2, h⟩ := b_some h
  have qhc2 := f7_begin hc2
  exact Fr.trans (Fr.trans (Fr.rf _ _) (Fr.mono qhc2 (fun c hw => by unfold Wm7_begin at hw; unfold Wm1_fits; omega))) (f1_fits_23 (F := F) F _ _ _ h)
def Wm1_weigh (c : Nat) : Prop := (40 ≤ c ∧ c ≤ 44) ∨ (135 ≤ c ∧ c ≤ 146) ∨ (148 ≤ c ∧ c ≤ 150) ∨ c = 1000 ∨ (156 ≤ c ∧ c ≤ 186 ∧ c % 6 = 0)
set_option maxHeartbeats 1000000 in
theorem f1_weigh_89 {F : Nat} {i2 : Int32} {c3 : Nat} {i4 : Int32} {r : Mem} {k13 : Int32 → Mem → Option (Mem)} (hk13 : ∀ (x5 : Int32) (σ : Mem), k13 x5 σ = some r → Fr (Wm1_weigh) σ r) : ∀ (n : Nat) (x5 : Int32) (x6 : Int32) (σ : Mem), m1_weigh_89 F i2 c3 i4 k13 n x5 x6 σ = some r → Fr (Wm1_weigh) σ r := by
  intro n
  induction n with
  | zero => intro x5 x6 σ h; unfold m1_weigh_89 at h; cases h
  | succ n ih =>
    intro x5 x6 σ h
    unfold m1_weigh_89 at h
    rcases g_if h with ⟨hq, h⟩ | ⟨hq, h⟩
    · exact Fr.trans (Fr.sI (Fr.rf _ _) (by unfold Wm1_weigh; omega)) (hk13 _ _ h)
    · have ⟨hg, h⟩ := g_gd h
      have hb := inB_lt hg
      have ⟨hg, h⟩ := g_gd h
      have hb := inB_lt hg
      have ⟨hg, h⟩ := g_gd h
      have hb := inB_lt hg
      exact Fr.trans (Fr.sI (Fr.rf _ _) (by unfold Wm1_weigh; omega)) (ih _ _ _ h)
set_option maxHeartbeats 1000000 in
theorem f1_weigh_44 {F : Nat} {i2 : Int32} {c3 : Nat} {i4 : Int32} {r : Mem} {k13 : Int32 → Mem → Option (Mem)} (hk13 : ∀ (x5 : Int32) (σ : Mem), k13 x5 σ = some r → Fr (Wm1_weigh) σ r) : ∀ (x5 : Int32) (s1 : Nat) (σ : Mem), m1_weigh_44 F i2 c3 i4 k13 x5 s1 σ = some r → Fr (Wm1_weigh) σ r := by
  intro x5 s1 σ h
  unfold m1_weigh_44 at h
  have ⟨_, hc1, h⟩ := b_some h
  have qhc1 := f2_plain hc1
  rcases g_if h with ⟨hq, h⟩ | ⟨hq, h⟩
  · exact Fr.trans (Fr.trans (Fr.rf _ _) (Fr.mono qhc1 (fun c hw => by unfold Wm2_plain at hw; unfold Wm1_weigh; omega))) (hk13 _ _ h)
  · have ⟨_, hc2, h⟩ := b_some h
    have qhc2 := f1_fits hc2
    rcases g_if h with ⟨hq, h⟩ | ⟨hq, h⟩
    · exact Fr.trans (Fr.trans (Fr.trans (Fr.rf _ _) (Fr.mono qhc1 (fun c hw => by unfold Wm2_plain at hw; unfold Wm1_weigh; omega))) (Fr.mono qhc2 (fun c hw => by unfold Wm1_fits at hw; unfold Wm1_weigh; omega))) (hk13 _ _ h)
    · rcases g_if h with ⟨hq, h⟩ | ⟨hq, h⟩
      · exact Fr.trans (Fr.sI (Fr.trans (Fr.trans (Fr.rf _ _) (Fr.mono qhc1 (fun c hw => by unfold Wm2_plain at hw; unfold Wm1_weigh; omega))) (Fr.mono qhc2 (fun c hw => by unfold Wm1_fits at hw; unfold Wm1_weigh; omega))) (by unfold Wm1_weigh; omega)) (f1_weigh_89 (F := F) (fun _ _ h => (hk13 _ _ h)) F _ _ _ h)
      · exact Fr.trans (Fr.sI (Fr.trans (Fr.trans (Fr.rf _ _) (Fr.mono qhc1 (fun c hw => by unfold Wm2_plain at hw; unfold Wm1_weigh; omega))) (Fr.mono qhc2 (fun c hw => by unfold Wm1_fits at hw; unfold Wm1_weigh; omega))) (by unfold Wm1_weigh; omega)) (f1_weigh_89 (F := F) (fun _ _ h => (hk13 _ _ h)) F _ _ _ h)
set_option maxHeartbeats 1000000 in
theorem f1_weigh_13 {F : Nat} {i2 : Int32} {c3 : Nat} {i4 : Int32} {r : Mem} : ∀ (n : Nat) (x5 : Int32) (σ : Mem), m1_weigh_13 F i2 c3 i4 n x5 σ = some r → Fr (Wm1_weigh) σ r := by
  intro n
  induction n with
  | zero => intro x5 σ h; unfold m1_weigh_13 at h; cases h
  | succ n ih =>
    intro x5 σ h
    unfold m1_weigh_13 at h
    rcases g_if h with ⟨hq, h⟩ | ⟨hq, h⟩
    · have e := Option.some.inj h
      subst e
      exact (Fr.rf _ _)
    · rcases g_if h with ⟨hq, h⟩ | ⟨hq, h⟩
      · have e := Option.some.inj h
        subst e
        exact (Fr.rf _ _)
      · rcases g_if h with ⟨hq, h⟩ | ⟨hq, h⟩
        · exact Fr.trans (Fr.rf _ _) (f1_weigh_44 (F := F) (fun _ _ h => (ih _ _ h)) _ _ _ h)
        · have ⟨hg, h⟩ := g_gd h
          have hb := inB_lt hg
          exact Fr.trans (Fr.rf _ _) (f1_weigh_44 (F := F) (fun _ _ h => (ih _ _ h)) _ _ _ h)
set_option maxHeartbeats 1000000 in
theorem f1_weigh {F : Nat} {i2 : Int32} {c3 : Nat} {i4 : Int32} {σ : Mem} {r : Mem} (h : m1_weigh F i2 c3 i4 σ = some r) : Fr (Wm1_weigh) σ r := by
  unfold m1_weigh at h
  exact Fr.trans (Fr.sI (Fr.sI (Fr.rf _ _) (by unfold Wm1_weigh; omega)) (by unfold Wm1_weigh; omega)) (f1_weigh_13 (F := F) F _ _ h)
def Wm3_copyFrom (c0 : Nat) (c : Nat) : Prop := (c0 + 0 ≤ c ∧ c ≤ c0 + 3)
set_option maxHeartbeats 1000000 in
theorem f3_copyFrom_10 {F : Nat} {c0 : Nat} {c1 : Nat} {r : Mem} : ∀ (n : Nat) (x2 : Int32) (σ : Mem), m3_copyFrom_10 F c0 c1 n x2 σ = some r → Fr (Wm3_copyFrom c0) σ r := by
  intro n
  induction n with
  | zero => intro x2 σ h; unfold m3_copyFrom_10 at h; cases h
  | succ n ih =>
    intro x2 σ h
    unfold m3_copyFrom_10 at h
    rcases g_if h with ⟨hq, h⟩ | ⟨hq, h⟩
    · have e := Option.some.inj h
      subst e
      exact (Fr.rf _ _)
    · have ⟨hg, h⟩ := g_gd h
      have hb := inB_lt hg
      have ⟨hg, h⟩ := g_gd h
      have hb := inB_lt hg
      have ⟨hg, h⟩ := g_gd h
      have hb := inB_lt hg
      have ⟨hg, h⟩ := g_gd h
      have hb := inB_lt hg
      have ⟨hg, h⟩ := g_gd h
      have hb := inB_lt hg
      have ⟨hg, h⟩ := g_gd h
      have hb := inB_lt hg
      exact Fr.trans (Fr.sI (Fr.sI (Fr.sI (Fr.rf _ _) (by unfold Wm3_copyFrom; omega)) (by unfold Wm3_copyFrom; omega)) (by unfold Wm3_copyFrom; omega)) (ih _ _ h)
set_option maxHeartbeats 1000000 in
theorem f3_copyFrom {F : Nat} {c0 : Nat} {c1 : Nat} {σ : Mem} {r : Mem} (h : m3_copyFrom F c0 c1 σ = some r) : Fr (Wm3_copyFrom c0) σ r := by
  unfold m3_copyFrom at h
  exact Fr.trans (Fr.sI (Fr.rf _ _) (by unfold Wm3_copyFrom; omega)) (f3_copyFrom_10 (F := F) F _ _ h)
def Wm3_add (c0 : Nat) (c : Nat) : Prop := (c0 + 0 ≤ c ∧ c ≤ c0 + 3)
set_option maxHeartbeats 1000000 in
theorem f3_add {F : Nat} {c0 : Nat} {i1 : Int32} {i2 : Int32} {i3 : Int32} {σ : Mem} {r : Mem} (h : m3_add F c0 i1 i2 i3 σ = some r) : Fr (Wm3_add c0) σ r := by
  unfold m3_add at h
  rcases g_if h with ⟨hq, h⟩ | ⟨hq, h⟩
  · have e := Option.some.inj h
    subst e
    exact (Fr.rf _ _)
  · have ⟨hg, h⟩ := g_gd h
    have hb := inB_lt hg
    have ⟨hg, h⟩ := g_gd h
    have hb := inB_lt hg
    have ⟨hg, h⟩ := g_gd h
    have hb := inB_lt hg
    have e := Option.some.inj h
    subst e
    exact (Fr.sI (Fr.sI (Fr.sI (Fr.sI (Fr.rf _ _) (by unfold Wm3_add; omega)) (by unfold Wm3_add; omega)) (by unfold Wm3_add; omega)) (by unfold Wm3_add; omega))
def Wm4_copyFrom (c0 : Nat) (c : Nat) : Prop := (c0 + 0 ≤ c ∧ c ≤ c0 + 8)
set_option maxHeartbeats 1000000 in
theorem f4_copyFrom_161 {F : Nat} {c0 : Nat} {c1 : Nat} {r : Mem} : ∀ (n : Nat) (x2 : Int32) (σ : Mem), m4_copyFrom_161 F c0 c1 n x2 σ = some r → Fr (Wm4_copyFrom c0) σ r := by
  intro n
  induction n with
  | zero => intro x2 σ h; unfold m4_copyFrom_161 at h; cases h
  | succ n ih =>
    intro x2 σ h
    unfold m4_copyFrom_161 at h
    rcases g_if h with ⟨hq, h⟩ | ⟨hq, h⟩
    · have e := Option.some.inj h
      subst e
      exact (Fr.rf _ _)
    · have ⟨hg, h⟩ := g_gd h
      have hb := inB_lt hg
      have ⟨hg, h⟩ := g_gd h
      have hb := inB_lt hg
      exact Fr.trans (Fr.sI (Fr.rf _ _) (by unfold Wm4_copyFrom; omega)) (ih _ _ h)
set_option maxHeartbeats 1000000 in
theorem f4_copyFrom_75 {F : Nat} {c0 : Nat} {c1 : Nat} {r : Mem} : ∀ (n : Nat) (x2 : Int32) (σ : Mem), m4_copyFrom_75 F c0 c1 n x2 σ = some r → Fr (Wm4_copyFrom c0) σ r := by
  intro n
  induction n with
  | zero => intro x2 σ h; unfold m4_copyFrom_75 at h; cases h
  | succ n ih =>
    intro x2 σ h
    unfold m4_copyFrom_75 at h
    rcases g_if h with ⟨hq, h⟩ | ⟨hq, h⟩
    · exact Fr.trans (Fr.rf _ _) (f4_copyFrom_161 (F := F) F _ _ h)
    · have ⟨hg, h⟩ := g_gd h
      have hb := inB_lt hg
      have ⟨hg, h⟩ := g_gd h
      have hb := inB_lt hg
      have ⟨hg, h⟩ := g_gd h
      have hb := inB_lt hg
      have ⟨hg, h⟩ := g_gd h
      have hb := inB_lt hg
      have ⟨hg, h⟩ := g_gd h
      have hb := inB_lt hg
      have ⟨hg, h⟩ := g_gd h
      have hb := inB_lt hg
      have ⟨hg, h⟩ := g_gd h
      have hb := inB_lt hg
      have ⟨hg, h⟩ := g_gd h
      have hb := inB_lt hg
      have ⟨hg, h⟩ := g_gd h
      have hb := inB_lt hg
      have ⟨hg, h⟩ := g_gd h
      have hb := inB_lt hg
      have ⟨hg, h⟩ := g_gd h
      have hb := inB_lt hg
      have ⟨hg, h⟩ := g_gd h
      have hb := inB_lt hg
      exact Fr.trans (Fr.sI (Fr.sI (Fr.sI (Fr.sI (Fr.sI (Fr.sI (Fr.rf _ _) (by unfold Wm4_copyFrom; omega)) (by unfold Wm4_copyFrom; omega)) (by unfold Wm4_copyFrom; omega)) (by unfold Wm4_copyFrom; omega)) (by unfold Wm4_copyFrom; omega)) (by unfold Wm4_copyFrom; omega)) (ih _ _ h)
set_option maxHeartbeats 1000000 in
theorem f4_copyFrom_50 {F : Nat} {c0 : Nat} {c1 : Nat} {r : Mem} : ∀ (n : Nat) (x2 : Int32) (σ : Mem), m4_copyFrom_50 F c0 c1 n x2 σ = some r → Fr (Wm4_copyFrom c0) σ r := by
  intro n
  induction n with
  | zero => intro x2 σ h; unfold m4_copyFrom_50 at h; cases h
  | succ n ih =>
    intro x2 σ h
    unfold m4_copyFrom_50 at h
    rcases g_if h with ⟨hq, h⟩ | ⟨hq, h⟩
    · exact Fr.trans (Fr.rf _ _) (f4_copyFrom_75 (F := F) F _ _ h)
    · have ⟨hg, h⟩ := g_gd h
      have hb := inB_lt hg
      have ⟨hg, h⟩ := g_gd h
      have hb := inB_lt hg
      exact Fr.trans (Fr.sI (Fr.rf _ _) (by unfold Wm4_copyFrom; omega)) (ih _ _ h)
set_option maxHeartbeats 1000000 in
theorem f4_copyFrom {F : Nat} {c0 : Nat} {c1 : Nat} {σ : Mem} {r : Mem} (h : m4_copyFrom F c0 c1 σ = some r) : Fr (Wm4_copyFrom c0) σ r := by
  unfold m4_copyFrom at h
  have ⟨hg, h⟩ := g_gd h
  exact Fr.trans (Fr.sI (Fr.sI (Fr.sI (Fr.sI (Fr.sI (Fr.sI (Fr.rf _ _) (by unfold Wm4_copyFrom; omega)) (by unfold Wm4_copyFrom; omega)) (by unfold Wm4_copyFrom; omega)) (by unfold Wm4_copyFrom; omega)) (by unfold Wm4_copyFrom; omega)) (by unfold Wm4_copyFrom; omega)) (f4_copyFrom_50 (F := F) F _ _ h)
def Wm8_rewind (c : Nat) : Prop := c = 1
set_option maxHeartbeats 1000000 in
theorem f8_rewind {F : Nat} {σ : Mem} {r : Mem} (h : m8_rewind F  σ = some r) : Fr (Wm8_rewind) σ r := by
  unfold m8_rewind at h
  have e := Option.some.inj h
  subst e
  exact (Fr.sI (Fr.sI (Fr.rf _ _) (by unfold Wm8_rewind; omega)) (by unfold Wm8_rewind; omega))
def Wm8_next (c : Nat) : Prop := c = 1
set_option maxHeartbeats 1000000 in
theorem f8_next_38 {F : Nat} {r : Int32 × Mem} : ∀ (σ : Mem), m8_next_38 F σ = some r → Fr (Wm8_next) σ r.2 := by
  intro σ h
  unfold m8_next_38 at h
  rcases g_if h with ⟨hq, h⟩ | ⟨hq, h⟩
  · have e := Option.some.inj h
    subst e
    exact (Fr.rf _ _)
  · have ⟨hg, h⟩ := g_gd h
    have hb := inB_lt hg
    have e := Option.some.inj h
    subst e
    exact (Fr.rf _ _)
set_option maxHeartbeats 1000000 in
theorem f8_next_0 {F : Nat} {r : Int32 × Mem} : ∀ (n : Nat) (σ : Mem), m8_next_0 F n σ = some r → Fr (Wm8_next) σ r.2 := by
  intro n
  induction n with
  | zero => intro σ h; unfold m8_next_0 at h; cases h
  | succ n ih =>
    intro σ h
    unfold m8_next_0 at h
    rcases g_if h with ⟨hq, h⟩ | ⟨hq, h⟩
    · exact Fr.trans (Fr.rf _ _) (f8_next_38 (F := F) _ h)
    · have ⟨hg, h⟩ := g_gd h
      have hb := inB_lt hg
      rcases g_if h with ⟨hq, h⟩ | ⟨hq, h⟩
      · exact Fr.trans (Fr.sI (Fr.rf _ _) (by unfold Wm8_next; omega)) (ih _ h)
      · exact Fr.trans (Fr.rf _ _) (f8_next_38 (F := F) _ h)
set_option maxHeartbeats 1000000 in
theorem f8_next {F : Nat} {σ : Mem} {r : Int32 × Mem} (h : m8_next F  σ = some r) : Fr (Wm8_next) σ r.2 := by
  unfold m8_next at h
  exact (f8_next_0 (F := F) F _ h)
def Wm8_fail (c : Nat) : Prop := c = 1
set_option maxHeartbeats 1000000 in
theorem f8_fail {F : Nat} {i1 : Int32} {i2 : Int32} {σ : Mem} {r : Mem} (h : m8_fail F i1 i2 σ = some r) : Fr (Wm8_fail) σ r := by
  unfold m8_fail at h
  rcases g_if h with ⟨hq, h⟩ | ⟨hq, h⟩
  · have e := Option.some.inj h
    subst e
    exact (Fr.sI (Fr.rf _ _) (by unfold Wm8_fail; omega))
  · have e := Option.some.inj h
    subst e
    exact (Fr.rf _ _)
def Wm8_passWord (c : Nat) : Prop := c = 1
set_option maxHeartbeats 1000000 in
theorem f8_passWord {F : Nat} {σ : Mem} {r : Mem} (h : m8_passWord F  σ = some r) : Fr (Wm8_passWord) σ r := by
  unfold m8_passWord at h
  have ⟨_, hc1, h⟩ := b_some h
  have e := Option.some.inj h
  subst e
  exact (Fr.sI (Fr.rf _ _) (by unfold Wm8_passWord; omega))
def Wm8_number (c : Nat) : Prop := c = 1
set_option maxHeartbeats 1000000 in
theorem f8_number_103 {F : Nat} {i1 : Int32} {i2 : Int32} {r : Int32 × Mem} : ∀ (x3 : Int32) (x4 : Int32) (σ : Mem), m8_number_103 F i1 i2 x3 x4 σ = some r → Fr (Wm8_number) σ r.2 := by
  intro x3 x4 σ h
  unfold m8_number_103 at h
  rcases g_if h with ⟨hq, h⟩ | ⟨hq, h⟩
  · have e := Option.some.inj h
    subst e
    exact (Fr.sI (Fr.rf _ _) (by unfold Wm8_number; omega))
  · have e := Option.some.inj h
    subst e
    exact (Fr.sI (Fr.rf _ _) (by unfold Wm8_number; omega))
set_option maxHeartbeats 1000000 in
theorem f8_number_94 {F : Nat} {i1 : Int32} {i2 : Int32} {r : Int32 × Mem} {k103 : Int32 → Int32 → Mem → Option (Int32 × Mem)} (hk103 : ∀ (x3 : Int32) (x4 : Int32) (σ : Mem), k103 x3 x4 σ = some r → Fr (Wm8_number) σ r.2) : ∀ (x3 : Int32) (x4 : Int32) (σ : Mem), m8_number_94 F i1 i2 k103 x3 x4 σ = some r → Fr (Wm8_number) σ r.2 := by
  intro x3 x4 σ h
  unfold m8_number_94 at h
  have ⟨_, hc1, h⟩ := b_some h
  have qhc1 := f8_fail hc1
  exact Fr.trans (Fr.trans (Fr.rf _ _) (Fr.mono qhc1 (fun c hw => by unfold Wm8_fail at hw; unfold Wm8_number; omega))) (hk103 _ _ _ h)
set_option maxHeartbeats 1000000 in
theorem f8_number_61 {F : Nat} {i1 : Int32} {i2 : Int32} {r : Int32 × Mem} : ∀ (x3 : Int32) (x4 : Int32) (σ : Mem), m8_number_61 F i1 i2 x3 x4 σ = some r → Fr (Wm8_number) σ r.2 := by
  intro x3 x4 σ h
  unfold m8_number_61 at h
  rcases g_if h with ⟨hq, h⟩ | ⟨hq, h⟩
  · have ⟨_, hc1, h⟩ := b_some h
    have qhc1 := f8_fail hc1
    exact Fr.trans (Fr.trans (Fr.rf _ _) (Fr.mono qhc1 (fun c hw => by unfold Wm8_fail at hw; unfold Wm8_number; omega))) (f8_number_103 (F := F) _ _ _ h)
  · rcases g_if h with ⟨hq, h⟩ | ⟨hq, h⟩
    · exact Fr.trans (Fr.rf _ _) (f8_number_94 (F := F) (fun _ _ _ h => (f8_number_103 (F := F) _ _ _ h)) _ _ _ h)
    · rcases g_if h with ⟨hq, h⟩ | ⟨hq, h⟩
      · exact Fr.trans (Fr.rf _ _) (f8_number_94 (F := F) (fun _ _ _ h => (f8_number_103 (F := F) _ _ _ h)) _ _ _ h)
      · rcases g_if h with ⟨hq, h⟩ | ⟨hq, h⟩
        · exact Fr.trans (Fr.rf _ _) (f8_number_103 (F := F) _ _ _ h)
        · exact Fr.trans (Fr.rf _ _) (f8_number_94 (F := F) (fun _ _ _ h => (f8_number_103 (F := F) _ _ _ h)) _ _ _ h)
set_option maxHeartbeats 1000000 in
theorem f8_number_20 {F : Nat} {i1 : Int32} {i2 : Int32} {r : Int32 × Mem} : ∀ (n : Nat) (x3 : Int32) (x4 : Int32) (x5 : Int32) (σ : Mem), m8_number_20 F i1 i2 n x3 x4 x5 σ = some r → Fr (Wm8_number) σ r.2 := by
  intro n
  induction n with
  | zero => intro x3 x4 x5 σ h; unfold m8_number_20 at h; cases h
  | succ n ih =>
    intro x3 x4 x5 σ h
    unfold m8_number_20 at h
    rcases g_if h with ⟨hq, h⟩ | ⟨hq, h⟩
    · exact Fr.trans (Fr.rf _ _) (f8_number_61 (F := F) _ _ _ h)
    · rcases g_if h with ⟨hq, h⟩ | ⟨hq, h⟩
      · exact Fr.trans (Fr.rf _ _) (f8_number_61 (F := F) _ _ _ h)
      · have ⟨hg, h⟩ := g_gd h
        have hb := inB_lt hg
        exact Fr.trans (Fr.rf _ _) (ih _ _ _ _ h)
set_option maxHeartbeats 1000000 in
theorem f8_number {F : Nat} {i1 : Int32} {i2 : Int32} {σ : Mem} {r : Int32 × Mem} (h : m8_number F i1 i2 σ = some r) : Fr (Wm8_number) σ r.2 := by
  unfold m8_number at h
  have ⟨_, hc1, h⟩ := b_some h
  have qhc1 := f8_next hc1
  have ⟨_, hc2, h⟩ := b_some h
  exact Fr.trans (Fr.trans (Fr.rf _ _) (Fr.mono qhc1 (fun c hw => by unfold Wm8_next at hw; unfold Wm8_number; omega))) (f8_number_20 (F := F) F _ _ _ _ h)
def Wm4_readJob (c0 : Nat) (c : Nat) : Prop := c = 1 ∨ c = c0 + 0 ∨ (c0 + 2 ≤ c ∧ c ≤ c0 + 7)
set_option maxHeartbeats 1000000 in
theorem f4_readJob_81 {F : Nat} {c0 : Nat} {r : Mem} : ∀ (s0 : Nat) (s1 : Int32) (s2 : Int32) (σ : Mem), c0 + 4 ≤ s0 ∧ s0 ≤ c0 + 4 → m4_readJob_81 F c0 s0 s1 s2 σ = some r → Fr (Wm4_readJob c0) σ r := by
  intro s0 s1 s2 σ hv0 h
  unfold m4_readJob_81 at h
  have ⟨hg, h⟩ := g_gd h
  have hb := inB_lt hg
  have ⟨_, hc1, h⟩ := b_some h
  have qhc1 := f8_number hc1
  have ⟨hg, h⟩ := g_gd h
  have hb := inB_lt hg
  have ⟨_, hc2, h⟩ := b_some h
  have qhc2 := f8_number hc2
  have ⟨hg, h⟩ := g_gd h
  have hb := inB_lt hg
  have ⟨_, hc3, h⟩ := b_some h
  have qhc3 := f8_number hc3
  have ⟨hg, h⟩ := g_gd h
  have hb := inB_lt hg
  have e := Option.some.inj h
  subst e
  exact (Fr.sI (Fr.sI (Fr.trans (Fr.sI (Fr.trans (Fr.sI (Fr.trans (Fr.sI (Fr.rf _ _) (by unfold Wm4_readJob; omega)) (Fr.mono qhc1 (fun c hw => by unfold Wm8_number at hw; unfold Wm4_readJob; omega))) (by unfold Wm4_readJob; omega)) (Fr.mono qhc2 (fun c hw => by unfold Wm8_number at hw; unfold Wm4_readJob; omega))) (by unfold Wm4_readJob; omega)) (Fr.mono qhc3 (fun c hw => by unfold Wm8_number at hw; unfold Wm4_readJob; omega))) (by unfold Wm4_readJob; omega)) (by unfold Wm4_readJob; omega))
set_option maxHeartbeats 1000000 in
theorem f4_readJob {F : Nat} {c0 : Nat} {σ : Mem} {r : Mem} (h : m4_readJob F c0 σ = some r) : Fr (Wm4_readJob c0) σ r := by
  unfold m4_readJob at h
  have ⟨_, hc1, h⟩ := b_some h
  have qhc1 := f8_number hc1
  have ⟨hg, h⟩ := g_gd h
  have hb := inB_lt hg
  have ⟨_, hc2, h⟩ := b_some h
  have qhc2 := f8_next hc2
  have ⟨_, hc3, h⟩ := b_some h
  rcases g_if h with ⟨hq, h⟩ | ⟨hq, h⟩
  · have ⟨_, hc4, h⟩ := b_some h
    have qhc4 := f8_fail hc4
    have e := Option.some.inj h
    subst e
    exact (Fr.trans (Fr.trans (Fr.sI (Fr.trans (Fr.rf _ _) (Fr.mono qhc1 (fun c hw => by unfold Wm8_number at hw; unfold Wm4_readJob; omega))) (by unfold Wm4_readJob; omega)) (Fr.mono qhc2 (fun c hw => by unfold Wm8_next at hw; unfold Wm4_readJob; omega))) (Fr.mono qhc4 (fun c hw => by unfold Wm8_fail at hw; unfold Wm4_readJob; omega)))
  · have ⟨_, hc4, h⟩ := b_some h
    have qhc4 := f8_passWord hc4
    have ⟨hg, h⟩ := g_gd h
    have hb := inB_lt hg
    rcases g_if h with ⟨hq, h⟩ | ⟨hq, h⟩
    · exact Fr.trans (Fr.sI (Fr.trans (Fr.trans (Fr.sI (Fr.trans (Fr.rf _ _) (Fr.mono qhc1 (fun c hw => by unfold Wm8_number at hw; unfold Wm4_readJob; omega))) (by unfold Wm4_readJob; omega)) (Fr.mono qhc2 (fun c hw => by unfold Wm8_next at hw; unfold Wm4_readJob; omega))) (Fr.mono qhc4 (fun c hw => by unfold Wm8_passWord at hw; unfold Wm4_readJob; omega))) (by unfold Wm4_readJob; omega)) (f4_readJob_81 (F := F) _ _ _ _ (by omega) h)
    · exact Fr.trans (Fr.sI (Fr.trans (Fr.trans (Fr.sI (Fr.trans (Fr.rf _ _) (Fr.mono qhc1 (fun c hw => by unfold Wm8_number at hw; unfold Wm4_readJob; omega))) (by unfold Wm4_readJob; omega)) (Fr.mono qhc2 (fun c hw => by unfold Wm8_next at hw; unfold Wm4_readJob; omega))) (Fr.mono qhc4 (fun c hw => by unfold Wm8_passWord at hw; unfold Wm4_readJob; omega))) (by unfold Wm4_readJob; omega)) (f4_readJob_81 (F := F) _ _ _ _ (by omega) h)
def Wm4_readClause (c0 : Nat) (c : Nat) : Prop := c = 1 ∨ (c0 + 0 ≤ c ∧ c ≤ c0 + 8)
set_option maxHeartbeats 1000000 in
theorem f4_readClause_90 {F : Nat} {c0 : Nat} {i2 : Int32} {r : Mem} {k93 : Mem → Option (Mem)} (hk93 : ∀ (σ : Mem), k93 σ = some r → Fr (Wm4_readClause c0) σ r) : ∀ (x3 : Int32) (s0 : Int32) (s1 : Int32) (σ : Mem), m4_readClause_90 F c0 i2 k93 x3 s0 s1 σ = some r → Fr (Wm4_readClause c0) σ r := by
  intro x3 s0 s1 σ h
  unfold m4_readClause_90 at h
  rcases g_if h with ⟨hq, h⟩ | ⟨hq, h⟩
  · have ⟨_, hc1, h⟩ := b_some h
    have qhc1 := f8_passWord hc1
    rcases g_if h with ⟨hq, h⟩ | ⟨hq, h⟩
    · have ⟨_, hc2, h⟩ := b_some h
      have qhc2 := f8_number hc2
      have ⟨_, hc3, h⟩ := b_some h
      have qhc3 := f8_number hc3
      have ⟨_, hc4, h⟩ := b_some h
      have qhc4 := f8_number hc4
      have e := Option.some.inj h
      subst e
      exact (Fr.sI (Fr.trans (Fr.sI (Fr.trans (Fr.sI (Fr.trans (Fr.trans (Fr.rf _ _) (Fr.mono qhc1 (fun c hw => by unfold Wm8_passWord at hw; unfold Wm4_readClause; omega))) (Fr.mono qhc2 (fun c hw => by unfold Wm8_number at hw; unfold Wm4_readClause; omega))) (by unfold Wm4_readClause; omega)) (Fr.mono qhc3 (fun c hw => by unfold Wm8_number at hw; unfold Wm4_readClause; omega))) (by unfold Wm4_readClause; omega)) (Fr.mono qhc4 (fun c hw => by unfold Wm8_number at hw; unfold Wm4_readClause; omega))) (by unfold Wm4_readClause; omega))
    · rcases g_if h with ⟨hq, h⟩ | ⟨hq, h⟩
      · have ⟨_, hc2, h⟩ := b_some h
        have qhc2 := f8_number hc2
        have ⟨hg, h⟩ := g_gd h
        have hb := inB_lt hg
        have e := Option.some.inj h
        subst e
        exact (Fr.sI (Fr.sI (Fr.trans (Fr.trans (Fr.rf _ _) (Fr.mono qhc1 (fun c hw => by unfold Wm8_passWord at hw; unfold Wm4_readClause; omega))) (Fr.mono qhc2 (fun c hw => by unfold Wm8_number at hw; unfold Wm4_readClause; omega))) (by unfold Wm4_readClause; omega)) (by unfold Wm4_readClause; omega))
      · rcases g_if h with ⟨hq, h⟩ | ⟨hq, h⟩
        · have ⟨_, hc2, h⟩ := b_some h
          have qhc2 := f4_readJob hc2
          have e := Option.some.inj h
          subst e
          exact (Fr.trans (Fr.trans (Fr.rf _ _) (Fr.mono qhc1 (fun c hw => by unfold Wm8_passWord at hw; unfold Wm4_readClause; omega))) (Fr.mono qhc2 (fun c hw => by unfold Wm4_readJob at hw; unfold Wm4_readClause; omega)))
        · have ⟨_, hc2, h⟩ := b_some h
          have qhc2 := f8_number hc2
          have ⟨_, hc3, h⟩ := b_some h
          have qhc3 := f8_number hc3
          have ⟨hg, h⟩ := g_gd h
          have hb := inB_lt hg
          have e := Option.some.inj h
          subst e
          exact (Fr.sI (Fr.trans (Fr.trans (Fr.trans (Fr.rf _ _) (Fr.mono qhc1 (fun c hw => by unfold Wm8_passWord at hw; unfold Wm4_readClause; omega))) (Fr.mono qhc2 (fun c hw => by unfold Wm8_number at hw; unfold Wm4_readClause; omega))) (Fr.mono qhc3 (fun c hw => by unfold Wm8_number at hw; unfold Wm4_readClause; omega))) (by unfold Wm4_readClause; omega))
  · exact Fr.trans (Fr.rf _ _) (hk93 _ h)
set_option maxHeartbeats 1000000 in
theorem f4_readClause_93 {F : Nat} {c0 : Nat} {i2 : Int32} {r : Mem} : ∀ (σ : Mem), m4_readClause_93 F c0 i2 σ = some r → Fr (Wm4_readClause c0) σ r := by
  intro σ h
  unfold m4_readClause_93 at h
  have ⟨_, hc1, h⟩ := b_some h
  have qhc1 := f8_fail hc1
  have e := Option.some.inj h
  subst e
  exact (Fr.trans (Fr.rf _ _) (Fr.mono qhc1 (fun c hw => by unfold Wm8_fail at hw; unfold Wm4_readClause; omega)))
set_option maxHeartbeats 1000000 in
theorem f4_readClause_81 {F : Nat} {c0 : Nat} {i2 : Int32} {r : Mem} {k93 : Mem → Option (Mem)} (hk93 : ∀ (σ : Mem), k93 σ = some r → Fr (Wm4_readClause c0) σ r) : ∀ (x3 : Int32) (s0 : Int32) (σ : Mem), m4_readClause_81 F c0 i2 k93 x3 s0 σ = some r → Fr (Wm4_readClause c0) σ r := by
  intro x3 s0 σ h
  unfold m4_readClause_81 at h
  rcases g_if h with ⟨hq, h⟩ | ⟨hq, h⟩
  · exact Fr.trans (Fr.rf _ _) (f4_readClause_90 (F := F) (fun _ h => (hk93 _ h)) _ _ _ _ h)
  · exact Fr.trans (Fr.rf _ _) (f4_readClause_90 (F := F) (fun _ h => (hk93 _ h)) _ _ _ _ h)
set_option maxHeartbeats 1000000 in
theorem f4_readClause_64 {F : Nat} {c0 : Nat} {i2 : Int32} {r : Mem} {k65 : Int32 → Int32 → Mem → Option (Mem)} (hk65 : ∀ (x3 : Int32) (s0 : Int32) (σ : Mem), k65 x3 s0 σ = some r → Fr (Wm4_readClause c0) σ r) : ∀ (x3 : Int32) (σ : Mem), m4_readClause_64 F c0 i2 k65 x3 σ = some r → Fr (Wm4_readClause c0) σ r := by
  intro x3 σ h
  unfold m4_readClause_64 at h
  exact Fr.trans (Fr.rf _ _) (hk65 _ _ _ h)
set_option maxHeartbeats 1000000 in
theorem f4_readClause_65 {F : Nat} {c0 : Nat} {i2 : Int32} {r : Mem} : ∀ (x3 : Int32) (s0 : Int32) (σ : Mem), m4_readClause_65 F c0 i2 x3 s0 σ = some r → Fr (Wm4_readClause c0) σ r := by
  intro x3 s0 σ h
  unfold m4_readClause_65 at h
  rcases g_if h with ⟨hq, h⟩ | ⟨hq, h⟩
  · rcases g_if h with ⟨hq, h⟩ | ⟨hq, h⟩
    · exact Fr.trans (Fr.rf _ _) (f4_readClause_81 (F := F) (fun _ h => (f4_readClause_93 (F := F) _ h)) _ _ _ h)
    · exact Fr.trans (Fr.rf _ _) (f4_readClause_81 (F := F) (fun _ h => (f4_readClause_93 (F := F) _ h)) _ _ _ h)
  · exact Fr.trans (Fr.rf _ _) (f4_readClause_93 (F := F) _ h)
set_option maxHeartbeats 1000000 in
theorem f4_readClause_60 {F : Nat} {c0 : Nat} {i2 : Int32} {r : Mem} {k65 : Int32 → Int32 → Mem → Option (Mem)} (hk65 : ∀ (x3 : Int32) (s0 : Int32) (σ : Mem), k65 x3 s0 σ = some r → Fr (Wm4_readClause c0) σ r) : ∀ (x3 : Int32) (σ : Mem), m4_readClause_60 F c0 i2 k65 x3 σ = some r → Fr (Wm4_readClause c0) σ r := by
  intro x3 σ h
  unfold m4_readClause_60 at h
  exact Fr.trans (Fr.rf _ _) (hk65 _ _ _ h)
set_option maxHeartbeats 1000000 in
theorem f4_readClause_46 {F : Nat} {c0 : Nat} {i2 : Int32} {r : Mem} {k60 : Int32 → Mem → Option (Mem)} (hk60 : ∀ (x3 : Int32) (σ : Mem), k60 x3 σ = some r → Fr (Wm4_readClause c0) σ r) {k65 : Int32 → Int32 → Mem → Option (Mem)} (hk65 : ∀ (x3 : Int32) (s0 : Int32) (σ : Mem), k65 x3 s0 σ = some r → Fr (Wm4_readClause c0) σ r) : ∀ (x3 : Int32) (σ : Mem), m4_readClause_46 F c0 i2 k60 k65 x3 σ = some r → Fr (Wm4_readClause c0) σ r := by
  intro x3 σ h
  unfold m4_readClause_46 at h
  rcases g_if h with ⟨hq, h⟩ | ⟨hq, h⟩
  · rcases g_if h with ⟨hq, h⟩ | ⟨hq, h⟩
    · exact Fr.trans (Fr.rf _ _) (f4_readClause_64 (F := F) (fun _ _ _ h => (hk65 _ _ _ h)) _ _ h)
    · exact Fr.trans (Fr.rf _ _) (hk60 _ _ h)
  · exact Fr.trans (Fr.rf _ _) (f4_readClause_64 (F := F) (fun _ _ _ h => (hk65 _ _ _ h)) _ _ h)
set_option maxHeartbeats 1000000 in
theorem f4_readClause {F : Nat} {c0 : Nat} {i2 : Int32} {σ : Mem} {r : Mem} (h : m4_readClause F c0 i2 σ = some r) : Fr (Wm4_readClause c0) σ r := by
  unfold m4_readClause at h
  have ⟨_, hc1, h⟩ := b_some h
  have qhc1 := f8_next hc1
  have ⟨_, hc2, h⟩ := b_some h
  rcases g_if h with ⟨hq, h⟩ | ⟨hq, h⟩
  · have ⟨_, hc3, h⟩ := b_some h
    have qhc3 := f8_fail hc3
    have e := Option.some.inj h
    subst e
    exact (Fr.trans (Fr.trans (Fr.rf _ _) (Fr.mono qhc1 (fun c hw => by unfold Wm8_next at hw; unfold Wm4_readClause; omega))) (Fr.mono qhc3 (fun c hw => by unfold Wm8_fail at hw; unfold Wm4_readClause; omega)))
  · rcases g_if h with ⟨hq, h⟩ | ⟨hq, h⟩
    · exact Fr.trans (Fr.trans (Fr.rf _ _) (Fr.mono qhc1 (fun c hw => by unfold Wm8_next at hw; unfold Wm4_readClause; omega))) (f4_readClause_60 (F := F) (fun _ _ _ h => (f4_readClause_65 (F := F) _ _ _ h)) _ _ h)
    · rcases g_if h with ⟨hq, h⟩ | ⟨hq, h⟩
      · rcases g_if h with ⟨hq, h⟩ | ⟨hq, h⟩
        · exact Fr.trans (Fr.trans (Fr.rf _ _) (Fr.mono qhc1 (fun c hw => by unfold Wm8_next at hw; unfold Wm4_readClause; omega))) (f4_readClause_60 (F := F) (fun _ _ _ h => (f4_readClause_65 (F := F) _ _ _ h)) _ _ h)
        · exact Fr.trans (Fr.trans (Fr.rf _ _) (Fr.mono qhc1 (fun c hw => by unfold Wm8_next at hw; unfold Wm4_readClause; omega))) (f4_readClause_46 (F := F) (fun _ _ h => (f4_readClause_60 (F := F) (fun _ _ _ h => (f4_readClause_65 (F := F) _ _ _ h)) _ _ h)) (fun _ _ _ h => (f4_readClause_65 (F := F) _ _ _ h)) _ _ h)
      · exact Fr.trans (Fr.trans (Fr.rf _ _) (Fr.mono qhc1 (fun c hw => by unfold Wm8_next at hw; unfold Wm4_readClause; omega))) (f4_readClause_46 (F := F) (fun _ _ h => (f4_readClause_60 (F := F) (fun _ _ _ h => (f4_readClause_65 (F := F) _ _ _ h)) _ _ h)) (fun _ _ _ h => (f4_readClause_65 (F := F) _ _ _ h)) _ _ h)
def Wm4_read (c0 : Nat) (c : Nat) : Prop := c = 1 ∨ (c0 + 0 ≤ c ∧ c ≤ c0 + 8)
set_option maxHeartbeats 1000000 in
theorem f4_read_94 {F : Nat} {c0 : Nat} {r : Int32 × Mem} {k41 : Int32 → Mem → Option (Int32 × Mem)} (hk41 : ∀ (x2 : Int32) (σ : Mem), k41 x2 σ = some r → Fr (Wm4_read c0) σ r.2) : ∀ (x2 : Int32) (σ : Mem), m4_read_94 F c0 k41 x2 σ = some r → Fr (Wm4_read c0) σ r.2 := by
  intro x2 σ h
  unfold m4_read_94 at h
  exact Fr.trans (Fr.sI (Fr.rf _ _) (by unfold Wm4_read; omega)) (hk41 _ _ h)
set_option maxHeartbeats 1000000 in
theorem f4_read_79 {F : Nat} {c0 : Nat} {r : Int32 × Mem} {k41 : Int32 → Mem → Option (Int32 × Mem)} (hk41 : ∀ (x2 : Int32) (σ : Mem), k41 x2 σ = some r → Fr (Wm4_read c0) σ r.2) : ∀ (x2 : Int32) (x3 : Int32) (σ : Mem), m4_read_79 F c0 k41 x2 x3 σ = some r → Fr (Wm4_read c0) σ r.2 := by
  intro x2 x3 σ h
  unfold m4_read_79 at h
  rcases g_if h with ⟨hq, h⟩ | ⟨hq, h⟩
  · exact Fr.trans (Fr.rf _ _) (f4_read_94 (F := F) (fun _ _ h => (hk41 _ _ h)) _ _ h)
  · have ⟨_, hc1, h⟩ := b_some h
    have qhc1 := f8_fail hc1
    exact Fr.trans (Fr.trans (Fr.rf _ _) (Fr.mono qhc1 (fun c hw => by unfold Wm8_fail at hw; unfold Wm4_read; omega))) (f4_read_94 (F := F) (fun _ _ h => (hk41 _ _ h)) _ _ h)
set_option maxHeartbeats 1000000 in
theorem f4_read_41 {F : Nat} {c0 : Nat} {r : Int32 × Mem} : ∀ (n : Nat) (x2 : Int32) (σ : Mem), m4_read_41 F c0 n x2 σ = some r → Fr (Wm4_read c0) σ r.2 := by
  intro n
  induction n with
  | zero => intro x2 σ h; unfold m4_read_41 at h; cases h
  | succ n ih =>
    intro x2 σ h
    unfold m4_read_41 at h
    rcases g_if h with ⟨hq, h⟩ | ⟨hq, h⟩
    · have e := Option.some.inj h
      subst e
      exact (Fr.rf _ _)
    · rcases g_if h with ⟨hq, h⟩ | ⟨hq, h⟩
      · have ⟨_, hc1, h⟩ := b_some h
        have qhc1 := f4_readClause hc1
        have ⟨_, hc2, h⟩ := b_some h
        have qhc2 := f8_next hc2
        rcases g_if h with ⟨hq, h⟩ | ⟨hq, h⟩
        · rcases g_if h with ⟨hq, h⟩ | ⟨hq, h⟩
          · have e := Option.some.inj h
            subst e
            exact (Fr.trans (Fr.trans (Fr.rf _ _) (Fr.mono qhc1 (fun c hw => by unfold Wm4_readClause at hw; unfold Wm4_read; omega))) (Fr.mono qhc2 (fun c hw => by unfold Wm8_next at hw; unfold Wm4_read; omega)))
          · exact Fr.trans (Fr.trans (Fr.trans (Fr.rf _ _) (Fr.mono qhc1 (fun c hw => by unfold Wm4_readClause at hw; unfold Wm4_read; omega))) (Fr.mono qhc2 (fun c hw => by unfold Wm8_next at hw; unfold Wm4_read; omega))) (f4_read_79 (F := F) (fun _ _ h => (ih _ _ h)) _ _ _ h)
        · exact Fr.trans (Fr.trans (Fr.trans (Fr.rf _ _) (Fr.mono qhc1 (fun c hw => by unfold Wm4_readClause at hw; unfold Wm4_read; omega))) (Fr.mono qhc2 (fun c hw => by unfold Wm8_next at hw; unfold Wm4_read; omega))) (f4_read_79 (F := F) (fun _ _ h => (ih _ _ h)) _ _ _ h)
      · have e := Option.some.inj h
        subst e
        exact (Fr.rf _ _)
set_option maxHeartbeats 1000000 in
theorem f4_read_17 {F : Nat} {c0 : Nat} {r : Int32 × Mem} : ∀ (n : Nat) (x2 : Int32) (σ : Mem), m4_read_17 F c0 n x2 σ = some r → Fr (Wm4_read c0) σ r.2 := by
  intro n
  induction n with
  | zero => intro x2 σ h; unfold m4_read_17 at h; cases h
  | succ n ih =>
    intro x2 σ h
    unfold m4_read_17 at h
    rcases g_if h with ⟨hq, h⟩ | ⟨hq, h⟩
    · have ⟨_, hc1, h⟩ := b_some h
      have qhc1 := f8_rewind hc1
      exact Fr.trans (Fr.trans (Fr.rf _ _) (Fr.mono qhc1 (fun c hw => by unfold Wm8_rewind at hw; unfold Wm4_read; omega))) (f4_read_41 (F := F) F _ _ h)
    · have ⟨hg, h⟩ := g_gd h
      have hb := inB_lt hg
      exact Fr.trans (Fr.sI (Fr.rf _ _) (by unfold Wm4_read; omega)) (ih _ _ h)
set_option maxHeartbeats 1000000 in
theorem f4_read {F : Nat} {c0 : Nat} {σ : Mem} {r : Int32 × Mem} (h : m4_read F c0 σ = some r) : Fr (Wm4_read c0) σ r.2 := by
  unfold m4_read at h
  exact Fr.trans (Fr.sI (Fr.sI (Fr.sI (Fr.rf _ _) (by unfold Wm4_read; omega)) (by unfold Wm4_read; omega)) (by unfold Wm4_read; omega)) (f4_read_17 (F := F) F _ _ h)
def Wm5_passStrike (c : Nat) : Prop := c = 1
set_option maxHeartbeats 1000000 in
theorem f5_passStrike_40 {F : Nat} {i1 : Int32} {r : Mem} : ∀ (σ : Mem), m5_passStrike_40 F i1 σ = some r → Fr (Wm5_passStrike) σ r := by
  intro σ h
  unfold m5_passStrike_40 at h
  have ⟨_, hc1, h⟩ := b_some h
  have qhc1 := f8_passWord hc1
  have e := Option.some.inj h
  subst e
  exact (Fr.trans (Fr.rf _ _) (Fr.mono qhc1 (fun c hw => by unfold Wm8_passWord at hw; unfold Wm5_passStrike; omega)))
set_option maxHeartbeats 1000000 in
theorem f5_passStrike {F : Nat} {i1 : Int32} {σ : Mem} {r : Mem} (h : m5_passStrike F i1 σ = some r) : Fr (Wm5_passStrike) σ r := by
  unfold m5_passStrike at h
  have ⟨_, hc1, h⟩ := b_some h
  have qhc1 := f8_next hc1
  have ⟨_, hc2, h⟩ := b_some h
  rcases g_if h with ⟨hq, h⟩ | ⟨hq, h⟩
  · have ⟨_, hc3, h⟩ := b_some h
    have qhc3 := f8_fail hc3
    exact Fr.trans (Fr.trans (Fr.trans (Fr.rf _ _) (Fr.mono qhc1 (fun c hw => by unfold Wm8_next at hw; unfold Wm5_passStrike; omega))) (Fr.mono qhc3 (fun c hw => by unfold Wm8_fail at hw; unfold Wm5_passStrike; omega))) (f5_passStrike_40 (F := F) _ h)
  · rcases g_if h with ⟨hq, h⟩ | ⟨hq, h⟩
    · exact Fr.trans (Fr.trans (Fr.rf _ _) (Fr.mono qhc1 (fun c hw => by unfold Wm8_next at hw; unfold Wm5_passStrike; omega))) (f5_passStrike_40 (F := F) _ h)
    · have ⟨_, hc3, h⟩ := b_some h
      have qhc3 := f8_fail hc3
      exact Fr.trans (Fr.trans (Fr.trans (Fr.rf _ _) (Fr.mono qhc1 (fun c hw => by unfold Wm8_next at hw; unfold Wm5_passStrike; omega))) (Fr.mono qhc3 (fun c hw => by unfold Wm8_fail at hw; unfold Wm5_passStrike; omega))) (f5_passStrike_40 (F := F) _ h)
def Wm5_put (c0 : Nat) (c : Nat) : Prop := (c0 + 0 ≤ c ∧ c ≤ c0 + 1)
set_option maxHeartbeats 1000000 in
theorem f5_put {F : Nat} {c0 : Nat} {i1 : Int32} {σ : Mem} {r : Mem} (h : m5_put F c0 i1 σ = some r) : Fr (Wm5_put c0) σ r := by
  unfold m5_put at h
  rcases g_if h with ⟨hq, h⟩ | ⟨hq, h⟩
  · have e := Option.some.inj h
    subst e
    exact (Fr.rf _ _)
  · have ⟨hg, h⟩ := g_gd h
    have hb := inB_lt hg
    have e := Option.some.inj h
    subst e
    exact (Fr.sI (Fr.sI (Fr.rf _ _) (by unfold Wm5_put; omega)) (by unfold Wm5_put; omega))
def Wm5_readValue (c0 : Nat) (c : Nat) : Prop := c = 1 ∨ (c0 + 0 ≤ c ∧ c ≤ c0 + 1)
set_option maxHeartbeats 1000000 in
theorem f5_readValue_79 {F : Nat} {c0 : Nat} {r : Mem} : ∀ (x4 : Int32) (σ : Mem), m5_readValue_79 F c0 x4 σ = some r → Fr (Wm5_readValue c0) σ r := by
  intro x4 σ h
  unfold m5_readValue_79 at h
  have ⟨_, hc1, h⟩ := b_some h
  have qhc1 := f5_put hc1
  have e := Option.some.inj h
  subst e
  exact (Fr.trans (Fr.sI (Fr.rf _ _) (by unfold Wm5_readValue; omega)) (Fr.mono qhc1 (fun c hw => by unfold Wm5_put at hw; unfold Wm5_readValue; omega)))
set_option maxHeartbeats 1000000 in
theorem f5_readValue_64 {F : Nat} {c0 : Nat} {r : Mem} : ∀ (x3 : Int32) (x4 : Int32) (σ : Mem), m5_readValue_64 F c0 x3 x4 σ = some r → Fr (Wm5_readValue c0) σ r := by
  intro x3 x4 σ h
  unfold m5_readValue_64 at h
  rcases g_if h with ⟨hq, h⟩ | ⟨hq, h⟩
  · exact Fr.trans (Fr.rf _ _) (f5_readValue_79 (F := F) _ _ h)
  · have ⟨_, hc1, h⟩ := b_some h
    have qhc1 := f8_fail hc1
    exact Fr.trans (Fr.trans (Fr.rf _ _) (Fr.mono qhc1 (fun c hw => by unfold Wm8_fail at hw; unfold Wm5_readValue; omega))) (f5_readValue_79 (F := F) _ _ h)
set_option maxHeartbeats 1000000 in
theorem f5_readValue_55 {F : Nat} {c0 : Nat} {r : Mem} {k64 : Int32 → Int32 → Mem → Option (Mem)} (hk64 : ∀ (x3 : Int32) (x4 : Int32) (σ : Mem), k64 x3 x4 σ = some r → Fr (Wm5_readValue c0) σ r) : ∀ (x3 : Int32) (σ : Mem), m5_readValue_55 F c0 k64 x3 σ = some r → Fr (Wm5_readValue c0) σ r := by
  intro x3 σ h
  unfold m5_readValue_55 at h
  have ⟨_, hc1, h⟩ := b_some h
  have qhc1 := f8_number hc1
  exact Fr.trans (Fr.trans (Fr.rf _ _) (Fr.mono qhc1 (fun c hw => by unfold Wm8_number at hw; unfold Wm5_readValue; omega))) (hk64 _ _ _ h)
set_option maxHeartbeats 1000000 in
theorem f5_readValue_42 {F : Nat} {c0 : Nat} {r : Mem} {k64 : Int32 → Int32 → Mem → Option (Mem)} (hk64 : ∀ (x3 : Int32) (x4 : Int32) (σ : Mem), k64 x3 x4 σ = some r → Fr (Wm5_readValue c0) σ r) : ∀ (x3 : Int32) (x5 : Int32) (σ : Mem), m5_readValue_42 F c0 k64 x3 x5 σ = some r → Fr (Wm5_readValue c0) σ r := by
  intro x3 x5 σ h
  unfold m5_readValue_42 at h
  have ⟨_, hc1, h⟩ := b_some h
  have qhc1 := f8_passWord hc1
  exact Fr.trans (Fr.trans (Fr.rf _ _) (Fr.mono qhc1 (fun c hw => by unfold Wm8_passWord at hw; unfold Wm5_readValue; omega))) (hk64 _ _ _ h)
set_option maxHeartbeats 1000000 in
theorem f5_readValue {F : Nat} {c0 : Nat} {σ : Mem} {r : Mem} (h : m5_readValue F c0 σ = some r) : Fr (Wm5_readValue c0) σ r := by
  unfold m5_readValue at h
  have ⟨_, hc1, h⟩ := b_some h
  have qhc1 := f8_next hc1
  rcases g_if h with ⟨hq, h⟩ | ⟨hq, h⟩
  · exact Fr.trans (Fr.trans (Fr.rf _ _) (Fr.mono qhc1 (fun c hw => by unfold Wm8_next at hw; unfold Wm5_readValue; omega))) (f5_readValue_55 (F := F) (fun _ _ _ h => (f5_readValue_64 (F := F) _ _ _ h)) _ _ h)
  · rcases g_if h with ⟨hq, h⟩ | ⟨hq, h⟩
    · exact Fr.trans (Fr.trans (Fr.rf _ _) (Fr.mono qhc1 (fun c hw => by unfold Wm8_next at hw; unfold Wm5_readValue; omega))) (f5_readValue_55 (F := F) (fun _ _ _ h => (f5_readValue_64 (F := F) _ _ _ h)) _ _ h)
    · have ⟨_, hc2, h⟩ := b_some h
      rcases g_if h with ⟨hq, h⟩ | ⟨hq, h⟩
      · have ⟨_, hc3, h⟩ := b_some h
        have qhc3 := f8_fail hc3
        exact Fr.trans (Fr.trans (Fr.trans (Fr.rf _ _) (Fr.mono qhc1 (fun c hw => by unfold Wm8_next at hw; unfold Wm5_readValue; omega))) (Fr.mono qhc3 (fun c hw => by unfold Wm8_fail at hw; unfold Wm5_readValue; omega))) (f5_readValue_42 (F := F) (fun _ _ _ h => (f5_readValue_64 (F := F) _ _ _ h)) _ _ _ h)
      · exact Fr.trans (Fr.trans (Fr.rf _ _) (Fr.mono qhc1 (fun c hw => by unfold Wm8_next at hw; unfold Wm5_readValue; omega))) (f5_readValue_42 (F := F) (fun _ _ _ h => (f5_readValue_64 (F := F) _ _ _ h)) _ _ _ h)
def Wm5_readSum (c0 : Nat) (c : Nat) : Prop := c = 1 ∨ (c0 + 0 ≤ c ∧ c ≤ c0 + 1)
set_option maxHeartbeats 1000000 in
theorem f5_readSum_85 {F : Nat} {c0 : Nat} {r : Mem} {k9 : Int32 → Int32 → Mem → Option (Mem)} (hk9 : ∀ (x2 : Int32) (x3 : Int32) (σ : Mem), k9 x2 x3 σ = some r → Fr (Wm5_readSum c0) σ r) : ∀ (x2 : Int32) (x3 : Int32) (x4 : Int32) (x5 : Int32) (σ : Mem), m5_readSum_85 F c0 k9 x2 x3 x4 x5 σ = some r → Fr (Wm5_readSum c0) σ r := by
  intro x2 x3 x4 x5 σ h
  unfold m5_readSum_85 at h
  have ⟨_, hc1, h⟩ := b_some h
  have qhc1 := f5_readValue hc1
  rcases g_if h with ⟨hq, h⟩ | ⟨hq, h⟩
  · have ⟨_, hc2, h⟩ := b_some h
    have qhc2 := f5_put hc2
    exact Fr.trans (Fr.trans (Fr.trans (Fr.rf _ _) (Fr.mono qhc1 (fun c hw => by unfold Wm5_readValue at hw; unfold Wm5_readSum; omega))) (Fr.mono qhc2 (fun c hw => by unfold Wm5_put at hw; unfold Wm5_readSum; omega))) (hk9 _ _ _ h)
  · exact Fr.trans (Fr.trans (Fr.rf _ _) (Fr.mono qhc1 (fun c hw => by unfold Wm5_readValue at hw; unfold Wm5_readSum; omega))) (hk9 _ _ _ h)
set_option maxHeartbeats 1000000 in
theorem f5_readSum_113 {F : Nat} {c0 : Nat} {r : Mem} : ∀ (x2 : Int32) (σ : Mem), m5_readSum_113 F c0 x2 σ = some r → Fr (Wm5_readSum c0) σ r := by
  intro x2 σ h
  unfold m5_readSum_113 at h
  rcases g_if h with ⟨hq, h⟩ | ⟨hq, h⟩
  · have e := Option.some.inj h
    subst e
    exact (Fr.rf _ _)
  · have ⟨_, hc1, h⟩ := b_some h
    have qhc1 := f5_put hc1
    have e := Option.some.inj h
    subst e
    exact (Fr.trans (Fr.rf _ _) (Fr.mono qhc1 (fun c hw => by unfold Wm5_put at hw; unfold Wm5_readSum; omega)))
set_option maxHeartbeats 1000000 in
theorem f5_readSum_69 {F : Nat} {c0 : Nat} {r : Mem} {k9 : Int32 → Int32 → Mem → Option (Mem)} (hk9 : ∀ (x2 : Int32) (x3 : Int32) (σ : Mem), k9 x2 x3 σ = some r → Fr (Wm5_readSum c0) σ r) : ∀ (x2 : Int32) (x3 : Int32) (x4 : Int32) (s0 : Int32) (σ : Mem), m5_readSum_69 F c0 k9 x2 x3 x4 s0 σ = some r → Fr (Wm5_readSum c0) σ r := by
  intro x2 x3 x4 s0 σ h
  unfold m5_readSum_69 at h
  rcases g_if h with ⟨hq, h⟩ | ⟨hq, h⟩
  · exact Fr.trans (Fr.rf _ _) (f5_readSum_85 (F := F) (fun _ _ _ h => (hk9 _ _ _ h)) _ _ _ _ _ h)
  · rcases g_if h with ⟨hq, h⟩ | ⟨hq, h⟩
    · exact Fr.trans (Fr.rf _ _) (f5_readSum_85 (F := F) (fun _ _ _ h => (hk9 _ _ _ h)) _ _ _ _ _ h)
    · have ⟨_, hc1, h⟩ := b_some h
      have qhc1 := f5_put hc1
      exact Fr.trans (Fr.trans (Fr.rf _ _) (Fr.mono qhc1 (fun c hw => by unfold Wm5_put at hw; unfold Wm5_readSum; omega))) (f5_readSum_85 (F := F) (fun _ _ _ h => (hk9 _ _ _ h)) _ _ _ _ _ h)
set_option maxHeartbeats 1000000 in
theorem f5_readSum_64 {F : Nat} {c0 : Nat} {r : Mem} {k69 : Int32 → Int32 → Int32 → Int32 → Mem → Option (Mem)} (hk69 : ∀ (x2 : Int32) (x3 : Int32) (x4 : Int32) (s0 : Int32) (σ : Mem), k69 x2 x3 x4 s0 σ = some r → Fr (Wm5_readSum c0) σ r) : ∀ (x2 : Int32) (x3 : Int32) (x4 : Int32) (σ : Mem), m5_readSum_64 F c0 k69 x2 x3 x4 σ = some r → Fr (Wm5_readSum c0) σ r := by
  intro x2 x3 x4 σ h
  unfold m5_readSum_64 at h
  exact Fr.trans (Fr.rf _ _) (hk69 _ _ _ _ _ h)
set_option maxHeartbeats 1000000 in
theorem f5_readSum_9 {F : Nat} {c0 : Nat} {r : Mem} : ∀ (n : Nat) (x2 : Int32) (x3 : Int32) (σ : Mem), m5_readSum_9 F c0 n x2 x3 σ = some r → Fr (Wm5_readSum c0) σ r := by
  intro n
  induction n with
  | zero => intro x2 x3 σ h; unfold m5_readSum_9 at h; cases h
  | succ n ih =>
    intro x2 x3 σ h
    unfold m5_readSum_9 at h
    rcases g_if h with ⟨hq, h⟩ | ⟨hq, h⟩
    · exact Fr.trans (Fr.rf _ _) (f5_readSum_113 (F := F) _ _ h)
    · rcases g_if h with ⟨hq, h⟩ | ⟨hq, h⟩
      · have ⟨_, hc1, h⟩ := b_some h
        have qhc1 := f8_next hc1
        have ⟨_, hc2, h⟩ := b_some h
        rcases g_if h with ⟨hq, h⟩ | ⟨hq, h⟩
        · exact Fr.trans (Fr.trans (Fr.rf _ _) (Fr.mono qhc1 (fun c hw => by unfold Wm8_next at hw; unfold Wm5_readSum; omega))) (f5_readSum_113 (F := F) _ _ h)
        · rcases g_if h with ⟨hq, h⟩ | ⟨hq, h⟩
          · exact Fr.trans (Fr.sI (Fr.trans (Fr.rf _ _) (Fr.mono qhc1 (fun c hw => by unfold Wm8_next at hw; unfold Wm5_readSum; omega))) (by unfold Wm5_readSum; omega)) (f5_readSum_64 (F := F) (fun _ _ _ _ _ h => (f5_readSum_69 (F := F) (fun _ _ _ h => (ih _ _ _ h)) _ _ _ _ _ h)) _ _ _ _ h)
          · rcases g_if h with ⟨hq, h⟩ | ⟨hq, h⟩
            · exact Fr.trans (Fr.sI (Fr.trans (Fr.rf _ _) (Fr.mono qhc1 (fun c hw => by unfold Wm8_next at hw; unfold Wm5_readSum; omega))) (by unfold Wm5_readSum; omega)) (f5_readSum_64 (F := F) (fun _ _ _ _ _ h => (f5_readSum_69 (F := F) (fun _ _ _ h => (ih _ _ _ h)) _ _ _ _ _ h)) _ _ _ _ h)
            · exact Fr.trans (Fr.sI (Fr.trans (Fr.rf _ _) (Fr.mono qhc1 (fun c hw => by unfold Wm8_next at hw; unfold Wm5_readSum; omega))) (by unfold Wm5_readSum; omega)) (f5_readSum_69 (F := F) (fun _ _ _ h => (ih _ _ _ h)) _ _ _ _ _ h)
      · exact Fr.trans (Fr.rf _ _) (f5_readSum_113 (F := F) _ _ h)
set_option maxHeartbeats 1000000 in
theorem f5_readSum {F : Nat} {c0 : Nat} {σ : Mem} {r : Mem} (h : m5_readSum F c0 σ = some r) : Fr (Wm5_readSum c0) σ r := by
  unfold m5_readSum at h
  have ⟨_, hc1, h⟩ := b_some h
  have qhc1 := f5_readValue hc1
  exact Fr.trans (Fr.trans (Fr.rf _ _) (Fr.mono qhc1 (fun c hw => by unfold Wm5_readValue at hw; unfold Wm5_readSum; omega))) (f5_readSum_9 (F := F) F _ _ _ h)
def Wm5_readSign (c0 : Nat) (c : Nat) : Prop := c = 1 ∨ c = c0 + 0
set_option maxHeartbeats 1000000 in
theorem f5_readSign_127 {F : Nat} {c0 : Nat} {r : Int32 × Mem} : ∀ (x2 : Int32) (x3 : Int32) (σ : Mem), m5_readSign_127 F c0 x2 x3 σ = some r → Fr (Wm5_readSign c0) σ r.2 := by
  intro x2 x3 σ h
  unfold m5_readSign_127 at h
  rcases g_if h with ⟨hq, h⟩ | ⟨hq, h⟩
  · rcases g_if h with ⟨hq, h⟩ | ⟨hq, h⟩
    · have e := Option.some.inj h
      subst e
      exact (Fr.rf _ _)
    · have e := Option.some.inj h
      subst e
      exact (Fr.rf _ _)
  · rcases g_if h with ⟨hq, h⟩ | ⟨hq, h⟩
    · have e := Option.some.inj h
      subst e
      exact (Fr.rf _ _)
    · have e := Option.some.inj h
      subst e
      exact (Fr.rf _ _)
set_option maxHeartbeats 1000000 in
theorem f5_readSign_112 {F : Nat} {c0 : Nat} {r : Int32 × Mem} : ∀ (x2 : Int32) (s0 : Int32) (σ : Mem), m5_readSign_112 F c0 x2 s0 σ = some r → Fr (Wm5_readSign c0) σ r.2 := by
  intro x2 s0 σ h
  unfold m5_readSign_112 at h
  rcases g_if h with ⟨hq, h⟩ | ⟨hq, h⟩
  · exact Fr.trans (Fr.rf _ _) (f5_readSign_127 (F := F) _ _ _ h)
  · exact Fr.trans (Fr.sI (Fr.rf _ _) (by unfold Wm5_readSign; omega)) (f5_readSign_127 (F := F) _ _ _ h)
set_option maxHeartbeats 1000000 in
theorem f5_readSign_111 {F : Nat} {c0 : Nat} {r : Int32 × Mem} {k112 : Int32 → Int32 → Mem → Option (Int32 × Mem)} (hk112 : ∀ (x2 : Int32) (s0 : Int32) (σ : Mem), k112 x2 s0 σ = some r → Fr (Wm5_readSign c0) σ r.2) : ∀ (x2 : Int32) (σ : Mem), m5_readSign_111 F c0 k112 x2 σ = some r → Fr (Wm5_readSign c0) σ r.2 := by
  intro x2 σ h
  unfold m5_readSign_111 at h
  exact Fr.trans (Fr.rf _ _) (hk112 _ _ _ h)
set_option maxHeartbeats 1000000 in
theorem f5_readSign_53 {F : Nat} {c0 : Nat} {r : Int32 × Mem} : ∀ (x2 : Int32) (σ : Mem), m5_readSign_53 F c0 x2 σ = some r → Fr (Wm5_readSign c0) σ r.2 := by
  intro x2 σ h
  unfold m5_readSign_53 at h
  rcases g_if h with ⟨hq, h⟩ | ⟨hq, h⟩
  · have e := Option.some.inj h
    subst e
    exact (Fr.sI (Fr.sI (Fr.rf _ _) (by unfold Wm5_readSign; omega)) (by unfold Wm5_readSign; omega))
  · rcases g_if h with ⟨hq, h⟩ | ⟨hq, h⟩
    · exact Fr.trans (Fr.sI (Fr.sI (Fr.rf _ _) (by unfold Wm5_readSign; omega)) (by unfold Wm5_readSign; omega)) (f5_readSign_111 (F := F) (fun _ _ _ h => (f5_readSign_112 (F := F) _ _ _ h)) _ _ h)
    · have ⟨hg, h⟩ := g_gd h
      have hb := inB_lt hg
      rcases g_if h with ⟨hq, h⟩ | ⟨hq, h⟩
      · exact Fr.trans (Fr.sI (Fr.sI (Fr.rf _ _) (by unfold Wm5_readSign; omega)) (by unfold Wm5_readSign; omega)) (f5_readSign_112 (F := F) _ _ _ h)
      · exact Fr.trans (Fr.sI (Fr.sI (Fr.rf _ _) (by unfold Wm5_readSign; omega)) (by unfold Wm5_readSign; omega)) (f5_readSign_111 (F := F) (fun _ _ _ h => (f5_readSign_112 (F := F) _ _ _ h)) _ _ h)
set_option maxHeartbeats 1000000 in
theorem f5_readSign_35 {F : Nat} {c0 : Nat} {r : Int32 × Mem} : ∀ (x2 : Int32) (σ : Mem), m5_readSign_35 F c0 x2 σ = some r → Fr (Wm5_readSign c0) σ r.2 := by
  intro x2 σ h
  unfold m5_readSign_35 at h
  rcases g_if h with ⟨hq, h⟩ | ⟨hq, h⟩
  · exact Fr.trans (Fr.rf _ _) (f5_readSign_53 (F := F) _ _ h)
  · have ⟨_, hc1, h⟩ := b_some h
    have qhc1 := f8_fail hc1
    exact Fr.trans (Fr.trans (Fr.rf _ _) (Fr.mono qhc1 (fun c hw => by unfold Wm8_fail at hw; unfold Wm5_readSign; omega))) (f5_readSign_53 (F := F) _ _ h)
set_option maxHeartbeats 1000000 in
theorem f5_readSign {F : Nat} {c0 : Nat} {σ : Mem} {r : Int32 × Mem} (h : m5_readSign F c0 σ = some r) : Fr (Wm5_readSign c0) σ r.2 := by
  unfold m5_readSign at h
  have ⟨_, hc1, h⟩ := b_some h
  have qhc1 := f8_next hc1
  rcases g_if h with ⟨hq, h⟩ | ⟨hq, h⟩
  · exact Fr.trans (Fr.trans (Fr.rf _ _) (Fr.mono qhc1 (fun c hw => by unfold Wm8_next at hw; unfold Wm5_readSign; omega))) (f5_readSign_35 (F := F) _ _ h)
  · rcases g_if h with ⟨hq, h⟩ | ⟨hq, h⟩
    · exact Fr.trans (Fr.trans (Fr.rf _ _) (Fr.mono qhc1 (fun c hw => by unfold Wm8_next at hw; unfold Wm5_readSign; omega))) (f5_readSign_35 (F := F) _ _ h)
    · rcases g_if h with ⟨hq, h⟩ | ⟨hq, h⟩
      · exact Fr.trans (Fr.trans (Fr.rf _ _) (Fr.mono qhc1 (fun c hw => by unfold Wm8_next at hw; unfold Wm5_readSign; omega))) (f5_readSign_35 (F := F) _ _ h)
      · have ⟨_, hc2, h⟩ := b_some h
        have qhc2 := f8_fail hc2
        have e := Option.some.inj h
        subst e
        exact (Fr.trans (Fr.trans (Fr.rf _ _) (Fr.mono qhc1 (fun c hw => by unfold Wm8_next at hw; unfold Wm5_readSign; omega))) (Fr.mono qhc2 (fun c hw => by unfold Wm8_fail at hw; unfold Wm5_readSign; omega)))
def Wm5_readTest (c0 : Nat) (c : Nat) : Prop := c = 1 ∨ (c0 + 0 ≤ c ∧ c ≤ c0 + 1)
def Wm5_readFact (c0 : Nat) (c : Nat) : Prop := c = 1 ∨ (c0 + 0 ≤ c ∧ c ≤ c0 + 1)
set_option maxHeartbeats 1000000 in
theorem f5_readTest_96 {F : Nat} {rec : Nat → Int32 → Mem → Option (Mem)} {c0 : Nat} {i2 : Int32} {r : Mem} (hrec : ∀ (c0 : Nat) (i2 : Int32) (σ : Mem) {r : Mem}, rec c0 i2 σ = some r → Fr (Wm5_readFact c0) σ r) : ∀ (x3 : Int32) (σ : Mem), m5_readTest_96 F rec c0 i2 x3 σ = some r → Fr (Wm5_readTest c0) σ r := by
  intro x3 σ h
  unfold m5_readTest_96 at h
  rcases g_if h with ⟨hq, h⟩ | ⟨hq, h⟩
  · have e := Option.some.inj h
    subst e
    exact (Fr.rf _ _)
  · have ⟨_, hc1, h⟩ := b_some h
    have qhc1 := f5_put hc1
    have e := Option.some.inj h
    subst e
    exact (Fr.trans (Fr.rf _ _) (Fr.mono qhc1 (fun c hw => by unfold Wm5_put at hw; unfold Wm5_readTest; omega)))
set_option maxHeartbeats 1000000 in
theorem f5_readTest_68 {F : Nat} {rec : Nat → Int32 → Mem → Option (Mem)} {c0 : Nat} {i2 : Int32} {r : Mem} (hrec : ∀ (c0 : Nat) (i2 : Int32) (σ : Mem) {r : Mem}, rec c0 i2 σ = some r → Fr (Wm5_readFact c0) σ r) {k11 : Int32 → Int32 → Mem → Option (Mem)} (hk11 : ∀ (x3 : Int32) (x4 : Int32) (σ : Mem), k11 x3 x4 σ = some r → Fr (Wm5_readTest c0) σ r) : ∀ (x3 : Int32) (x4 : Int32) (x5 : Int32) (σ : Mem), m5_readTest_68 F rec c0 i2 k11 x3 x4 x5 σ = some r → Fr (Wm5_readTest c0) σ r := by
  intro x3 x4 x5 σ h
  unfold m5_readTest_68 at h
  have ⟨_, hc1, h⟩ := b_some h
  have qhc1 := hrec _ _ _ hc1
  rcases g_if h with ⟨hq, h⟩ | ⟨hq, h⟩
  · have ⟨_, hc2, h⟩ := b_some h
    have qhc2 := f5_put hc2
    exact Fr.trans (Fr.trans (Fr.trans (Fr.rf _ _) qhc1) (Fr.mono qhc2 (fun c hw => by unfold Wm5_put at hw; unfold Wm5_readTest; omega))) (hk11 _ _ _ h)
  · exact Fr.trans (Fr.trans (Fr.rf _ _) qhc1) (hk11 _ _ _ h)
set_option maxHeartbeats 1000000 in
theorem f5_readTest_11 {F : Nat} {rec : Nat → Int32 → Mem → Option (Mem)} {c0 : Nat} {i2 : Int32} {r : Mem} (hrec : ∀ (c0 : Nat) (i2 : Int32) (σ : Mem) {r : Mem}, rec c0 i2 σ = some r → Fr (Wm5_readFact c0) σ r) : ∀ (n : Nat) (x3 : Int32) (x4 : Int32) (σ : Mem), m5_readTest_11 F rec c0 i2 n x3 x4 σ = some r → Fr (Wm5_readTest c0) σ r := by
  intro n
  induction n with
  | zero => intro x3 x4 σ h; unfold m5_readTest_11 at h; cases h
  | succ n ih =>
    intro x3 x4 σ h
    unfold m5_readTest_11 at h
    rcases g_if h with ⟨hq, h⟩ | ⟨hq, h⟩
    · exact Fr.trans (Fr.rf _ _) (f5_readTest_96 (F := F) hrec _ _ h)
    · rcases g_if h with ⟨hq, h⟩ | ⟨hq, h⟩
      · have ⟨_, hc1, h⟩ := b_some h
        have qhc1 := f8_next hc1
        have ⟨_, hc2, h⟩ := b_some h
        rcases g_if h with ⟨hq, h⟩ | ⟨hq, h⟩
        · exact Fr.trans (Fr.trans (Fr.rf _ _) (Fr.mono qhc1 (fun c hw => by unfold Wm8_next at hw; unfold Wm5_readTest; omega))) (f5_readTest_96 (F := F) hrec _ _ h)
        · have ⟨_, hc3, h⟩ := b_some h
          have qhc3 := f8_passWord hc3
          rcases g_if h with ⟨hq, h⟩ | ⟨hq, h⟩
          · rcases g_if h with ⟨hq, h⟩ | ⟨hq, h⟩
            · exact Fr.trans (Fr.trans (Fr.trans (Fr.rf _ _) (Fr.mono qhc1 (fun c hw => by unfold Wm8_next at hw; unfold Wm5_readTest; omega))) (Fr.mono qhc3 (fun c hw => by unfold Wm8_passWord at hw; unfold Wm5_readTest; omega))) (f5_readTest_68 (F := F) hrec (fun _ _ _ h => (ih _ _ _ h)) _ _ _ _ h)
            · have ⟨_, hc4, h⟩ := b_some h
              have qhc4 := f5_put hc4
              exact Fr.trans (Fr.trans (Fr.trans (Fr.trans (Fr.rf _ _) (Fr.mono qhc1 (fun c hw => by unfold Wm8_next at hw; unfold Wm5_readTest; omega))) (Fr.mono qhc3 (fun c hw => by unfold Wm8_passWord at hw; unfold Wm5_readTest; omega))) (Fr.mono qhc4 (fun c hw => by unfold Wm5_put at hw; unfold Wm5_readTest; omega))) (f5_readTest_68 (F := F) hrec (fun _ _ _ h => (ih _ _ _ h)) _ _ _ _ h)
          · exact Fr.trans (Fr.trans (Fr.trans (Fr.rf _ _) (Fr.mono qhc1 (fun c hw => by unfold Wm8_next at hw; unfold Wm5_readTest; omega))) (Fr.mono qhc3 (fun c hw => by unfold Wm8_passWord at hw; unfold Wm5_readTest; omega))) (f5_readTest_68 (F := F) hrec (fun _ _ _ h => (ih _ _ _ h)) _ _ _ _ h)
      · exact Fr.trans (Fr.rf _ _) (f5_readTest_96 (F := F) hrec _ _ h)
set_option maxHeartbeats 1000000 in
theorem f5_readTest {F : Nat} {rec : Nat → Int32 → Mem → Option (Mem)} (hrec : ∀ (c0 : Nat) (i2 : Int32) (σ : Mem) {r : Mem}, rec c0 i2 σ = some r → Fr (Wm5_readFact c0) σ r) : ∀ (c0 : Nat) (i2 : Int32) (σ : Mem) {r : Mem}, m5_readTest F rec c0 i2 σ = some r → Fr (Wm5_readTest c0) σ r := by
  intro c0 i2 σ r h
  unfold m5_readTest at h
  have ⟨_, hc1, h⟩ := b_some h
  have qhc1 := hrec _ _ _ hc1
  exact Fr.trans (Fr.trans (Fr.rf _ _) qhc1) (f5_readTest_11 (F := F) hrec F _ _ _ h)
set_option maxHeartbeats 1000000 in
theorem f5_readFact_67 {F : Nat} {rec : Nat → Int32 → Mem → Option (Mem)} {c0 : Nat} {i2 : Int32} {r : Mem} (hrec : ∀ (c0 : Nat) (i2 : Int32) (σ : Mem) {r : Mem}, rec c0 i2 σ = some r → Fr (Wm5_readFact c0) σ r) : ∀ (x4 : Int32) (σ : Mem), m5_readFact_67 F rec c0 i2 x4 σ = some r → Fr (Wm5_readFact c0) σ r := by
  intro x4 σ h
  unfold m5_readFact_67 at h
  rcases g_if h with ⟨hq, h⟩ | ⟨hq, h⟩
  · rcases g_if h with ⟨hq, h⟩ | ⟨hq, h⟩
    · have ⟨_, hc1, h⟩ := b_some h
      have qhc1 := f5_readTest (F := F) hrec _ _ _ hc1
      have ⟨_, hc2, h⟩ := b_some h
      have qhc2 := f8_next hc2
      rcases g_if h with ⟨hq, h⟩ | ⟨hq, h⟩
      · have e := Option.some.inj h
        subst e
        exact (Fr.sI (Fr.trans (Fr.trans (Fr.sI (Fr.rf _ _) (by unfold Wm5_readFact; omega)) qhc1) (Fr.mono qhc2 (fun c hw => by unfold Wm8_next at hw; unfold Wm5_readFact; omega))) (by unfold Wm5_readFact; omega))
      · have ⟨_, hc3, h⟩ := b_some h
        have qhc3 := f8_fail hc3
        have e := Option.some.inj h
        subst e
        exact (Fr.sI (Fr.trans (Fr.trans (Fr.trans (Fr.sI (Fr.rf _ _) (by unfold Wm5_readFact; omega)) qhc1) (Fr.mono qhc2 (fun c hw => by unfold Wm8_next at hw; unfold Wm5_readFact; omega))) (Fr.mono qhc3 (fun c hw => by unfold Wm8_fail at hw; unfold Wm5_readFact; omega))) (by unfold Wm5_readFact; omega))
    · have ⟨_, hc1, h⟩ := b_some h
      have qhc1 := f8_passWord hc1
      have ⟨_, hc2, h⟩ := b_some h
      have qhc2 := hrec _ _ _ hc2
      have ⟨_, hc3, h⟩ := b_some h
      have qhc3 := f5_put hc3
      have e := Option.some.inj h
      subst e
      exact (Fr.trans (Fr.trans (Fr.trans (Fr.rf _ _) (Fr.mono qhc1 (fun c hw => by unfold Wm8_passWord at hw; unfold Wm5_readFact; omega))) qhc2) (Fr.mono qhc3 (fun c hw => by unfold Wm5_put at hw; unfold Wm5_readFact; omega)))
  · have ⟨_, hc1, h⟩ := b_some h
    have qhc1 := f8_fail hc1
    have e := Option.some.inj h
    subst e
    exact (Fr.trans (Fr.rf _ _) (Fr.mono qhc1 (fun c hw => by unfold Wm8_fail at hw; unfold Wm5_readFact; omega)))
set_option maxHeartbeats 1000000 in
theorem f5_readFact_30 {F : Nat} {rec : Nat → Int32 → Mem → Option (Mem)} {c0 : Nat} {i2 : Int32} {r : Mem} (hrec : ∀ (c0 : Nat) (i2 : Int32) (σ : Mem) {r : Mem}, rec c0 i2 σ = some r → Fr (Wm5_readFact c0) σ r) : ∀ (x3 : Int32) (s0 : Int32) (σ : Mem), m5_readFact_30 F rec c0 i2 x3 s0 σ = some r → Fr (Wm5_readFact c0) σ r := by
  intro x3 s0 σ h
  unfold m5_readFact_30 at h
  rcases g_if h with ⟨hq, h⟩ | ⟨hq, h⟩
  · rcases g_if h with ⟨hq, h⟩ | ⟨hq, h⟩
    · have ⟨_, hc1, h⟩ := b_some h
      have qhc1 := f5_readSum hc1
      have ⟨_, hc2, h⟩ := b_some h
      have qhc2 := f5_readSign hc2
      have ⟨_, hc3, h⟩ := b_some h
      have qhc3 := f5_readSum hc3
      have ⟨_, hc4, h⟩ := b_some h
      have qhc4 := f5_put hc4
      have e := Option.some.inj h
      subst e
      exact (Fr.trans (Fr.trans (Fr.trans (Fr.trans (Fr.rf _ _) (Fr.mono qhc1 (fun c hw => by unfold Wm5_readSum at hw; unfold Wm5_readFact; omega))) (Fr.mono qhc2 (fun c hw => by unfold Wm5_readSign at hw; unfold Wm5_readFact; omega))) (Fr.mono qhc3 (fun c hw => by unfold Wm5_readSum at hw; unfold Wm5_readFact; omega))) (Fr.mono qhc4 (fun c hw => by unfold Wm5_put at hw; unfold Wm5_readFact; omega)))
    · exact Fr.trans (Fr.rf _ _) (f5_readFact_67 (F := F) hrec _ _ h)
  · exact Fr.trans (Fr.rf _ _) (f5_readFact_67 (F := F) hrec _ _ h)
set_option maxHeartbeats 1000000 in
theorem f5_readFact_14 {F : Nat} {rec : Nat → Int32 → Mem → Option (Mem)} {c0 : Nat} {i2 : Int32} {r : Mem} (hrec : ∀ (c0 : Nat) (i2 : Int32) (σ : Mem) {r : Mem}, rec c0 i2 σ = some r → Fr (Wm5_readFact c0) σ r) : ∀ (s0 : Int32) (σ : Mem), m5_readFact_14 F rec c0 i2 s0 σ = some r → Fr (Wm5_readFact c0) σ r := by
  intro s0 σ h
  unfold m5_readFact_14 at h
  have ⟨_, hc1, h⟩ := b_some h
  rcases g_if h with ⟨hq, h⟩ | ⟨hq, h⟩
  · exact Fr.trans (Fr.rf _ _) (f5_readFact_30 (F := F) hrec _ _ _ h)
  · exact Fr.trans (Fr.rf _ _) (f5_readFact_30 (F := F) hrec _ _ _ h)
set_option maxHeartbeats 1000000 in
theorem f5_readFact (F : Nat) : ∀ (D : Nat) (c0 : Nat) (i2 : Int32) (σ : Mem) {r : Mem}, m5_readFact F D c0 i2 σ = some r → Fr (Wm5_readFact c0) σ r := by
  intro D
  induction D with
  | zero => intro c0 i2 σ r h; cases h
  | succ D ih =>
    intro c0 i2 σ r h
    have hrec := @ih
    change m5_readFact_e F (m5_readFact F D) c0 i2 σ = some r at h
    unfold m5_readFact_e at h
    have ⟨_, hc1, h⟩ := b_some h
    have qhc1 := f8_next hc1
    rcases g_if h with ⟨hq, h⟩ | ⟨hq, h⟩
    · exact Fr.trans (Fr.trans (Fr.rf _ _) (Fr.mono qhc1 (fun c hw => by unfold Wm8_next at hw; unfold Wm5_readFact; omega))) (f5_readFact_14 (F := F) hrec _ _ h)
    · exact Fr.trans (Fr.trans (Fr.rf _ _) (Fr.mono qhc1 (fun c hw => by unfold Wm8_next at hw; unfold Wm5_readFact; omega))) (f5_readFact_14 (F := F) hrec _ _ h)
def Wm5_read (c0 : Nat) (c : Nat) : Prop := c = 1 ∨ (c0 + 0 ≤ c ∧ c ≤ c0 + 4)
set_option maxHeartbeats 1000000 in
theorem f5_read_136 {F : Nat} {c0 : Nat} {r : Int32 × Mem} {k21 : Int32 → Mem → Option (Int32 × Mem)} (hk21 : ∀ (x2 : Int32) (σ : Mem), k21 x2 σ = some r → Fr (Wm5_read c0) σ r.2) : ∀ (x2 : Int32) (σ : Mem), m5_read_136 F c0 k21 x2 σ = some r → Fr (Wm5_read c0) σ r.2 := by
  intro x2 σ h
  unfold m5_read_136 at h
  exact Fr.trans (Fr.sI (Fr.rf _ _) (by unfold Wm5_read; omega)) (hk21 _ _ h)
set_option maxHeartbeats 1000000 in
theorem f5_read_82 {F : Nat} {c0 : Nat} {r : Int32 × Mem} {k21 : Int32 → Mem → Option (Int32 × Mem)} (hk21 : ∀ (x2 : Int32) (σ : Mem), k21 x2 σ = some r → Fr (Wm5_read c0) σ r.2) : ∀ (x2 : Int32) (σ : Mem), m5_read_82 F c0 k21 x2 σ = some r → Fr (Wm5_read c0) σ r.2 := by
  intro x2 σ h
  unfold m5_read_82 at h
  have ⟨hg, h⟩ := g_gd h
  have hb := inB_lt hg
  have ⟨_, hc1, h⟩ := b_some h
  have qhc1 := f8_next hc1
  rcases g_if h with ⟨hq, h⟩ | ⟨hq, h⟩
  · rcases g_if h with ⟨hq, h⟩ | ⟨hq, h⟩
    · have e := Option.some.inj h
      subst e
      exact (Fr.trans (Fr.sI (Fr.sI (Fr.rf _ _) (by unfold Wm5_read; omega)) (by unfold Wm5_read; omega)) (Fr.mono qhc1 (fun c hw => by unfold Wm8_next at hw; unfold Wm5_read; omega)))
    · rcases g_if h with ⟨hq, h⟩ | ⟨hq, h⟩
      · exact Fr.trans (Fr.trans (Fr.sI (Fr.sI (Fr.rf _ _) (by unfold Wm5_read; omega)) (by unfold Wm5_read; omega)) (Fr.mono qhc1 (fun c hw => by unfold Wm8_next at hw; unfold Wm5_read; omega))) (f5_read_136 (F := F) (fun _ _ h => (hk21 _ _ h)) _ _ h)
      · have ⟨_, hc2, h⟩ := b_some h
        have qhc2 := f8_fail hc2
        exact Fr.trans (Fr.trans (Fr.trans (Fr.sI (Fr.sI (Fr.rf _ _) (by unfold Wm5_read; omega)) (by unfold Wm5_read; omega)) (Fr.mono qhc1 (fun c hw => by unfold Wm8_next at hw; unfold Wm5_read; omega))) (Fr.mono qhc2 (fun c hw => by unfold Wm8_fail at hw; unfold Wm5_read; omega))) (f5_read_136 (F := F) (fun _ _ h => (hk21 _ _ h)) _ _ h)
  · have e := Option.some.inj h
    subst e
    exact (Fr.trans (Fr.sI (Fr.sI (Fr.rf _ _) (by unfold Wm5_read; omega)) (by unfold Wm5_read; omega)) (Fr.mono qhc1 (fun c hw => by unfold Wm8_next at hw; unfold Wm5_read; omega)))
set_option maxHeartbeats 1000000 in
theorem f5_read_21 {F : Nat} {c0 : Nat} {r : Int32 × Mem} : ∀ (n : Nat) (x2 : Int32) (σ : Mem), m5_read_21 F c0 n x2 σ = some r → Fr (Wm5_read c0) σ r.2 := by
  intro n
  induction n with
  | zero => intro x2 σ h; unfold m5_read_21 at h; cases h
  | succ n ih =>
    intro x2 σ h
    unfold m5_read_21 at h
    rcases g_if h with ⟨hq, h⟩ | ⟨hq, h⟩
    · have ⟨_, hc1, h⟩ := b_some h
      have qhc1 := f5_passStrike hc1
      have e := Option.some.inj h
      subst e
      exact (Fr.trans (Fr.rf _ _) (Fr.mono qhc1 (fun c hw => by unfold Wm5_passStrike at hw; unfold Wm5_read; omega)))
    · have ⟨_, hc1, h⟩ := b_some h
      have qhc1 := f5_passStrike hc1
      have ⟨hg, h⟩ := g_gd h
      have hb := inB_lt hg
      have ⟨_, hc2, h⟩ := b_some h
      have qhc2 := f5_readSum hc2
      have ⟨hg, h⟩ := g_gd h
      have hb := inB_lt hg
      have ⟨_, hc3, h⟩ := b_some h
      have qhc3 := f8_next hc3
      have ⟨_, hc4, h⟩ := b_some h
      rcases g_if h with ⟨hq, h⟩ | ⟨hq, h⟩
      · exact Fr.trans (Fr.trans (Fr.sI (Fr.trans (Fr.sI (Fr.trans (Fr.rf _ _) (Fr.mono qhc1 (fun c hw => by unfold Wm5_passStrike at hw; unfold Wm5_read; omega))) (by unfold Wm5_read; omega)) (Fr.mono qhc2 (fun c hw => by unfold Wm5_readSum at hw; unfold Wm5_read; omega))) (by unfold Wm5_read; omega)) (Fr.mono qhc3 (fun c hw => by unfold Wm8_next at hw; unfold Wm5_read; omega))) (f5_read_82 (F := F) (fun _ _ h => (ih _ _ h)) _ _ h)
      · have ⟨_, hc5, h⟩ := b_some h
        have qhc5 := f8_passWord hc5
        have ⟨_, hc6, h⟩ := b_some h
        have qhc6 := f5_readTest (F := F) (f5_readFact F 13) _ _ _ hc6
        exact Fr.trans (Fr.trans (Fr.trans (Fr.trans (Fr.sI (Fr.trans (Fr.sI (Fr.trans (Fr.rf _ _) (Fr.mono qhc1 (fun c hw => by unfold Wm5_passStrike at hw; unfold Wm5_read; omega))) (by unfold Wm5_read; omega)) (Fr.mono qhc2 (fun c hw => by unfold Wm5_readSum at hw; unfold Wm5_read; omega))) (by unfold Wm5_read; omega)) (Fr.mono qhc3 (fun c hw => by unfold Wm8_next at hw; unfold Wm5_read; omega))) (Fr.mono qhc5 (fun c hw => by unfold Wm8_passWord at hw; unfold Wm5_read; omega))) (Fr.mono qhc6 (fun c hw => by unfold Wm5_readTest at hw; unfold Wm5_read; omega))) (f5_read_82 (F := F) (fun _ _ h => (ih _ _ h)) _ _ h)
set_option maxHeartbeats 1000000 in
theorem f5_read {F : Nat} {c0 : Nat} {σ : Mem} {r : Int32 × Mem} (h : m5_read F c0 σ = some r) : Fr (Wm5_read c0) σ r.2 := by
  unfold m5_read at h
  have ⟨_, hc1, h⟩ := b_some h
  have qhc1 := f8_rewind hc1
  exact Fr.trans (Fr.trans (Fr.sI (Fr.sI (Fr.sI (Fr.rf _ _) (by unfold Wm5_read; omega)) (by unfold Wm5_read; omega)) (by unfold Wm5_read; omega)) (Fr.mono qhc1 (fun c hw => by unfold Wm8_rewind at hw; unfold Wm5_read; omega))) (f5_read_21 (F := F) F _ _ h)
def Wm6_goOn (c : Nat) : Prop := (40 ≤ c ∧ c ≤ 44) ∨ (46 ≤ c ∧ c ≤ 55) ∨ (156 ≤ c ∧ c ≤ 186 ∧ c % 6 = 0)
set_option maxHeartbeats 1000000 in
theorem f6_goOn_10 {F : Nat} {c1 : Nat} {i2 : Int32} {r : Mem} : ∀ (n : Nat) (x3 : Int32) (σ : Mem), m6_goOn_10 F c1 i2 n x3 σ = some r → Fr (Wm6_goOn) σ r := by
  intro n
  induction n with
  | zero => intro x3 σ h; unfold m6_goOn_10 at h; cases h
  | succ n ih =>
    intro x3 σ h
    unfold m6_goOn_10 at h
    rcases g_if h with ⟨hq, h⟩ | ⟨hq, h⟩
    · have e := Option.some.inj h
      subst e
      exact (Fr.rf _ _)
    · have ⟨_, hc1, h⟩ := b_some h
      have qhc1 := f2_go hc1
      exact Fr.trans (Fr.trans (Fr.rf _ _) (Fr.mono qhc1 (fun c hw => by unfold Wm2_go at hw; unfold Wm6_goOn; omega))) (ih _ _ h)
set_option maxHeartbeats 1000000 in
theorem f6_goOn {F : Nat} {c1 : Nat} {i2 : Int32} {σ : Mem} {r : Mem} (h : m6_goOn F c1 i2 σ = some r) : Fr (Wm6_goOn) σ r := by
  unfold m6_goOn at h
  have ⟨_, hc1, h⟩ := b_some h
  have qhc1 := f7_copyFrom hc1
  exact Fr.trans (Fr.trans (Fr.rf _ _) (Fr.mono qhc1 (fun c hw => by unfold Wm7_copyFrom at hw; unfold Wm6_goOn; omega))) (f6_goOn_10 (F := F) F _ _ h)
def Wm6_readyAt (c : Nat) : Prop := (40 ≤ c ∧ c ≤ 44) ∨ (46 ≤ c ∧ c ≤ 55) ∨ (156 ≤ c ∧ c ≤ 186 ∧ c % 6 = 0)
set_option maxHeartbeats 1000000 in
theorem f6_readyAt_46 {F : Nat} {c1 : Nat} {i2 : Int32} {r : Int32 × Mem} : ∀ (σ : Mem), m6_readyAt_46 F c1 i2 σ = some r → Fr (Wm6_readyAt) σ r.2 := by
  intro σ h
  unfold m6_readyAt_46 at h
  have ⟨hg, h⟩ := g_gd h
  have hb := inB_lt hg
  rcases g_if h with ⟨hq, h⟩ | ⟨hq, h⟩
  · have ⟨hg, h⟩ := g_gd h
    have hb := inB_lt hg
    have e := Option.some.inj h
    subst e
    exact (Fr.rf _ _)
  · have e := Option.some.inj h
    subst e
    exact (Fr.rf _ _)
set_option maxHeartbeats 1000000 in
theorem f6_readyAt_10 {F : Nat} {c1 : Nat} {i2 : Int32} {r : Int32 × Mem} : ∀ (n : Nat) (x3 : Int32) (σ : Mem), m6_readyAt_10 F c1 i2 n x3 σ = some r → Fr (Wm6_readyAt) σ r.2 := by
  intro n
  induction n with
  | zero => intro x3 σ h; unfold m6_readyAt_10 at h; cases h
  | succ n ih =>
    intro x3 σ h
    unfold m6_readyAt_10 at h
    rcases g_if h with ⟨hq, h⟩ | ⟨hq, h⟩
    · exact Fr.trans (Fr.rf _ _) (f6_readyAt_46 (F := F) _ h)
    · have ⟨hg, h⟩ := g_gd h
      have hb := inB_lt hg
      rcases g_if h with ⟨hq, h⟩ | ⟨hq, h⟩
      · exact Fr.trans (Fr.rf _ _) (f6_readyAt_46 (F := F) _ h)
      · have ⟨_, hc1, h⟩ := b_some h
        have qhc1 := f2_go hc1
        exact Fr.trans (Fr.trans (Fr.rf _ _) (Fr.mono qhc1 (fun c hw => by unfold Wm2_go at hw; unfold Wm6_readyAt; omega))) (ih _ _ h)
set_option maxHeartbeats 1000000 in
theorem f6_readyAt {F : Nat} {c1 : Nat} {i2 : Int32} {σ : Mem} {r : Int32 × Mem} (h : m6_readyAt F c1 i2 σ = some r) : Fr (Wm6_readyAt) σ r.2 := by
  unfold m6_readyAt at h
  have ⟨_, hc1, h⟩ := b_some h
  have qhc1 := f7_copyFrom hc1
  exact Fr.trans (Fr.trans (Fr.rf _ _) (Fr.mono qhc1 (fun c hw => by unfold Wm7_copyFrom at hw; unfold Wm6_readyAt; omega))) (f6_readyAt_10 (F := F) F _ _ h)
def Wm6_untilAll (c : Nat) : Prop := (40 ≤ c ∧ c ≤ 44) ∨ (46 ≤ c ∧ c ≤ 55) ∨ (156 ≤ c ∧ c ≤ 186 ∧ c % 6 = 0)
set_option maxHeartbeats 1000000 in
theorem f6_untilAll_10 {F : Nat} {c1 : Nat} {r : Int32 × Mem} : ∀ (n : Nat) (x2 : Int32) (σ : Mem), m6_untilAll_10 F c1 n x2 σ = some r → Fr (Wm6_untilAll) σ r.2 := by
  intro n
  induction n with
  | zero => intro x2 σ h; unfold m6_untilAll_10 at h; cases h
  | succ n ih =>
    intro x2 σ h
    unfold m6_untilAll_10 at h
    rcases g_if h with ⟨hq, h⟩ | ⟨hq, h⟩
    · have e := Option.some.inj h
      subst e
      exact (Fr.rf _ _)
    · have ⟨_, hc1, h⟩ := b_some h
      rcases g_if h with ⟨hq, h⟩ | ⟨hq, h⟩
      · have ⟨_, hc2, h⟩ := b_some h
        have qhc2 := f2_go hc2
        exact Fr.trans (Fr.trans (Fr.rf _ _) (Fr.mono qhc2 (fun c hw => by unfold Wm2_go at hw; unfold Wm6_untilAll; omega))) (ih _ _ h)
      · have e := Option.some.inj h
        subst e
        exact (Fr.rf _ _)
set_option maxHeartbeats 1000000 in
theorem f6_untilAll {F : Nat} {c1 : Nat} {σ : Mem} {r : Int32 × Mem} (h : m6_untilAll F c1 σ = some r) : Fr (Wm6_untilAll) σ r.2 := by
  unfold m6_untilAll at h
  have ⟨_, hc1, h⟩ := b_some h
  have qhc1 := f7_copyFrom hc1
  exact Fr.trans (Fr.trans (Fr.rf _ _) (Fr.mono qhc1 (fun c hw => by unfold Wm7_copyFrom at hw; unfold Wm6_untilAll; omega))) (f6_untilAll_10 (F := F) F _ _ h)
def Wm6_blowsOfOthers (c : Nat) : Prop := (40 ≤ c ∧ c ≤ 44) ∨ (46 ≤ c ∧ c ≤ 55) ∨ (156 ≤ c ∧ c ≤ 186 ∧ c % 6 = 0)
set_option maxHeartbeats 1000000 in
theorem f6_blowsOfOthers_14 {F : Nat} {c1 : Nat} {i2 : Int32} {i3 : Int32} {r : Int32 × Mem} : ∀ (n : Nat) (x4 : Int32) (x5 : Int32) (σ : Mem), m6_blowsOfOthers_14 F c1 i2 i3 n x4 x5 σ = some r → Fr (Wm6_blowsOfOthers) σ r.2 := by
  intro n
  induction n with
  | zero => intro x4 x5 σ h; unfold m6_blowsOfOthers_14 at h; cases h
  | succ n ih =>
    intro x4 x5 σ h
    unfold m6_blowsOfOthers_14 at h
    rcases g_if h with ⟨hq, h⟩ | ⟨hq, h⟩
    · have e := Option.some.inj h
      subst e
      exact (Fr.rf _ _)
    · have ⟨_, hc1, h⟩ := b_some h
      have qhc1 := f2_go hc1
      have ⟨_, hc2, h⟩ := b_some h
      exact Fr.trans (Fr.trans (Fr.rf _ _) (Fr.mono qhc1 (fun c hw => by unfold Wm2_go at hw; unfold Wm6_blowsOfOthers; omega))) (ih _ _ _ h)
set_option maxHeartbeats 1000000 in
theorem f6_blowsOfOthers {F : Nat} {c1 : Nat} {i2 : Int32} {i3 : Int32} {σ : Mem} {r : Int32 × Mem} (h : m6_blowsOfOthers F c1 i2 i3 σ = some r) : Fr (Wm6_blowsOfOthers) σ r.2 := by
  unfold m6_blowsOfOthers at h
  have ⟨_, hc1, h⟩ := b_some h
  have qhc1 := f7_copyFrom hc1
  exact Fr.trans (Fr.trans (Fr.rf _ _) (Fr.mono qhc1 (fun c hw => by unfold Wm7_copyFrom at hw; unfold Wm6_blowsOfOthers; omega))) (f6_blowsOfOthers_14 (F := F) F _ _ _ h)
def Wm6_splitting (c : Nat) : Prop := (40 ≤ c ∧ c ≤ 44) ∨ (46 ≤ c ∧ c ≤ 55) ∨ (156 ≤ c ∧ c ≤ 186 ∧ c % 6 = 0)
set_option maxHeartbeats 1000000 in
theorem f6_splitting_11 {F : Nat} {c1 : Nat} {i2 : Int32} {i3 : Int32} {r : Int32 × Mem} : ∀ (n : Nat) (x4 : Int32) (σ : Mem), m6_splitting_11 F c1 i2 i3 n x4 σ = some r → Fr (Wm6_splitting) σ r.2 := by
  intro n
  induction n with
  | zero => intro x4 σ h; unfold m6_splitting_11 at h; cases h
  | succ n ih =>
    intro x4 σ h
    unfold m6_splitting_11 at h
    rcases g_if h with ⟨hq, h⟩ | ⟨hq, h⟩
    · have e := Option.some.inj h
      subst e
      exact (Fr.rf _ _)
    · have ⟨_, hc1, h⟩ := b_some h
      have qhc1 := f2_go hc1
      have ⟨hg, h⟩ := g_gd h
      have hb := inB_lt hg
      rcases g_if h with ⟨hq, h⟩ | ⟨hq, h⟩
      · exact Fr.trans (Fr.trans (Fr.rf _ _) (Fr.mono qhc1 (fun c hw => by unfold Wm2_go at hw; unfold Wm6_splitting; omega))) (ih _ _ h)
      · rcases g_if h with ⟨hq, h⟩ | ⟨hq, h⟩
        · have e := Option.some.inj h
          subst e
          exact (Fr.trans (Fr.rf _ _) (Fr.mono qhc1 (fun c hw => by unfold Wm2_go at hw; unfold Wm6_splitting; omega)))
        · have ⟨hg, h⟩ := g_gd h
          have hb := inB_lt hg
          have e := Option.some.inj h
          subst e
          exact (Fr.trans (Fr.rf _ _) (Fr.mono qhc1 (fun c hw => by unfold Wm2_go at hw; unfold Wm6_splitting; omega)))
set_option maxHeartbeats 1000000 in
theorem f6_splitting {F : Nat} {c1 : Nat} {i2 : Int32} {i3 : Int32} {σ : Mem} {r : Int32 × Mem} (h : m6_splitting F c1 i2 i3 σ = some r) : Fr (Wm6_splitting) σ r.2 := by
  unfold m6_splitting at h
  have ⟨_, hc1, h⟩ := b_some h
  have qhc1 := f7_copyFrom hc1
  exact Fr.trans (Fr.trans (Fr.rf _ _) (Fr.mono qhc1 (fun c hw => by unfold Wm7_copyFrom at hw; unfold Wm6_splitting; omega))) (f6_splitting_11 (F := F) F _ _ h)
def Wm6_live (c : Nat) : Prop := (40 ≤ c ∧ c ≤ 55) ∨ (156 ≤ c ∧ c ≤ 186 ∧ c % 6 = 0)
set_option maxHeartbeats 1000000 in
theorem f6_live_88 {F : Nat} {c1 : Nat} {i2 : Int32} {i3 : Int32} {i4 : Int32} {r : Mem} {k40 : Int64 → Int32 → Int32 → Mem → Option (Mem)} (hk40 : ∀ (x5 : Int64) (x7 : Int32) (x8 : Int32) (σ : Mem), k40 x5 x7 x8 σ = some r → Fr (Wm6_live) σ r) : ∀ (x5 : Int64) (x7 : Int32) (x8 : Int32) (s1 : Int32) (σ : Mem), m6_live_88 F c1 i2 i3 i4 k40 x5 x7 x8 s1 σ = some r → Fr (Wm6_live) σ r := by
  intro x5 x7 x8 s1 σ h
  unfold m6_live_88 at h
  have ⟨hg, h⟩ := g_gd h
  have ⟨_, hc1, h⟩ := b_some h
  have qhc1 := f2_go hc1
  exact Fr.trans (Fr.sI (Fr.sI (Fr.trans (Fr.sI (Fr.rf _ _) (by unfold Wm6_live; omega)) (Fr.mono qhc1 (fun c hw => by unfold Wm2_go at hw; unfold Wm6_live; omega))) (by unfold Wm6_live; omega)) (by unfold Wm6_live; omega)) (hk40 _ _ _ _ h)
set_option maxHeartbeats 1000000 in
theorem f6_live_40 {F : Nat} {c1 : Nat} {i2 : Int32} {i3 : Int32} {i4 : Int32} {r : Mem} {k20 : Int64 → Int32 → Mem → Option (Mem)} (hk20 : ∀ (x5 : Int64) (x7 : Int32) (σ : Mem), k20 x5 x7 σ = some r → Fr (Wm6_live) σ r) : ∀ (n : Nat) (x5 : Int64) (x7 : Int32) (x8 : Int32) (σ : Mem), m6_live_40 F c1 i2 i3 i4 k20 n x5 x7 x8 σ = some r → Fr (Wm6_live) σ r := by
  intro n
  induction n with
  | zero => intro x5 x7 x8 σ h; unfold m6_live_40 at h; cases h
  | succ n ih =>
    intro x5 x7 x8 σ h
    unfold m6_live_40 at h
    rcases g_if h with ⟨hq, h⟩ | ⟨hq, h⟩
    · exact Fr.trans (Fr.rf _ _) (hk20 _ _ _ h)
    · rcases g_if h with ⟨hq, h⟩ | ⟨hq, h⟩
      · exact Fr.trans (Fr.rf _ _) (f6_live_88 (F := F) (fun _ _ _ _ h => (ih _ _ _ _ h)) _ _ _ _ _ h)
      · exact Fr.trans (Fr.rf _ _) (f6_live_88 (F := F) (fun _ _ _ _ h => (ih _ _ _ _ h)) _ _ _ _ _ h)
set_option maxHeartbeats 1000000 in
theorem f6_live_20 {F : Nat} {c1 : Nat} {i2 : Int32} {i3 : Int32} {i4 : Int32} {r : Mem} : ∀ (n : Nat) (x5 : Int64) (x7 : Int32) (σ : Mem), m6_live_20 F c1 i2 i3 i4 n x5 x7 σ = some r → Fr (Wm6_live) σ r := by
  intro n
  induction n with
  | zero => intro x5 x7 σ h; unfold m6_live_20 at h; cases h
  | succ n ih =>
    intro x5 x7 σ h
    unfold m6_live_20 at h
    rcases g_if h with ⟨hq, h⟩ | ⟨hq, h⟩
    · have e := Option.some.inj h
      subst e
      exact (Fr.rf _ _)
    · have ⟨_, hc1, h⟩ := b_some h
      have qhc1 := f7_copyFrom hc1
      exact Fr.trans (Fr.trans (Fr.rf _ _) (Fr.mono qhc1 (fun c hw => by unfold Wm7_copyFrom at hw; unfold Wm6_live; omega))) (f6_live_40 (F := F) (fun _ _ _ h => (ih _ _ _ h)) F _ _ _ _ h)
set_option maxHeartbeats 1000000 in
theorem f6_live {F : Nat} {c1 : Nat} {i2 : Int32} {i3 : Int32} {i4 : Int32} {σ : Mem} {r : Mem} (h : m6_live F c1 i2 i3 i4 σ = some r) : Fr (Wm6_live) σ r := by
  unfold m6_live at h
  exact Fr.trans (Fr.sI (Fr.sI (Fr.rf _ _) (by unfold Wm6_live; omega)) (by unfold Wm6_live; omega)) (f6_live_20 (F := F) F _ _ _ h)
def Wm7_putLast (c0 : Nat) (c : Nat) : Prop := c = c0 + 8
set_option maxHeartbeats 1000000 in
theorem f7_putLast_13 {F : Nat} {c0 : Nat} {c1 : Nat} {i2 : Int32} {r : Mem} : ∀ (n : Nat) (x3 : Int32) (x4 : Int32) (x5 : Int32) (σ : Mem), m7_putLast_13 F c0 c1 i2 n x3 x4 x5 σ = some r → Fr (Wm7_putLast c0) σ r := by
  intro n
  induction n with
  | zero => intro x3 x4 x5 σ h; unfold m7_putLast_13 at h; cases h
  | succ n ih =>
    intro x3 x4 x5 σ h
    unfold m7_putLast_13 at h
    rcases g_if h with ⟨hq, h⟩ | ⟨hq, h⟩
    · rcases g_if h with ⟨hq, h⟩ | ⟨hq, h⟩
      · have e := Option.some.inj h
        subst e
        exact (Fr.rf _ _)
      · have ⟨hg, h⟩ := g_gd h
        have hb := inB_lt hg
        have e := Option.some.inj h
        subst e
        exact (Fr.sI (Fr.rf _ _) (by unfold Wm7_putLast; omega))
    · have ⟨hg, h⟩ := g_gd h
      have hb := inB_lt hg
      exact Fr.trans (Fr.rf _ _) (ih _ _ _ _ h)
set_option maxHeartbeats 1000000 in
theorem f7_putLast {F : Nat} {c0 : Nat} {c1 : Nat} {i2 : Int32} {σ : Mem} {r : Mem} (h : m7_putLast F c0 c1 i2 σ = some r) : Fr (Wm7_putLast c0) σ r := by
  unfold m7_putLast at h
  have ⟨_, hc1, h⟩ := b_some h
  exact Fr.trans (Fr.rf _ _) (f7_putLast_13 (F := F) F _ _ _ _ h)
def Wm8_add (c : Nat) : Prop := (1 ≤ c ∧ c ≤ 2)
set_option maxHeartbeats 1000000 in
theorem f8_add_3 {F : Nat} {i1 : Int32} {r : Mem} : ∀ (n : Nat) (x2 : Int32) (σ : Mem), m8_add_3 F i1 n x2 σ = some r → Fr (Wm8_add) σ r := by
  intro n
  induction n with
  | zero => intro x2 σ h; unfold m8_add_3 at h; cases h
  | succ n ih =>
    intro x2 σ h
    unfold m8_add_3 at h
    rcases g_if h with ⟨hq, h⟩ | ⟨hq, h⟩
    · have e := Option.some.inj h
      subst e
      exact (Fr.rf _ _)
    · rcases g_if h with ⟨hq, h⟩ | ⟨hq, h⟩
      · exact Fr.trans (Fr.rf _ _) (ih _ _ h)
      · have ⟨hg, h⟩ := g_gd h
        have hb := inB_lt hg
        exact Fr.trans (Fr.sI (Fr.sI (Fr.rf _ _) (by unfold Wm8_add; omega)) (by unfold Wm8_add; omega)) (ih _ _ h)
set_option maxHeartbeats 1000000 in
theorem f8_add {F : Nat} {i1 : Int32} {σ : Mem} {r : Mem} (h : m8_add F i1 σ = some r) : Fr (Wm8_add) σ r := by
  unfold m8_add at h
  exact Fr.trans (Fr.rf _ _) (f8_add_3 (F := F) F _ _ h)
def Wm9_fillStrikes (c : Nat) : Prop := c = 44 ∨ c = 123 ∨ c = 132 ∨ (156 ≤ c ∧ c ≤ 186 ∧ c % 6 = 0)
set_option maxHeartbeats 1000000 in
theorem f9_fillStrikes_9 {F : Nat} {c1 : Nat} {r : Mem} {k2 : Int32 → Mem → Option (Mem)} (hk2 : ∀ (x2 : Int32) (σ : Mem), k2 x2 σ = some r → Fr (Wm9_fillStrikes) σ r) : ∀ (n : Nat) (x2 : Int32) (x3 : Int32) (σ : Mem), m9_fillStrikes_9 F c1 k2 n x2 x3 σ = some r → Fr (Wm9_fillStrikes) σ r := by
  intro n
  induction n with
  | zero => intro x2 x3 σ h; unfold m9_fillStrikes_9 at h; cases h
  | succ n ih =>
    intro x2 x3 σ h
    unfold m9_fillStrikes_9 at h
    rcases g_if h with ⟨hq, h⟩ | ⟨hq, h⟩
    · have ⟨hg, h⟩ := g_gd h
      have hb := inB_lt hg
      have ⟨hg, h⟩ := g_gd h
      have hb := inB_lt hg
      exact Fr.trans (Fr.sI (Fr.rf _ _) (by unfold Wm9_fillStrikes; omega)) (hk2 _ _ h)
    · have ⟨hg, h⟩ := g_gd h
      have hb := inB_lt hg
      have ⟨hg, h⟩ := g_gd h
      have hb := inB_lt hg
      rcases g_if h with ⟨hq, h⟩ | ⟨hq, h⟩
      · have ⟨hg, h⟩ := g_gd h
        have hb := inB_lt hg
        exact Fr.trans (Fr.sI (Fr.sI (Fr.rf _ _) (by unfold Wm9_fillStrikes; omega)) (by unfold Wm9_fillStrikes; omega)) (ih _ _ _ h)
      · have ⟨_, hc1, h⟩ := b_some h
        have qhc1 := f2_willsToStrike hc1
        rcases g_if h with ⟨hq, h⟩ | ⟨hq, h⟩
        · have ⟨hg, h⟩ := g_gd h
          have hb := inB_lt hg
          exact Fr.trans (Fr.sI (Fr.trans (Fr.sI (Fr.rf _ _) (by unfold Wm9_fillStrikes; omega)) (Fr.mono qhc1 (fun c hw => by unfold Wm2_willsToStrike at hw; unfold Wm9_fillStrikes; omega))) (by unfold Wm9_fillStrikes; omega)) (ih _ _ _ h)
        · have ⟨hg, h⟩ := g_gd h
          have hb := inB_lt hg
          exact Fr.trans (Fr.sI (Fr.trans (Fr.sI (Fr.rf _ _) (by unfold Wm9_fillStrikes; omega)) (Fr.mono qhc1 (fun c hw => by unfold Wm2_willsToStrike at hw; unfold Wm9_fillStrikes; omega))) (by unfold Wm9_fillStrikes; omega)) (ih _ _ _ h)
set_option maxHeartbeats 1000000 in
theorem f9_fillStrikes_2 {F : Nat} {c1 : Nat} {r : Mem} : ∀ (n : Nat) (x2 : Int32) (σ : Mem), m9_fillStrikes_2 F c1 n x2 σ = some r → Fr (Wm9_fillStrikes) σ r := by
  intro n
  induction n with
  | zero => intro x2 σ h; unfold m9_fillStrikes_2 at h; cases h
  | succ n ih =>
    intro x2 σ h
    unfold m9_fillStrikes_2 at h
    rcases g_if h with ⟨hq, h⟩ | ⟨hq, h⟩
    · have e := Option.some.inj h
      subst e
      exact (Fr.rf _ _)
    · exact Fr.trans (Fr.rf _ _) (f9_fillStrikes_9 (F := F) (fun _ _ h => (ih _ _ h)) F _ _ _ h)
set_option maxHeartbeats 1000000 in
theorem f9_fillStrikes {F : Nat} {c1 : Nat} {σ : Mem} {r : Mem} (h : m9_fillStrikes F c1 σ = some r) : Fr (Wm9_fillStrikes) σ r := by
  unfold m9_fillStrikes at h
  exact Fr.trans (Fr.rf _ _) (f9_fillStrikes_2 (F := F) F _ _ h)
def Wm9_setMark (c : Nat) : Prop := (133 ≤ c ∧ c ≤ 134)
set_option maxHeartbeats 1000000 in
theorem f9_setMark_2 {F : Nat} {r : Mem} : ∀ (n : Nat) (x1 : Int32) (σ : Mem), m9_setMark_2 F n x1 σ = some r → Fr (Wm9_setMark) σ r := by
  intro n
  induction n with
  | zero => intro x1 σ h; unfold m9_setMark_2 at h; cases h
  | succ n ih =>
    intro x1 σ h
    unfold m9_setMark_2 at h
    rcases g_if h with ⟨hq, h⟩ | ⟨hq, h⟩
    · have e := Option.some.inj h
      subst e
      exact (Fr.rf _ _)
    · have ⟨hg, h⟩ := g_gd h
      have hb := inB_lt hg
      have ⟨hg, h⟩ := g_gd h
      have hb := inB_lt hg
      have ⟨hg, h⟩ := g_gd h
      have hb := inB_lt hg
      exact Fr.trans (Fr.sI (Fr.sI (Fr.rf _ _) (by unfold Wm9_setMark; omega)) (by unfold Wm9_setMark; omega)) (ih _ _ h)
set_option maxHeartbeats 1000000 in
theorem f9_setMark {F : Nat} {σ : Mem} {r : Mem} (h : m9_setMark F  σ = some r) : Fr (Wm9_setMark) σ r := by
  unfold m9_setMark at h
  exact Fr.trans (Fr.rf _ _) (f9_setMark_2 (F := F) F _ _ h)
def Wm9_spinOnce (c : Nat) : Prop := c = 40 ∨ (42 ≤ c ∧ c ≤ 43) ∨ (123 ≤ c ∧ c ≤ 129) ∨ c = 134
set_option maxHeartbeats 1000000 in
theorem f9_spinOnce_65 {F : Nat} {r : Mem} : ∀ (n : Nat) (x1 : Int32) (σ : Mem), m9_spinOnce_65 F n x1 σ = some r → Fr (Wm9_spinOnce) σ r := by
  intro n
  induction n with
  | zero => intro x1 σ h; unfold m9_spinOnce_65 at h; cases h
  | succ n ih =>
    intro x1 σ h
    unfold m9_spinOnce_65 at h
    rcases g_if h with ⟨hq, h⟩ | ⟨hq, h⟩
    · have e := Option.some.inj h
      subst e
      exact (Fr.rf _ _)
    · have ⟨hg, h⟩ := g_gd h
      have hb := inB_lt hg
      have ⟨hg, h⟩ := g_gd h
      have hb := inB_lt hg
      exact Fr.trans (Fr.sI (Fr.rf _ _) (by unfold Wm9_spinOnce; omega)) (ih _ _ h)
set_option maxHeartbeats 1000000 in
theorem f9_spinOnce_2 {F : Nat} {r : Mem} : ∀ (n : Nat) (x1 : Int32) (σ : Mem), m9_spinOnce_2 F n x1 σ = some r → Fr (Wm9_spinOnce) σ r := by
  intro n
  induction n with
  | zero => intro x1 σ h; unfold m9_spinOnce_2 at h; cases h
  | succ n ih =>
    intro x1 σ h
    unfold m9_spinOnce_2 at h
    rcases g_if h with ⟨hq, h⟩ | ⟨hq, h⟩
    · have ⟨_, hc1, h⟩ := b_some h
      have qhc1 := f2_work hc1
      exact Fr.trans (Fr.trans (Fr.rf _ _) (Fr.mono qhc1 (fun c hw => by unfold Wm2_work at hw; unfold Wm9_spinOnce; omega))) (f9_spinOnce_65 (F := F) F _ _ h)
    · have ⟨hg, h⟩ := g_gd h
      have hb := inB_lt hg
      have ⟨hg, h⟩ := g_gd h
      have hb := inB_lt hg
      have ⟨hg, h⟩ := g_gd h
      have hb := inB_lt hg
      exact Fr.trans (Fr.sI (Fr.rf _ _) (by unfold Wm9_spinOnce; omega)) (ih _ _ h)
set_option maxHeartbeats 1000000 in
theorem f9_spinOnce {F : Nat} {σ : Mem} {r : Mem} (h : m9_spinOnce F  σ = some r) : Fr (Wm9_spinOnce) σ r := by
  unfold m9_spinOnce at h
  exact Fr.trans (Fr.rf _ _) (f9_spinOnce_2 (F := F) F _ _ h)
def Wm9_turn (c : Nat) : Prop := (40 ≤ c ∧ c ≤ 44) ∨ (122 ≤ c ∧ c ≤ 134) ∨ (156 ≤ c ∧ c ≤ 186 ∧ c % 6 = 0)
set_option maxHeartbeats 1000000 in
theorem f9_turn_92 {F : Nat} {c1 : Nat} {i2 : Int32} {r : Int32 × Mem} : ∀ (x3 : Int32) (σ : Mem), m9_turn_92 F c1 i2 x3 σ = some r → Fr (Wm9_turn) σ r.2 := by
  intro x3 σ h
  unfold m9_turn_92 at h
  rcases g_if h with ⟨hq, h⟩ | ⟨hq, h⟩
  · have e := Option.some.inj h
    subst e
    exact (Fr.rf _ _)
  · rcases g_if h with ⟨hq, h⟩ | ⟨hq, h⟩
    · have e := Option.some.inj h
      subst e
      exact (Fr.rf _ _)
    · have ⟨hg, h⟩ := g_gd h
      have hb := inB_lt hg
      have e := Option.some.inj h
      subst e
      exact (Fr.rf _ _)
set_option maxHeartbeats 1000000 in
theorem f9_turn_44 {F : Nat} {c1 : Nat} {i2 : Int32} {r : Int32 × Mem} : ∀ (n : Nat) (x3 : Int32) (x4 : Int32) (x5 : Int32) (σ : Mem), m9_turn_44 F c1 i2 n x3 x4 x5 σ = some r → Fr (Wm9_turn) σ r.2 := by
  intro n
  induction n with
  | zero => intro x3 x4 x5 σ h; unfold m9_turn_44 at h; cases h
  | succ n ih =>
    intro x3 x4 x5 σ h
    unfold m9_turn_44 at h
    rcases g_if h with ⟨hq, h⟩ | ⟨hq, h⟩
    · exact Fr.trans (Fr.rf _ _) (f9_turn_92 (F := F) _ _ h)
    · have ⟨_, hc1, h⟩ := b_some h
      have qhc1 := f9_spinOnce hc1
      have ⟨_, hc2, h⟩ := b_some h
      rcases g_if h with ⟨hq, h⟩ | ⟨hq, h⟩
      · rcases g_if h with ⟨hq, h⟩ | ⟨hq, h⟩
        · have ⟨_, hc3, h⟩ := b_some h
          have qhc3 := f9_setMark hc3
          exact Fr.trans (Fr.trans (Fr.trans (Fr.rf _ _) (Fr.mono qhc1 (fun c hw => by unfold Wm9_spinOnce at hw; unfold Wm9_turn; omega))) (Fr.mono qhc3 (fun c hw => by unfold Wm9_setMark at hw; unfold Wm9_turn; omega))) (ih _ _ _ _ h)
        · exact Fr.trans (Fr.trans (Fr.rf _ _) (Fr.mono qhc1 (fun c hw => by unfold Wm9_spinOnce at hw; unfold Wm9_turn; omega))) (ih _ _ _ _ h)
      · exact Fr.trans (Fr.trans (Fr.rf _ _) (Fr.mono qhc1 (fun c hw => by unfold Wm9_spinOnce at hw; unfold Wm9_turn; omega))) (f9_turn_92 (F := F) _ _ h)
set_option maxHeartbeats 1000000 in
theorem f9_turn {F : Nat} {c1 : Nat} {i2 : Int32} {σ : Mem} {r : Int32 × Mem} (h : m9_turn F c1 i2 σ = some r) : Fr (Wm9_turn) σ r.2 := by
  unfold m9_turn at h
  have ⟨_, hc1, h⟩ := b_some h
  have qhc1 := f7_copyFrom hc1
  have ⟨_, hc2, h⟩ := b_some h
  have qhc2 := f2_assign hc2
  have ⟨_, hc3, h⟩ := b_some h
  have qhc3 := f9_fillStrikes hc3
  have ⟨_, hc4, h⟩ := b_some h
  have qhc4 := f9_setMark hc4
  exact Fr.trans (Fr.trans (Fr.trans (Fr.trans (Fr.sI (Fr.trans (Fr.rf _ _) (Fr.mono qhc1 (fun c hw => by unfold Wm7_copyFrom at hw; unfold Wm9_turn; omega))) (by unfold Wm9_turn; omega)) (Fr.mono qhc2 (fun c hw => by unfold Wm2_assign at hw; unfold Wm9_turn; omega))) (Fr.mono qhc3 (fun c hw => by unfold Wm9_fillStrikes at hw; unfold Wm9_turn; omega))) (Fr.mono qhc4 (fun c hw => by unfold Wm9_setMark at hw; unfold Wm9_turn; omega))) (f9_turn_44 (F := F) F _ _ _ _ h)
def Wm10_copyFrom (c0 : Nat) (c : Nat) : Prop := (c0 + 0 ≤ c ∧ c ≤ c0 + 23)
set_option maxHeartbeats 1000000 in
theorem f10_copyFrom {F : Nat} {c0 : Nat} {c1 : Nat} {σ : Mem} {r : Mem} (h : m10_copyFrom F c0 c1 σ = some r) : Fr (Wm10_copyFrom c0) σ r := by
  unfold m10_copyFrom at h
  have ⟨_, hc1, h⟩ := b_some h
  have qhc1 := f4_copyFrom hc1
  have ⟨_, hc2, h⟩ := b_some h
  have qhc2 := f7_copyFrom hc2
  have ⟨_, hc3, h⟩ := b_some h
  have qhc3 := f3_copyFrom hc3
  have e := Option.some.inj h
  subst e
  exact (Fr.sI (Fr.sI (Fr.trans (Fr.trans (Fr.trans (Fr.rf _ _) (Fr.mono qhc1 (fun c hw => by unfold Wm4_copyFrom at hw; unfold Wm10_copyFrom; omega))) (Fr.mono qhc2 (fun c hw => by unfold Wm7_copyFrom at hw; unfold Wm10_copyFrom; omega))) (Fr.mono qhc3 (fun c hw => by unfold Wm3_copyFrom at hw; unfold Wm10_copyFrom; omega))) (by unfold Wm10_copyFrom; omega)) (by unfold Wm10_copyFrom; omega))
def Wm11_feed (c : Nat) : Prop := (1 ≤ c ∧ c ≤ 2)
set_option maxHeartbeats 1000000 in
theorem f11_feed {F : Nat} {i1 : Int32} {i2 : Int32} {i3 : Int32} {i4 : Int32} {i5 : Int32} {σ : Mem} {r : Int32 × Mem} (h : m11_feed F i1 i2 i3 i4 i5 σ = some r) : Fr (Wm11_feed) σ r.2 := by
  unfold m11_feed at h
  rcases g_if h with ⟨hq, h⟩ | ⟨hq, h⟩
  · have ⟨_, hc1, h⟩ := b_some h
    have qhc1 := f8_add hc1
    have ⟨_, hc2, h⟩ := b_some h
    have qhc2 := f8_add hc2
    have ⟨_, hc3, h⟩ := b_some h
    have qhc3 := f8_add hc3
    have ⟨_, hc4, h⟩ := b_some h
    have qhc4 := f8_add hc4
    have ⟨_, hc5, h⟩ := b_some h
    have qhc5 := f8_add hc5
    have e := Option.some.inj h
    subst e
    exact (Fr.trans (Fr.trans (Fr.trans (Fr.trans (Fr.trans (Fr.rf _ _) (Fr.mono qhc1 (fun c hw => by unfold Wm8_add at hw; unfold Wm11_feed; omega))) (Fr.mono qhc2 (fun c hw => by unfold Wm8_add at hw; unfold Wm11_feed; omega))) (Fr.mono qhc3 (fun c hw => by unfold Wm8_add at hw; unfold Wm11_feed; omega))) (Fr.mono qhc4 (fun c hw => by unfold Wm8_add at hw; unfold Wm11_feed; omega))) (Fr.mono qhc5 (fun c hw => by unfold Wm8_add at hw; unfold Wm11_feed; omega)))
  · have e := Option.some.inj h
    subst e
    exact (Fr.rf _ _)
def Wm11_end (c : Nat) : Prop := c = 1
set_option maxHeartbeats 1000000 in
theorem f11_end {F : Nat} {i1 : Int32} {σ : Mem} {r : Int32 × Mem} (h : m11_end F i1 σ = some r) : Fr (Wm11_end) σ r.2 := by
  unfold m11_end at h
  rcases g_if h with ⟨hq, h⟩ | ⟨hq, h⟩
  · have e := Option.some.inj h
    subst e
    exact (Fr.rf _ _)
  · rcases g_if h with ⟨hq, h⟩ | ⟨hq, h⟩
    · have e := Option.some.inj h
      subst e
      exact (Fr.sI (Fr.rf _ _) (by unfold Wm11_end; omega))
    · have e := Option.some.inj h
      subst e
      exact (Fr.rf _ _)
def Wm11_smithy (c : Nat) : Prop := (0 ≤ c ∧ c ≤ 1) ∨ (3 ≤ c ∧ c ≤ 11) ∨ (17 ≤ c ∧ c ≤ 36)
set_option maxHeartbeats 1000000 in
theorem f11_smithy {F : Nat} {σ : Mem} {r : Int32 × Mem} (h : m11_smithy F  σ = some r) : Fr (Wm11_smithy) σ r.2 := by
  unfold m11_smithy at h
  have ⟨_, hc1, h⟩ := b_some h
  have qhc1 := f4_read hc1
  rcases g_if h with ⟨hq, h⟩ | ⟨hq, h⟩
  · have ⟨_, hc2, h⟩ := b_some h
    have qhc2 := f4_copyFrom hc2
    have ⟨_, hc3, h⟩ := b_some h
    have qhc3 := f7_begin hc3
    have e := Option.some.inj h
    subst e
    exact (Fr.sI (Fr.sI (Fr.trans (Fr.trans (Fr.sI (Fr.trans (Fr.rf _ _) (Fr.mono qhc1 (fun c hw => by unfold Wm4_read at hw; unfold Wm11_smithy; omega))) (by unfold Wm11_smithy; omega)) (Fr.mono qhc2 (fun c hw => by unfold Wm4_copyFrom at hw; unfold Wm11_smithy; omega))) (Fr.mono qhc3 (fun c hw => by unfold Wm7_begin at hw; unfold Wm11_smithy; omega))) (by unfold Wm11_smithy; omega)) (by unfold Wm11_smithy; omega))
  · have e := Option.some.inj h
    subst e
    exact (Fr.sI (Fr.trans (Fr.rf _ _) (Fr.mono qhc1 (fun c hw => by unfold Wm4_read at hw; unfold Wm11_smithy; omega))) (by unfold Wm11_smithy; omega))
def Wm11_rule (c : Nat) : Prop := (0 ≤ c ∧ c ≤ 1) ∨ (151 ≤ c ∧ c ≤ 185)
set_option maxHeartbeats 1000000 in
theorem f11_rule {F : Nat} {σ : Mem} {r : Int32 × Mem} (h : m11_rule F  σ = some r) : Fr (Wm11_rule) σ r.2 := by
  unfold m11_rule at h
  rcases g_if h with ⟨hq, h⟩ | ⟨hq, h⟩
  · have ⟨hg, h⟩ := g_gd h
    have hb := inB_lt hg
    have ⟨hz, h⟩ := g_ifn h
    have ⟨_, hc1, h⟩ := b_some h
    have qhc1 := f5_read hc1
    rcases g_if h with ⟨hq, h⟩ | ⟨hq, h⟩
    · have e := Option.some.inj h
      subst e
      exact (Fr.sI (Fr.sI (Fr.trans (Fr.rf _ _) (Fr.mono qhc1 (fun c hw => by unfold Wm5_read at hw; unfold Wm11_rule; omega))) (by unfold Wm11_rule; omega)) (by unfold Wm11_rule; omega))
    · have e := Option.some.inj h
      subst e
      exact (Fr.sI (Fr.trans (Fr.rf _ _) (Fr.mono qhc1 (fun c hw => by unfold Wm5_read at hw; unfold Wm11_rule; omega))) (by unfold Wm11_rule; omega))
  · have e := Option.some.inj h
    subst e
    exact (Fr.rf _ _)
def Wm11_force (c : Nat) : Prop := c = 16
set_option maxHeartbeats 1000000 in
theorem f11_force {F : Nat} {i1 : Int32} {σ : Mem} {r : Int32 × Mem} (h : m11_force F i1 σ = some r) : Fr (Wm11_force) σ r.2 := by
  unfold m11_force at h
  rcases g_if h with ⟨hq, h⟩ | ⟨hq, h⟩
  · have e := Option.some.inj h
    subst e
    exact (Fr.rf _ _)
  · rcases g_if h with ⟨hq, h⟩ | ⟨hq, h⟩
    · have e := Option.some.inj h
      subst e
      exact (Fr.sI (Fr.rf _ _) (by unfold Wm11_force; omega))
    · have e := Option.some.inj h
      subst e
      exact (Fr.rf _ _)
def Wm11_remember (c : Nat) : Prop := c = 0 ∨ (187 ≤ c ∧ c ≤ 386)
set_option maxHeartbeats 1000000 in
theorem f11_remember {F : Nat} {σ : Mem} {r : Mem} (h : m11_remember F  σ = some r) : Fr (Wm11_remember) σ r := by
  unfold m11_remember at h
  have ⟨hg, h⟩ := g_gd h
  have hb := inB_lt hg
  have ⟨_, hc1, h⟩ := b_some h
  have qhc1 := f7_copyFrom hc1
  have e := Option.some.inj h
  subst e
  exact (Fr.sI (Fr.sI (Fr.trans (Fr.rf _ _) (Fr.mono qhc1 (fun c hw => by unfold Wm7_copyFrom at hw; unfold Wm11_remember; omega))) (by unfold Wm11_remember; omega)) (by unfold Wm11_remember; omega))
def Wm11_moment (c : Nat) : Prop := c = 0 ∨ (26 ≤ c ∧ c ≤ 33) ∨ c = 35 ∨ (40 ≤ c ∧ c ≤ 44) ∨ (187 ≤ c ∧ c ≤ 386) ∨ c = 1000 ∨ (156 ≤ c ∧ c ≤ 186 ∧ c % 6 = 0)
set_option maxHeartbeats 1000000 in
theorem f11_moment {F : Nat} {σ : Mem} {r : Int32 × Mem} (h : m11_moment F  σ = some r) : Fr (Wm11_moment) σ r.2 := by
  unfold m11_moment at h
  rcases g_if h with ⟨hq, h⟩ | ⟨hq, h⟩
  · have e := Option.some.inj h
    subst e
    exact (Fr.rf _ _)
  · rcases g_if h with ⟨hq, h⟩ | ⟨hq, h⟩
    · have ⟨_, hc1, h⟩ := b_some h
      have qhc1 := f11_remember hc1
      have ⟨_, hc2, h⟩ := b_some h
      have ⟨_, hc3, h⟩ := b_some h
      have qhc3 := f2_plain hc3
      have ⟨_, hc4, h⟩ := b_some h
      have qhc4 := f2_go hc4
      have e := Option.some.inj h
      subst e
      exact (Fr.trans (Fr.trans (Fr.trans (Fr.rf _ _) (Fr.mono qhc1 (fun c hw => by unfold Wm11_remember at hw; unfold Wm11_moment; omega))) (Fr.mono qhc3 (fun c hw => by unfold Wm2_plain at hw; unfold Wm11_moment; omega))) (Fr.mono qhc4 (fun c hw => by unfold Wm2_go at hw; unfold Wm11_moment; omega)))
    · have e := Option.some.inj h
      subst e
      exact (Fr.rf _ _)
def Wm11_quench (c : Nat) : Prop := c = 0 ∨ c = 27 ∨ (187 ≤ c ∧ c ≤ 386)
set_option maxHeartbeats 1000000 in
theorem f11_quench {F : Nat} {i1 : Int32} {σ : Mem} {r : Int32 × Mem} (h : m11_quench F i1 σ = some r) : Fr (Wm11_quench) σ r.2 := by
  unfold m11_quench at h
  have ⟨_, hc1, h⟩ := b_some h
  rcases g_if h with ⟨hq, h⟩ | ⟨hq, h⟩
  · have e := Option.some.inj h
    subst e
    exact (Fr.rf _ _)
  · have ⟨hg, h⟩ := g_gd h
    have hb := inB_lt hg
    rcases g_if h with ⟨hq, h⟩ | ⟨hq, h⟩
    · have e := Option.some.inj h
      subst e
      exact (Fr.rf _ _)
    · have ⟨_, hc2, h⟩ := b_some h
      have qhc2 := f11_remember hc2
      have ⟨hg, h⟩ := g_gd h
      have hb := inB_lt hg
      have ⟨hg, h⟩ := g_gd h
      have hb := inB_lt hg
      have e := Option.some.inj h
      subst e
      exact (Fr.sI (Fr.trans (Fr.rf _ _) (Fr.mono qhc2 (fun c hw => by unfold Wm11_remember at hw; unfold Wm11_quench; omega))) (by unfold Wm11_quench; omega))
def Wm11_mend (c : Nat) : Prop := c = 0 ∨ c = 35 ∨ (187 ≤ c ∧ c ≤ 386)
set_option maxHeartbeats 1000000 in
theorem f11_mend {F : Nat} {i1 : Int32} {σ : Mem} {r : Int32 × Mem} (h : m11_mend F i1 σ = some r) : Fr (Wm11_mend) σ r.2 := by
  unfold m11_mend at h
  have ⟨_, hc1, h⟩ := b_some h
  rcases g_if h with ⟨hq, h⟩ | ⟨hq, h⟩
  · have e := Option.some.inj h
    subst e
    exact (Fr.rf _ _)
  · have ⟨hg, h⟩ := g_gd h
    have hb := inB_lt hg
    rcases g_if h with ⟨hq, h⟩ | ⟨hq, h⟩
    · have e := Option.some.inj h
      subst e
      exact (Fr.rf _ _)
    · have ⟨_, hc2, h⟩ := b_some h
      have qhc2 := f11_remember hc2
      have ⟨hg, h⟩ := g_gd h
      have hb := inB_lt hg
      have ⟨hg, h⟩ := g_gd h
      have hb := inB_lt hg
      have ⟨hg, h⟩ := g_gd h
      have hb := inB_lt hg
      have e := Option.some.inj h
      subst e
      exact (Fr.sI (Fr.trans (Fr.rf _ _) (Fr.mono qhc2 (fun c hw => by unfold Wm11_remember at hw; unfold Wm11_mend; omega))) (by unfold Wm11_mend; omega))
def Wm11_aside (c : Nat) : Prop := c = 0 ∨ c = 27 ∨ c = 34 ∨ (187 ≤ c ∧ c ≤ 386)
set_option maxHeartbeats 1000000 in
theorem f11_aside {F : Nat} {i1 : Int32} {σ : Mem} {r : Int32 × Mem} (h : m11_aside F i1 σ = some r) : Fr (Wm11_aside) σ r.2 := by
  unfold m11_aside at h
  have ⟨_, hc1, h⟩ := b_some h
  rcases g_if h with ⟨hq, h⟩ | ⟨hq, h⟩
  · have e := Option.some.inj h
    subst e
    exact (Fr.rf _ _)
  · have ⟨_, hc2, h⟩ := b_some h
    rcases g_if h with ⟨hq, h⟩ | ⟨hq, h⟩
    · have ⟨_, hc3, h⟩ := b_some h
      have qhc3 := f11_remember hc3
      have ⟨_, hc4, h⟩ := b_some h
      have qhc4 := f7_putLast hc4
      have ⟨hg, h⟩ := g_gd h
      have hb := inB_lt hg
      have ⟨_, hc5, h⟩ := b_some h
      have e := Option.some.inj h
      subst e
      exact (Fr.sI (Fr.trans (Fr.trans (Fr.rf _ _) (Fr.mono qhc3 (fun c hw => by unfold Wm11_remember at hw; unfold Wm11_aside; omega))) (Fr.mono qhc4 (fun c hw => by unfold Wm7_putLast at hw; unfold Wm11_aside; omega))) (by unfold Wm11_aside; omega))
    · have e := Option.some.inj h
      subst e
      exact (Fr.rf _ _)
def Wm11_undo (c : Nat) : Prop := c = 0 ∨ (26 ≤ c ∧ c ≤ 35)
set_option maxHeartbeats 1000000 in
theorem f11_undo {F : Nat} {σ : Mem} {r : Int32 × Mem} (h : m11_undo F  σ = some r) : Fr (Wm11_undo) σ r.2 := by
  unfold m11_undo at h
  rcases g_if h with ⟨hq, h⟩ | ⟨hq, h⟩
  · have e := Option.some.inj h
    subst e
    exact (Fr.rf _ _)
  · have ⟨hg, h⟩ := g_gd h
    have hb := inB_lt hg
    have ⟨_, hc1, h⟩ := b_some h
    have qhc1 := f7_copyFrom hc1
    have e := Option.some.inj h
    subst e
    exact (Fr.trans (Fr.sI (Fr.sI (Fr.rf _ _) (by unfold Wm11_undo; omega)) (by unfold Wm11_undo; omega)) (Fr.mono qhc1 (fun c hw => by unfold Wm7_copyFrom at hw; unfold Wm11_undo; omega)))
def Wm11_ahead (c : Nat) : Prop := (40 ≤ c ∧ c ≤ 44) ∨ (46 ≤ c ∧ c ≤ 55) ∨ c = 1000 ∨ (156 ≤ c ∧ c ≤ 186 ∧ c % 6 = 0)
set_option maxHeartbeats 1000000 in
theorem f11_ahead {F : Nat} {i1 : Int32} {i2 : Int32} {i3 : Int32} {σ : Mem} {r : Int32 × Mem} (h : m11_ahead F i1 i2 i3 σ = some r) : Fr (Wm11_ahead) σ r.2 := by
  unfold m11_ahead at h
  have ⟨_, hc1, h⟩ := b_some h
  rcases g_if h with ⟨hq, h⟩ | ⟨hq, h⟩
  · have e := Option.some.inj h
    subst e
    exact (Fr.rf _ _)
  · rcases g_if h with ⟨hq, h⟩ | ⟨hq, h⟩
    · have e := Option.some.inj h
      subst e
      exact (Fr.rf _ _)
    · rcases g_if h with ⟨hq, h⟩ | ⟨hq, h⟩
      · have e := Option.some.inj h
        subst e
        exact (Fr.rf _ _)
      · rcases g_if h with ⟨hq, h⟩ | ⟨hq, h⟩
        · have e := Option.some.inj h
          subst e
          exact (Fr.rf _ _)
        · rcases g_if h with ⟨hq, h⟩ | ⟨hq, h⟩
          · have ⟨_, hc2, h⟩ := b_some h
            have ⟨_, hc3, h⟩ := b_some h
            have qhc3 := f2_plain hc3
            have ⟨_, hc4, h⟩ := b_some h
            have qhc4 := f6_goOn hc4
            rcases g_if h with ⟨hq, h⟩ | ⟨hq, h⟩
            · have ⟨hg, h⟩ := g_gd h
              have hb := inB_lt hg
              have e := Option.some.inj h
              subst e
              exact (Fr.trans (Fr.trans (Fr.rf _ _) (Fr.mono qhc3 (fun c hw => by unfold Wm2_plain at hw; unfold Wm11_ahead; omega))) (Fr.mono qhc4 (fun c hw => by unfold Wm6_goOn at hw; unfold Wm11_ahead; omega)))
            · rcases g_if h with ⟨hq, h⟩ | ⟨hq, h⟩
              · have ⟨hg, h⟩ := g_gd h
                have hb := inB_lt hg
                have e := Option.some.inj h
                subst e
                exact (Fr.trans (Fr.trans (Fr.rf _ _) (Fr.mono qhc3 (fun c hw => by unfold Wm2_plain at hw; unfold Wm11_ahead; omega))) (Fr.mono qhc4 (fun c hw => by unfold Wm6_goOn at hw; unfold Wm11_ahead; omega)))
              · have ⟨_, hc5, h⟩ := b_some h
                rcases g_if h with ⟨hq, h⟩ | ⟨hq, h⟩
                · have e := Option.some.inj h
                  subst e
                  exact (Fr.trans (Fr.trans (Fr.rf _ _) (Fr.mono qhc3 (fun c hw => by unfold Wm2_plain at hw; unfold Wm11_ahead; omega))) (Fr.mono qhc4 (fun c hw => by unfold Wm6_goOn at hw; unfold Wm11_ahead; omega)))
                · have ⟨hg, h⟩ := g_gd h
                  have hb := inB_lt hg
                  have e := Option.some.inj h
                  subst e
                  exact (Fr.trans (Fr.trans (Fr.rf _ _) (Fr.mono qhc3 (fun c hw => by unfold Wm2_plain at hw; unfold Wm11_ahead; omega))) (Fr.mono qhc4 (fun c hw => by unfold Wm6_goOn at hw; unfold Wm11_ahead; omega)))
          · have e := Option.some.inj h
            subst e
            exact (Fr.rf _ _)
def Wm11_ready (c : Nat) : Prop := (40 ≤ c ∧ c ≤ 44) ∨ (46 ≤ c ∧ c ≤ 55) ∨ c = 1000 ∨ (156 ≤ c ∧ c ≤ 186 ∧ c % 6 = 0)
set_option maxHeartbeats 1000000 in
theorem f11_ready {F : Nat} {i1 : Int32} {σ : Mem} {r : Int32 × Mem} (h : m11_ready F i1 σ = some r) : Fr (Wm11_ready) σ r.2 := by
  unfold m11_ready at h
  have ⟨_, hc1, h⟩ := b_some h
  rcases g_if h with ⟨hq, h⟩ | ⟨hq, h⟩
  · have e := Option.some.inj h
    subst e
    exact (Fr.rf _ _)
  · have ⟨_, hc2, h⟩ := b_some h
    have ⟨_, hc3, h⟩ := b_some h
    have qhc3 := f2_plain hc3
    have ⟨_, hc4, h⟩ := b_some h
    have qhc4 := f6_readyAt hc4
    have e := Option.some.inj h
    subst e
    exact (Fr.trans (Fr.trans (Fr.rf _ _) (Fr.mono qhc3 (fun c hw => by unfold Wm2_plain at hw; unfold Wm11_ready; omega))) (Fr.mono qhc4 (fun c hw => by unfold Wm6_readyAt at hw; unfold Wm11_ready; omega)))
def Wm11_all (c : Nat) : Prop := (40 ≤ c ∧ c ≤ 44) ∨ (46 ≤ c ∧ c ≤ 55) ∨ c = 1000 ∨ (156 ≤ c ∧ c ≤ 186 ∧ c % 6 = 0)
set_option maxHeartbeats 1000000 in
theorem f11_all {F : Nat} {σ : Mem} {r : Int32 × Mem} (h : m11_all F  σ = some r) : Fr (Wm11_all) σ r.2 := by
  unfold m11_all at h
  rcases g_if h with ⟨hq, h⟩ | ⟨hq, h⟩
  · have e := Option.some.inj h
    subst e
    exact (Fr.rf _ _)
  · have ⟨_, hc1, h⟩ := b_some h
    have ⟨_, hc2, h⟩ := b_some h
    have qhc2 := f2_plain hc2
    have ⟨_, hc3, h⟩ := b_some h
    have qhc3 := f6_untilAll hc3
    rcases g_if h with ⟨hq, h⟩ | ⟨hq, h⟩
    · have e := Option.some.inj h
      subst e
      exact (Fr.trans (Fr.trans (Fr.rf _ _) (Fr.mono qhc2 (fun c hw => by unfold Wm2_plain at hw; unfold Wm11_all; omega))) (Fr.mono qhc3 (fun c hw => by unfold Wm6_untilAll at hw; unfold Wm11_all; omega)))
    · have e := Option.some.inj h
      subst e
      exact (Fr.trans (Fr.trans (Fr.rf _ _) (Fr.mono qhc2 (fun c hw => by unfold Wm2_plain at hw; unfold Wm11_all; omega))) (Fr.mono qhc3 (fun c hw => by unfold Wm6_untilAll at hw; unfold Wm11_all; omega)))
def Wm11_rota (c : Nat) : Prop := (40 ≤ c ∧ c ≤ 44) ∨ c = 56 ∨ (58 ≤ c ∧ c ≤ 59) ∨ (61 ≤ c ∧ c ≤ 120) ∨ c = 1000 ∨ (156 ≤ c ∧ c ≤ 186 ∧ c % 6 = 0)
set_option maxHeartbeats 1000000 in
theorem f11_rota {F : Nat} {i1 : Int32} {i2 : Int32} {σ : Mem} {r : Int32 × Mem} (h : m11_rota F i1 i2 σ = some r) : Fr (Wm11_rota) σ r.2 := by
  unfold m11_rota at h
  rcases g_if h with ⟨hq, h⟩ | ⟨hq, h⟩
  · have e := Option.some.inj h
    subst e
    exact (Fr.rf _ _)
  · rcases g_if h with ⟨hq, h⟩ | ⟨hq, h⟩
    · have e := Option.some.inj h
      subst e
      exact (Fr.rf _ _)
    · rcases g_if h with ⟨hq, h⟩ | ⟨hq, h⟩
      · have e := Option.some.inj h
        subst e
        exact (Fr.rf _ _)
      · rcases g_if h with ⟨hq, h⟩ | ⟨hq, h⟩
        · have e := Option.some.inj h
          subst e
          exact (Fr.rf _ _)
        · rcases g_if h with ⟨hq, h⟩ | ⟨hq, h⟩
          · rcases g_if h with ⟨hq, h⟩ | ⟨hq, h⟩
            · have ⟨_, hc1, h⟩ := b_some h
              have qhc1 := f2_plain hc1
              have ⟨_, hc2, h⟩ := b_some h
              have qhc2 := f0_bestRota hc2
              have e := Option.some.inj h
              subst e
              exact (Fr.trans (Fr.trans (Fr.rf _ _) (Fr.mono qhc1 (fun c hw => by unfold Wm2_plain at hw; unfold Wm11_rota; omega))) (Fr.mono qhc2 (fun c hw => by unfold Wm0_bestRota at hw; unfold Wm11_rota; omega)))
            · have e := Option.some.inj h
              subst e
              exact (Fr.rf _ _)
          · have e := Option.some.inj h
            subst e
            exact (Fr.rf _ _)
def Wm11_round (c : Nat) : Prop := (40 ≤ c ∧ c ≤ 44) ∨ (122 ≤ c ∧ c ≤ 134) ∨ c = 1000 ∨ (156 ≤ c ∧ c ≤ 186 ∧ c % 6 = 0)
set_option maxHeartbeats 1000000 in
theorem f11_round {F : Nat} {i1 : Int32} {σ : Mem} {r : Int32 × Mem} (h : m11_round F i1 σ = some r) : Fr (Wm11_round) σ r.2 := by
  unfold m11_round at h
  rcases g_if h with ⟨hq, h⟩ | ⟨hq, h⟩
  · have e := Option.some.inj h
    subst e
    exact (Fr.rf _ _)
  · rcases g_if h with ⟨hq, h⟩ | ⟨hq, h⟩
    · have e := Option.some.inj h
      subst e
      exact (Fr.rf _ _)
    · rcases g_if h with ⟨hq, h⟩ | ⟨hq, h⟩
      · rcases g_if h with ⟨hq, h⟩ | ⟨hq, h⟩
        · have ⟨_, hc1, h⟩ := b_some h
          have ⟨_, hc2, h⟩ := b_some h
          have qhc2 := f2_plain hc2
          have ⟨_, hc3, h⟩ := b_some h
          have qhc3 := f9_turn hc3
          have e := Option.some.inj h
          subst e
          exact (Fr.trans (Fr.trans (Fr.rf _ _) (Fr.mono qhc2 (fun c hw => by unfold Wm2_plain at hw; unfold Wm11_round; omega))) (Fr.mono qhc3 (fun c hw => by unfold Wm9_turn at hw; unfold Wm11_round; omega)))
        · have e := Option.some.inj h
          subst e
          exact (Fr.rf _ _)
      · have e := Option.some.inj h
        subst e
        exact (Fr.rf _ _)
def Wm11_beside (c : Nat) : Prop := c = 56 ∨ (58 ≤ c ∧ c ≤ 59) ∨ (61 ≤ c ∧ c ≤ 120)
set_option maxHeartbeats 1000000 in
theorem f11_beside {F : Nat} {i1 : Int32} {σ : Mem} {r : Int32 × Mem} (h : m11_beside F i1 σ = some r) : Fr (Wm11_beside) σ r.2 := by
  unfold m11_beside at h
  rcases g_if h with ⟨hq, h⟩ | ⟨hq, h⟩
  · have e := Option.some.inj h
    subst e
    exact (Fr.rf _ _)
  · rcases g_if h with ⟨hq, h⟩ | ⟨hq, h⟩
    · have e := Option.some.inj h
      subst e
      exact (Fr.rf _ _)
    · rcases g_if h with ⟨hq, h⟩ | ⟨hq, h⟩
      · rcases g_if h with ⟨hq, h⟩ | ⟨hq, h⟩
        · have ⟨_, hc1, h⟩ := b_some h
          have qhc1 := f0_bestBeside hc1
          have e := Option.some.inj h
          subst e
          exact (Fr.trans (Fr.rf _ _) (Fr.mono qhc1 (fun c hw => by unfold Wm0_bestBeside at hw; unfold Wm11_beside; omega)))
        · have e := Option.some.inj h
          subst e
          exact (Fr.rf _ _)
      · have e := Option.some.inj h
        subst e
        exact (Fr.rf _ _)
def Wm11_worth (c : Nat) : Prop := (40 ≤ c ∧ c ≤ 44) ∨ (46 ≤ c ∧ c ≤ 55) ∨ c = 1000 ∨ (156 ≤ c ∧ c ≤ 186 ∧ c % 6 = 0)
set_option maxHeartbeats 1000000 in
theorem f11_worth {F : Nat} {i1 : Int32} {i2 : Int32} {σ : Mem} {r : Int32 × Mem} (h : m11_worth F i1 i2 σ = some r) : Fr (Wm11_worth) σ r.2 := by
  unfold m11_worth at h
  have ⟨_, hc1, h⟩ := b_some h
  rcases g_if h with ⟨hq, h⟩ | ⟨hq, h⟩
  · have e := Option.some.inj h
    subst e
    exact (Fr.rf _ _)
  · rcases g_if h with ⟨hq, h⟩ | ⟨hq, h⟩
    · have e := Option.some.inj h
      subst e
      exact (Fr.rf _ _)
    · rcases g_if h with ⟨hq, h⟩ | ⟨hq, h⟩
      · have ⟨_, hc2, h⟩ := b_some h
        have ⟨_, hc3, h⟩ := b_some h
        have qhc3 := f2_plain hc3
        have ⟨_, hc4, h⟩ := b_some h
        have qhc4 := f6_blowsOfOthers hc4
        have ⟨_, hc5, h⟩ := b_some h
        have qhc5 := f6_blowsOfOthers hc5
        have e := Option.some.inj h
        subst e
        exact (Fr.trans (Fr.sI (Fr.trans (Fr.trans (Fr.rf _ _) (Fr.mono qhc3 (fun c hw => by unfold Wm2_plain at hw; unfold Wm11_worth; omega))) (Fr.mono qhc4 (fun c hw => by unfold Wm6_blowsOfOthers at hw; unfold Wm11_worth; omega))) (by unfold Wm11_worth; omega)) (Fr.mono qhc5 (fun c hw => by unfold Wm6_blowsOfOthers at hw; unfold Wm11_worth; omega)))
      · have e := Option.some.inj h
        subst e
        exact (Fr.rf _ _)
def Wm11_splits (c : Nat) : Prop := (40 ≤ c ∧ c ≤ 44) ∨ (46 ≤ c ∧ c ≤ 55) ∨ c = 1000 ∨ (156 ≤ c ∧ c ≤ 186 ∧ c % 6 = 0)
set_option maxHeartbeats 1000000 in
theorem f11_splits {F : Nat} {i1 : Int32} {i2 : Int32} {σ : Mem} {r : Int32 × Mem} (h : m11_splits F i1 i2 σ = some r) : Fr (Wm11_splits) σ r.2 := by
  unfold m11_splits at h
  have ⟨_, hc1, h⟩ := b_some h
  rcases g_if h with ⟨hq, h⟩ | ⟨hq, h⟩
  · have e := Option.some.inj h
    subst e
    exact (Fr.rf _ _)
  · rcases g_if h with ⟨hq, h⟩ | ⟨hq, h⟩
    · have e := Option.some.inj h
      subst e
      exact (Fr.rf _ _)
    · rcases g_if h with ⟨hq, h⟩ | ⟨hq, h⟩
      · have ⟨hg, h⟩ := g_gd h
        have hb := inB_lt hg
        rcases g_if h with ⟨hq, h⟩ | ⟨hq, h⟩
        · have ⟨_, hc2, h⟩ := b_some h
          have ⟨_, hc3, h⟩ := b_some h
          have qhc3 := f2_plain hc3
          have ⟨_, hc4, h⟩ := b_some h
          have qhc4 := f6_splitting hc4
          have e := Option.some.inj h
          subst e
          exact (Fr.trans (Fr.trans (Fr.rf _ _) (Fr.mono qhc3 (fun c hw => by unfold Wm2_plain at hw; unfold Wm11_splits; omega))) (Fr.mono qhc4 (fun c hw => by unfold Wm6_splitting at hw; unfold Wm11_splits; omega)))
        · have e := Option.some.inj h
          subst e
          exact (Fr.rf _ _)
      · have e := Option.some.inj h
        subst e
        exact (Fr.rf _ _)
def Wm11_order (c : Nat) : Prop := (40 ≤ c ∧ c ≤ 44) ∨ c = 56 ∨ (58 ≤ c ∧ c ≤ 120) ∨ c = 1000 ∨ (156 ≤ c ∧ c ≤ 186 ∧ c % 6 = 0)
set_option maxHeartbeats 1000000 in
theorem f11_order {F : Nat} {i1 : Int32} {i2 : Int32} {σ : Mem} {r : Int32 × Mem} (h : m11_order F i1 i2 σ = some r) : Fr (Wm11_order) σ r.2 := by
  unfold m11_order at h
  have ⟨_, hc1, h⟩ := b_some h
  rcases g_if h with ⟨hq, h⟩ | ⟨hq, h⟩
  · have e := Option.some.inj h
    subst e
    exact (Fr.rf _ _)
  · rcases g_if h with ⟨hq, h⟩ | ⟨hq, h⟩
    · have e := Option.some.inj h
      subst e
      exact (Fr.rf _ _)
    · rcases g_if h with ⟨hq, h⟩ | ⟨hq, h⟩
      · have ⟨_, hc2, h⟩ := b_some h
        rcases g_if h with ⟨hq, h⟩ | ⟨hq, h⟩
        · have ⟨_, hc3, h⟩ := b_some h
          have ⟨_, hc4, h⟩ := b_some h
          have qhc4 := f2_plain hc4
          have ⟨_, hc5, h⟩ := b_some h
          have qhc5 := f0_bestOrder hc5
          have e := Option.some.inj h
          subst e
          exact (Fr.trans (Fr.trans (Fr.rf _ _) (Fr.mono qhc4 (fun c hw => by unfold Wm2_plain at hw; unfold Wm11_order; omega))) (Fr.mono qhc5 (fun c hw => by unfold Wm0_bestOrder at hw; unfold Wm11_order; omega)))
        · have e := Option.some.inj h
          subst e
          exact (Fr.rf _ _)
      · have e := Option.some.inj h
        subst e
        exact (Fr.rf _ _)
def Wm11_second (c : Nat) : Prop := (40 ≤ c ∧ c ≤ 44) ∨ (46 ≤ c ∧ c ≤ 55) ∨ c = 1000 ∨ (156 ≤ c ∧ c ≤ 186 ∧ c % 6 = 0)
set_option maxHeartbeats 1000000 in
theorem f11_second {F : Nat} {σ : Mem} {r : Int32 × Mem} (h : m11_second F  σ = some r) : Fr (Wm11_second) σ r.2 := by
  unfold m11_second at h
  rcases g_if h with ⟨hq, h⟩ | ⟨hq, h⟩
  · have e := Option.some.inj h
    subst e
    exact (Fr.rf _ _)
  · have ⟨_, hc1, h⟩ := b_some h
    have ⟨_, hc2, h⟩ := b_some h
    have qhc2 := f2_plain hc2
    have ⟨_, hc3, h⟩ := b_some h
    have qhc3 := f6_untilAll hc3
    have ⟨_, hc4, h⟩ := b_some h
    have qhc4 := f6_untilAll hc4
    have e := Option.some.inj h
    subst e
    exact (Fr.trans (Fr.sI (Fr.trans (Fr.trans (Fr.rf _ _) (Fr.mono qhc2 (fun c hw => by unfold Wm2_plain at hw; unfold Wm11_second; omega))) (Fr.mono qhc3 (fun c hw => by unfold Wm6_untilAll at hw; unfold Wm11_second; omega))) (by unfold Wm11_second; omega)) (Fr.mono qhc4 (fun c hw => by unfold Wm6_untilAll at hw; unfold Wm11_second; omega)))
def Wm11_seed (c : Nat) : Prop := c = 16
set_option maxHeartbeats 1000000 in
theorem f11_seed {F : Nat} {i1 : Int32} {σ : Mem} {r : Int32 × Mem} (h : m11_seed F i1 σ = some r) : Fr (Wm11_seed) σ r.2 := by
  unfold m11_seed at h
  rcases g_if h with ⟨hq, h⟩ | ⟨hq, h⟩
  · have e := Option.some.inj h
    subst e
    exact (Fr.sI (Fr.rf _ _) (by unfold Wm11_seed; omega))
  · have e := Option.some.inj h
    subst e
    exact (Fr.rf _ _)
def Wm11_days (c : Nat) : Prop := (40 ≤ c ∧ c ≤ 55) ∨ c = 1000 ∨ (156 ≤ c ∧ c ≤ 186 ∧ c % 6 = 0)
set_option maxHeartbeats 1000000 in
theorem f11_days {F : Nat} {i1 : Int32} {i2 : Int32} {i3 : Int32} {i4 : Int32} {σ : Mem} {r : Int32 × Mem} (h : m11_days F i1 i2 i3 i4 σ = some r) : Fr (Wm11_days) σ r.2 := by
  unfold m11_days at h
  rcases g_if h with ⟨hq, h⟩ | ⟨hq, h⟩
  · have e := Option.some.inj h
    subst e
    exact (Fr.rf _ _)
  · rcases g_if h with ⟨hq, h⟩ | ⟨hq, h⟩
    · have e := Option.some.inj h
      subst e
      exact (Fr.rf _ _)
    · rcases g_if h with ⟨hq, h⟩ | ⟨hq, h⟩
      · have e := Option.some.inj h
        subst e
        exact (Fr.rf _ _)
      · rcases g_if h with ⟨hq, h⟩ | ⟨hq, h⟩
        · have e := Option.some.inj h
          subst e
          exact (Fr.rf _ _)
        · rcases g_if h with ⟨hq, h⟩ | ⟨hq, h⟩
          · rcases g_if h with ⟨hq, h⟩ | ⟨hq, h⟩
            · have e := Option.some.inj h
              subst e
              exact (Fr.rf _ _)
            · rcases g_if h with ⟨hq, h⟩ | ⟨hq, h⟩
              · have e := Option.some.inj h
                subst e
                exact (Fr.rf _ _)
              · rcases g_if h with ⟨hq, h⟩ | ⟨hq, h⟩
                · have e := Option.some.inj h
                  subst e
                  exact (Fr.rf _ _)
                · rcases g_if h with ⟨hq, h⟩ | ⟨hq, h⟩
                  · have ⟨_, hc1, h⟩ := b_some h
                    have ⟨_, hc2, h⟩ := b_some h
                    have qhc2 := f2_plain hc2
                    have ⟨_, hc3, h⟩ := b_some h
                    have qhc3 := f6_live hc3
                    rcases g_if h with ⟨hq, h⟩ | ⟨hq, h⟩
                    · have e := Option.some.inj h
                      subst e
                      exact (Fr.trans (Fr.trans (Fr.rf _ _) (Fr.mono qhc2 (fun c hw => by unfold Wm2_plain at hw; unfold Wm11_days; omega))) (Fr.mono qhc3 (fun c hw => by unfold Wm6_live at hw; unfold Wm11_days; omega)))
                    · have e := Option.some.inj h
                      subst e
                      exact (Fr.trans (Fr.trans (Fr.rf _ _) (Fr.mono qhc2 (fun c hw => by unfold Wm2_plain at hw; unfold Wm11_days; omega))) (Fr.mono qhc3 (fun c hw => by unfold Wm6_live at hw; unfold Wm11_days; omega)))
                  · have e := Option.some.inj h
                    subst e
                    exact (Fr.rf _ _)
          · have e := Option.some.inj h
            subst e
            exact (Fr.rf _ _)
def Wm11_note (c : Nat) : Prop := (36 ≤ c ∧ c ≤ 39)
set_option maxHeartbeats 1000000 in
theorem f11_note {F : Nat} {i1 : Int32} {i2 : Int32} {i3 : Int32} {σ : Mem} {r : Int32 × Mem} (h : m11_note F i1 i2 i3 σ = some r) : Fr (Wm11_note) σ r.2 := by
  unfold m11_note at h
  rcases g_if h with ⟨hq, h⟩ | ⟨hq, h⟩
  · have e := Option.some.inj h
    subst e
    exact (Fr.sI (Fr.rf _ _) (by unfold Wm11_note; omega))
  · have ⟨_, hc1, h⟩ := b_some h
    rcases g_if h with ⟨hq, h⟩ | ⟨hq, h⟩
    · have e := Option.some.inj h
      subst e
      exact (Fr.rf _ _)
    · rcases g_if h with ⟨hq, h⟩ | ⟨hq, h⟩
      · have e := Option.some.inj h
        subst e
        exact (Fr.rf _ _)
      · rcases g_if h with ⟨hq, h⟩ | ⟨hq, h⟩
        · have e := Option.some.inj h
          subst e
          exact (Fr.rf _ _)
        · rcases g_if h with ⟨hq, h⟩ | ⟨hq, h⟩
          · have e := Option.some.inj h
            subst e
            exact (Fr.rf _ _)
          · rcases g_if h with ⟨hq, h⟩ | ⟨hq, h⟩
            · rcases g_if h with ⟨hq, h⟩ | ⟨hq, h⟩
              · have ⟨_, hc2, h⟩ := b_some h
                have qhc2 := f3_add hc2
                have e := Option.some.inj h
                subst e
                exact (Fr.trans (Fr.rf _ _) (Fr.mono qhc2 (fun c hw => by unfold Wm3_add at hw; unfold Wm11_note; omega)))
              · have e := Option.some.inj h
                subst e
                exact (Fr.rf _ _)
            · have e := Option.some.inj h
              subst e
              exact (Fr.rf _ _)
def Wm11_ruled (c : Nat) : Prop := (40 ≤ c ∧ c ≤ 44) ∨ (135 ≤ c ∧ c ≤ 146) ∨ (148 ≤ c ∧ c ≤ 150) ∨ c = 1000 ∨ (156 ≤ c ∧ c ≤ 186 ∧ c % 6 = 0)
set_option maxHeartbeats 1000000 in
theorem f11_ruled {F : Nat} {i1 : Int32} {σ : Mem} {r : Int32 × Mem} (h : m11_ruled F i1 σ = some r) : Fr (Wm11_ruled) σ r.2 := by
  unfold m11_ruled at h
  rcases g_if h with ⟨hq, h⟩ | ⟨hq, h⟩
  · have e := Option.some.inj h
    subst e
    exact (Fr.rf _ _)
  · rcases g_if h with ⟨hq, h⟩ | ⟨hq, h⟩
    · have e := Option.some.inj h
      subst e
      exact (Fr.rf _ _)
    · rcases g_if h with ⟨hq, h⟩ | ⟨hq, h⟩
      · have ⟨_, hc1, h⟩ := b_some h
        have qhc1 := f1_weigh hc1
        rcases g_if h with ⟨hq, h⟩ | ⟨hq, h⟩
        · have e := Option.some.inj h
          subst e
          exact (Fr.trans (Fr.rf _ _) (Fr.mono qhc1 (fun c hw => by unfold Wm1_weigh at hw; unfold Wm11_ruled; omega)))
        · rcases g_if h with ⟨hq, h⟩ | ⟨hq, h⟩
          · have e := Option.some.inj h
            subst e
            exact (Fr.trans (Fr.rf _ _) (Fr.mono qhc1 (fun c hw => by unfold Wm1_weigh at hw; unfold Wm11_ruled; omega)))
          · have e := Option.some.inj h
            subst e
            exact (Fr.trans (Fr.rf _ _) (Fr.mono qhc1 (fun c hw => by unfold Wm1_weigh at hw; unfold Wm11_ruled; omega)))
      · have e := Option.some.inj h
        subst e
        exact (Fr.rf _ _)
def Wm11_look (c : Nat) : Prop := (40 ≤ c ∧ c ≤ 44) ∨ (135 ≤ c ∧ c ≤ 146) ∨ (148 ≤ c ∧ c ≤ 150) ∨ c = 1000 ∨ (156 ≤ c ∧ c ≤ 186 ∧ c % 6 = 0)
set_option maxHeartbeats 1000000 in
theorem f11_look {F : Nat} {i1 : Int32} {i2 : Int32} {σ : Mem} {r : Int32 × Mem} (h : m11_look F i1 i2 σ = some r) : Fr (Wm11_look) σ r.2 := by
  unfold m11_look at h
  rcases g_if h with ⟨hq, h⟩ | ⟨hq, h⟩
  · have e := Option.some.inj h
    subst e
    exact (Fr.rf _ _)
  · rcases g_if h with ⟨hq, h⟩ | ⟨hq, h⟩
    · have e := Option.some.inj h
      subst e
      exact (Fr.rf _ _)
    · rcases g_if h with ⟨hq, h⟩ | ⟨hq, h⟩
      · have e := Option.some.inj h
        subst e
        exact (Fr.rf _ _)
      · rcases g_if h with ⟨hq, h⟩ | ⟨hq, h⟩
        · have e := Option.some.inj h
          subst e
          exact (Fr.rf _ _)
        · rcases g_if h with ⟨hq, h⟩ | ⟨hq, h⟩
          · have ⟨_, hc1, h⟩ := b_some h
            have qhc1 := f1_weigh hc1
            rcases g_if h with ⟨hq, h⟩ | ⟨hq, h⟩
            · have e := Option.some.inj h
              subst e
              exact (Fr.trans (Fr.rf _ _) (Fr.mono qhc1 (fun c hw => by unfold Wm1_weigh at hw; unfold Wm11_look; omega)))
            · have ⟨_, hc2, h⟩ := b_some h
              rcases g_if h with ⟨hq, h⟩ | ⟨hq, h⟩
              · have e := Option.some.inj h
                subst e
                exact (Fr.trans (Fr.rf _ _) (Fr.mono qhc1 (fun c hw => by unfold Wm1_weigh at hw; unfold Wm11_look; omega)))
              · have ⟨_, hc3, h⟩ := b_some h
                have e := Option.some.inj h
                subst e
                exact (Fr.trans (Fr.rf _ _) (Fr.mono qhc1 (fun c hw => by unfold Wm1_weigh at hw; unfold Wm11_look; omega)))
          · have e := Option.some.inj h
            subst e
            exact (Fr.rf _ _)
def Wm11_image (c : Nat) : Prop := c = 15 ∨ (387 ≤ c ∧ c ≤ 482)
set_option maxHeartbeats 1000000 in
theorem f11_image {F : Nat} {i1 : Int32} {σ : Mem} {r : Int32 × Mem} (h : m11_image F i1 σ = some r) : Fr (Wm11_image) σ r.2 := by
  unfold m11_image at h
  rcases g_if h with ⟨hq, h⟩ | ⟨hq, h⟩
  · have e := Option.some.inj h
    subst e
    exact (Fr.rf _ _)
  · rcases g_if h with ⟨hq, h⟩ | ⟨hq, h⟩
    · have ⟨hg, h⟩ := g_gd h
      have hb := inB_lt hg
      have ⟨_, hc1, h⟩ := b_some h
      have qhc1 := f10_copyFrom hc1
      have ⟨hg, h⟩ := g_gd h
      have hb := inB_lt hg
      have e := Option.some.inj h
      subst e
      exact (Fr.sI (Fr.trans (Fr.rf _ _) (Fr.mono qhc1 (fun c hw => by unfold Wm10_copyFrom at hw; unfold Wm11_image; omega))) (by unfold Wm11_image; omega))
    · have e := Option.some.inj h
      subst e
      exact (Fr.rf _ _)
def Wm11_back (c : Nat) : Prop := c = 0 ∨ (16 ≤ c ∧ c ≤ 39)
set_option maxHeartbeats 1000000 in
theorem f11_back {F : Nat} {i1 : Int32} {σ : Mem} {r : Int32 × Mem} (h : m11_back F i1 σ = some r) : Fr (Wm11_back) σ r.2 := by
  unfold m11_back at h
  rcases g_if h with ⟨hq, h⟩ | ⟨hq, h⟩
  · have e := Option.some.inj h
    subst e
    exact (Fr.rf _ _)
  · rcases g_if h with ⟨hq, h⟩ | ⟨hq, h⟩
    · have e := Option.some.inj h
      subst e
      exact (Fr.rf _ _)
    · have ⟨hg, h⟩ := g_gd h
      have hb := inB_lt hg
      rcases g_if h with ⟨hq, h⟩ | ⟨hq, h⟩
      · have e := Option.some.inj h
        subst e
        exact (Fr.rf _ _)
      · have ⟨hg, h⟩ := g_gd h
        have hb := inB_lt hg
        have ⟨_, hc1, h⟩ := b_some h
        have qhc1 := f10_copyFrom hc1
        have e := Option.some.inj h
        subst e
        exact (Fr.sI (Fr.trans (Fr.rf _ _) (Fr.mono qhc1 (fun c hw => by unfold Wm10_copyFrom at hw; unfold Wm11_back; omega))) (by unfold Wm11_back; omega))
def Wm12_four (c : Nat) : Prop := (483 ≤ c ∧ c ≤ 484)
set_option maxHeartbeats 1000000 in
theorem f12_four_3 {F : Nat} {i1 : Int32} {r : Mem} : ∀ (n : Nat) (x2 : Int32) (σ : Mem), m12_four_3 F i1 n x2 σ = some r → Fr (Wm12_four) σ r := by
  intro n
  induction n with
  | zero => intro x2 σ h; unfold m12_four_3 at h; cases h
  | succ n ih =>
    intro x2 σ h
    unfold m12_four_3 at h
    rcases g_if h with ⟨hq, h⟩ | ⟨hq, h⟩
    · have e := Option.some.inj h
      subst e
      exact (Fr.rf _ _)
    · have ⟨hg, h⟩ := g_gd h
      have hb := inB_lt hg
      exact Fr.trans (Fr.sI (Fr.sI (Fr.rf _ _) (by unfold Wm12_four; omega)) (by unfold Wm12_four; omega)) (ih _ _ h)
set_option maxHeartbeats 1000000 in
theorem f12_four {F : Nat} {i1 : Int32} {σ : Mem} {r : Mem} (h : m12_four F i1 σ = some r) : Fr (Wm12_four) σ r := by
  unfold m12_four at h
  exact Fr.trans (Fr.rf _ _) (f12_four_3 (F := F) F _ _ h)
def Wm12_feed (c : Nat) : Prop := (483 ≤ c ∧ c ≤ 484)
set_option maxHeartbeats 1000000 in
theorem f12_feed {F : Nat} {i1 : Int32} {i2 : Int32} {i3 : Int32} {i4 : Int32} {i5 : Int32} {σ : Mem} {r : Int32 × Mem} (h : m12_feed F i1 i2 i3 i4 i5 σ = some r) : Fr (Wm12_feed) σ r.2 := by
  unfold m12_feed at h
  rcases g_if h with ⟨hq, h⟩ | ⟨hq, h⟩
  · have ⟨_, hc1, h⟩ := b_some h
    have qhc1 := f12_four hc1
    have ⟨_, hc2, h⟩ := b_some h
    have qhc2 := f12_four hc2
    have ⟨_, hc3, h⟩ := b_some h
    have qhc3 := f12_four hc3
    have ⟨_, hc4, h⟩ := b_some h
    have qhc4 := f12_four hc4
    have ⟨_, hc5, h⟩ := b_some h
    have qhc5 := f12_four hc5
    have e := Option.some.inj h
    subst e
    exact (Fr.trans (Fr.trans (Fr.trans (Fr.trans (Fr.trans (Fr.rf _ _) (Fr.mono qhc1 (fun c hw => by unfold Wm12_four at hw; unfold Wm12_feed; omega))) (Fr.mono qhc2 (fun c hw => by unfold Wm12_four at hw; unfold Wm12_feed; omega))) (Fr.mono qhc3 (fun c hw => by unfold Wm12_four at hw; unfold Wm12_feed; omega))) (Fr.mono qhc4 (fun c hw => by unfold Wm12_four at hw; unfold Wm12_feed; omega))) (Fr.mono qhc5 (fun c hw => by unfold Wm12_four at hw; unfold Wm12_feed; omega)))
  · have e := Option.some.inj h
    subst e
    exact (Fr.rf _ _)
def Wm12_end (c : Nat) : Prop := c = 483
set_option maxHeartbeats 1000000 in
theorem f12_end {F : Nat} {i1 : Int32} {σ : Mem} {r : Int32 × Mem} (h : m12_end F i1 σ = some r) : Fr (Wm12_end) σ r.2 := by
  unfold m12_end at h
  rcases g_if h with ⟨hq, h⟩ | ⟨hq, h⟩
  · have e := Option.some.inj h
    subst e
    exact (Fr.rf _ _)
  · rcases g_if h with ⟨hq, h⟩ | ⟨hq, h⟩
    · have e := Option.some.inj h
      subst e
      exact (Fr.sI (Fr.rf _ _) (by unfold Wm12_end; omega))
    · have e := Option.some.inj h
      subst e
      exact (Fr.rf _ _)
def Wm12_fails (c : Nat) : Prop := c = 483
set_option maxHeartbeats 1000000 in
theorem f12_fails {F : Nat} {i1 : Int32} {i2 : Int32} {σ : Mem} {r : Int32 × Mem} (h : m12_fails F i1 i2 σ = some r) : Fr (Wm12_fails) σ r.2 := by
  unfold m12_fails at h
  rcases g_if h with ⟨hq, h⟩ | ⟨hq, h⟩
  · have e := Option.some.inj h
    subst e
    exact (Fr.sI (Fr.rf _ _) (by unfold Wm12_fails; omega))
  · have e := Option.some.inj h
    subst e
    exact (Fr.rf _ _)
def Wm12_see (c : Nat) : Prop := c = 483
set_option maxHeartbeats 1000000 in
theorem f12_see_38 {F : Nat} {r : Int32 × Mem} : ∀ (σ : Mem), m12_see_38 F σ = some r → Fr (Wm12_see) σ r.2 := by
  intro σ h
  unfold m12_see_38 at h
  rcases g_if h with ⟨hq, h⟩ | ⟨hq, h⟩
  · have e := Option.some.inj h
    subst e
    exact (Fr.rf _ _)
  · have ⟨hg, h⟩ := g_gd h
    have hb := inB_lt hg
    have e := Option.some.inj h
    subst e
    exact (Fr.rf _ _)
set_option maxHeartbeats 1000000 in
theorem f12_see_0 {F : Nat} {r : Int32 × Mem} : ∀ (n : Nat) (σ : Mem), m12_see_0 F n σ = some r → Fr (Wm12_see) σ r.2 := by
  intro n
  induction n with
  | zero => intro σ h; unfold m12_see_0 at h; cases h
  | succ n ih =>
    intro σ h
    unfold m12_see_0 at h
    rcases g_if h with ⟨hq, h⟩ | ⟨hq, h⟩
    · exact Fr.trans (Fr.rf _ _) (f12_see_38 (F := F) _ h)
    · have ⟨hg, h⟩ := g_gd h
      have hb := inB_lt hg
      rcases g_if h with ⟨hq, h⟩ | ⟨hq, h⟩
      · exact Fr.trans (Fr.sI (Fr.rf _ _) (by unfold Wm12_see; omega)) (ih _ h)
      · exact Fr.trans (Fr.rf _ _) (f12_see_38 (F := F) _ h)
set_option maxHeartbeats 1000000 in
theorem f12_see {F : Nat} {σ : Mem} {r : Int32 × Mem} (h : m12_see F  σ = some r) : Fr (Wm12_see) σ r.2 := by
  unfold m12_see at h
  exact (f12_see_0 (F := F) F _ h)
def Wm12_isWord (c : Nat) : Prop := c = 483
set_option maxHeartbeats 1000000 in
theorem f12_isWord_10 {F : Nat} {j1 : Int64} {r : Int32 × Mem} : ∀ (n : Nat) (x3 : Int64) (x5 : Int32) (σ : Mem), m12_isWord_10 F j1 n x3 x5 σ = some r → Fr (Wm12_isWord) σ r.2 := by
  intro n
  induction n with
  | zero => intro x3 x5 σ h; unfold m12_isWord_10 at h; cases h
  | succ n ih =>
    intro x3 x5 σ h
    unfold m12_isWord_10 at h
    have ⟨_, hc1, h⟩ := b_some h
    rcases g_if h with ⟨hq, h⟩ | ⟨hq, h⟩
    · rcases g_if h with ⟨hq, h⟩ | ⟨hq, h⟩
      · have e := Option.some.inj h
        subst e
        exact (Fr.rf _ _)
      · rcases g_if h with ⟨hq, h⟩ | ⟨hq, h⟩
        · have e := Option.some.inj h
          subst e
          exact (Fr.rf _ _)
        · rcases g_if h with ⟨hq, h⟩ | ⟨hq, h⟩
          · have e := Option.some.inj h
            subst e
            exact (Fr.rf _ _)
          · have e := Option.some.inj h
            subst e
            exact (Fr.rf _ _)
    · rcases g_if h with ⟨hq, h⟩ | ⟨hq, h⟩
      · exact Fr.trans (Fr.rf _ _) (ih _ _ _ h)
      · have ⟨hg, h⟩ := g_gd h
        have hb := inB_lt hg
        exact Fr.trans (Fr.rf _ _) (ih _ _ _ h)
set_option maxHeartbeats 1000000 in
theorem f12_isWord {F : Nat} {j1 : Int64} {σ : Mem} {r : Int32 × Mem} (h : m12_isWord F j1 σ = some r) : Fr (Wm12_isWord) σ r.2 := by
  unfold m12_isWord at h
  have ⟨_, hc1, h⟩ := b_some h
  have qhc1 := f12_see hc1
  exact Fr.trans (Fr.trans (Fr.rf _ _) (Fr.mono qhc1 (fun c hw => by unfold Wm12_see at hw; unfold Wm12_isWord; omega))) (f12_isWord_10 (F := F) F _ _ _ h)
def Wm12_passWord (c : Nat) : Prop := c = 483
set_option maxHeartbeats 1000000 in
theorem f12_passWord_0 {F : Nat} {r : Mem} : ∀ (n : Nat) (σ : Mem), m12_passWord_0 F n σ = some r → Fr (Wm12_passWord) σ r := by
  intro n
  induction n with
  | zero => intro σ h; unfold m12_passWord_0 at h; cases h
  | succ n ih =>
    intro σ h
    unfold m12_passWord_0 at h
    have ⟨_, hc1, h⟩ := b_some h
    rcases g_if h with ⟨hq, h⟩ | ⟨hq, h⟩
    · have e := Option.some.inj h
      subst e
      exact (Fr.rf _ _)
    · exact Fr.trans (Fr.sI (Fr.rf _ _) (by unfold Wm12_passWord; omega)) (ih _ h)
set_option maxHeartbeats 1000000 in
theorem f12_passWord {F : Nat} {σ : Mem} {r : Mem} (h : m12_passWord F  σ = some r) : Fr (Wm12_passWord) σ r := by
  unfold m12_passWord at h
  exact (f12_passWord_0 (F := F) F _ h)
def Wm12_takesWord (c : Nat) : Prop := c = 483
set_option maxHeartbeats 1000000 in
theorem f12_takesWord {F : Nat} {j1 : Int64} {σ : Mem} {r : Int32 × Mem} (h : m12_takesWord F j1 σ = some r) : Fr (Wm12_takesWord) σ r.2 := by
  unfold m12_takesWord at h
  have ⟨_, hc1, h⟩ := b_some h
  have qhc1 := f12_isWord hc1
  rcases g_if h with ⟨hq, h⟩ | ⟨hq, h⟩
  · have e := Option.some.inj h
    subst e
    exact (Fr.trans (Fr.rf _ _) (Fr.mono qhc1 (fun c hw => by unfold Wm12_isWord at hw; unfold Wm12_takesWord; omega)))
  · have ⟨_, hc2, h⟩ := b_some h
    have qhc2 := f12_passWord hc2
    have e := Option.some.inj h
    subst e
    exact (Fr.trans (Fr.trans (Fr.rf _ _) (Fr.mono qhc1 (fun c hw => by unfold Wm12_isWord at hw; unfold Wm12_takesWord; omega))) (Fr.mono qhc2 (fun c hw => by unfold Wm12_passWord at hw; unfold Wm12_takesWord; omega)))
def Wm12_numberHere (c : Nat) : Prop := c = 483
set_option maxHeartbeats 1000000 in
theorem f12_numberHere_117 {F : Nat} {i1 : Int32} {i2 : Int32} {r : Int32 × Mem} : ∀ (x3 : Int32) (σ : Mem), m12_numberHere_117 F i1 i2 x3 σ = some r → Fr (Wm12_numberHere) σ r.2 := by
  intro x3 σ h
  unfold m12_numberHere_117 at h
  have ⟨_, hc1, h⟩ := b_some h
  have qhc1 := f12_fails hc1
  rcases g_if h with ⟨hq, h⟩ | ⟨hq, h⟩
  · have e := Option.some.inj h
    subst e
    exact (Fr.trans (Fr.rf _ _) (Fr.mono qhc1 (fun c hw => by unfold Wm12_fails at hw; unfold Wm12_numberHere; omega)))
  · have e := Option.some.inj h
    subst e
    exact (Fr.trans (Fr.rf _ _) (Fr.mono qhc1 (fun c hw => by unfold Wm12_fails at hw; unfold Wm12_numberHere; omega)))
set_option maxHeartbeats 1000000 in
theorem f12_numberHere_34 {F : Nat} {i1 : Int32} {i2 : Int32} {r : Int32 × Mem} : ∀ (n : Nat) (x3 : Int32) (x4 : Int32) (σ : Mem), m12_numberHere_34 F i1 i2 n x3 x4 σ = some r → Fr (Wm12_numberHere) σ r.2 := by
  intro n
  induction n with
  | zero => intro x3 x4 σ h; unfold m12_numberHere_34 at h; cases h
  | succ n ih =>
    intro x3 x4 σ h
    unfold m12_numberHere_34 at h
    have ⟨_, hc1, h⟩ := b_some h
    rcases g_if h with ⟨hq, h⟩ | ⟨hq, h⟩
    · rcases g_if h with ⟨hq, h⟩ | ⟨hq, h⟩
      · exact Fr.trans (Fr.sI (Fr.rf _ _) (by unfold Wm12_numberHere; omega)) (f12_numberHere_117 (F := F) _ _ h)
      · have ⟨_, hc2, h⟩ := b_some h
        rcases g_if h with ⟨hq, h⟩ | ⟨hq, h⟩
        · exact Fr.trans (Fr.sI (Fr.rf _ _) (by unfold Wm12_numberHere; omega)) (f12_numberHere_117 (F := F) _ _ h)
        · have e := Option.some.inj h
          subst e
          exact (Fr.sI (Fr.rf _ _) (by unfold Wm12_numberHere; omega))
    · rcases g_if h with ⟨hq, h⟩ | ⟨hq, h⟩
      · exact Fr.trans (Fr.sI (Fr.rf _ _) (by unfold Wm12_numberHere; omega)) (ih _ _ _ h)
      · have ⟨hg, h⟩ := g_gd h
        have hb := inB_lt hg
        exact Fr.trans (Fr.sI (Fr.rf _ _) (by unfold Wm12_numberHere; omega)) (ih _ _ _ h)
