/-! STATES THAT AGREE BUT FOR SOME CELLS; what a MOMENT keeps -/
def Ag (E : Nat → Nat → Prop) (A A' : Dat) : Prop := ∀ i j, ¬ E i j → A' i j = A i j
theorem Ag.rf (E : Nat → Nat → Prop) (A : Dat) : Ag E A A := fun _ _ _ => rfl
theorem Ag_up {E : Nat → Nat → Prop} {A A' : Dat} (h : Ag E A A') (i j : Nat) {v v' : Int} (hv : v = v') : Ag E (up A i j v) (up A' i j v') := fun a b hE => by
  rw [up_at, up_at, hv]
  split
  · rfl
  · exact h a b hE
theorem Ag_upE {E : Nat → Nat → Prop} {A A' : Dat} (h : Ag E A A') {i j : Nat} {v : Int} (hE : E i j) : Ag E A (up A' i j v) := fun a b hn => by
  rw [up_at, if_neg (show ¬ (a = i ∧ b = j) from fun z => hn (by rw [z.1, z.2]; exact hE))]
  exact h a b hn
theorem heatA_ag {E : Nat → Nat → Prop} {P A A' : Dat} {K : Nat → Int} {p j : Nat} (h : Ag E A A') (h1 : ¬ E 1 p) (h4 : ¬ E 4 p) : Ag E (heatA P A K p j) (heatA P A' K p j) := by
  have e1 := h 1 p h1
  have e4 := h 4 p h4
  unfold heatA
  rw [e1, e4]
  split
  · split
    · exact Ag_up (Ag_up h _ _ rfl) _ _ rfl
    · exact Ag_up (Ag_up (Ag_up (Ag_up (Ag_up h _ _ rfl) _ _ rfl) _ _ rfl) _ _ rfl) _ _ rfl
  · split
    · exact Ag_up h _ _ rfl
    · exact Ag_up (Ag_up (Ag_up (Ag_up h _ _ rfl) _ _ rfl) _ _ rfl) _ _ rfl
theorem heatK_ag {P A A' : Dat} {K : Nat → Int} {p : Nat} (h : A' 1 p = A 1 p) : heatK P A' K p = heatK P A K p := by
  unfold heatK; rw [h]
theorem strikeA_ag {E : Nat → Nat → Prop} {P A A' : Dat} {K : Nat → Int} {p j : Nat} (h : Ag E A A') (h1 : ¬ E 1 p) (h3 : ¬ E 3 p) (h5 : ¬ E 5 p) (h6 : ¬ E 6 j) (h0 : ¬ E 0 0) (h10 : ¬ E 10 p) : Ag E (strikeA P A K p j) (strikeA P A' K p j) := by
  unfold strikeA
  simp only [h 1 p h1, h 3 p h3, h 5 p h5, h 6 j h6, h 0 0 h0, h 10 p h10]
  split
  · exact Ag_up (Ag_up (Ag_up h _ _ rfl) _ _ rfl) _ _ rfl
  · split
    · split
      · exact Ag_up (Ag_up (Ag_up (Ag_up (Ag_up (Ag_up (Ag_up h _ _ rfl) _ _ rfl) _ _ rfl) _ _ rfl) _ _ rfl) _ _ rfl) _ _ rfl
      · exact Ag_up (Ag_up (Ag_up h _ _ rfl) _ _ rfl) _ _ rfl
    · exact Ag_up (Ag_up h _ _ rfl) _ _ rfl
theorem strikeK_ag {P A A' : Dat} {K : Nat → Int} {p j : Nat} (h : A' 1 p = A 1 p) : strikeK P A' K p j = strikeK P A K p j := by
  unfold strikeK; rw [h]
theorem waitA_ag {E : Nat → Nat → Prop} {P A A' : Dat} {p : Nat} (h : Ag E A A') (h1 : ¬ E 1 p) (h2 : ¬ E 2 p) : Ag E (waitA P A p) (waitA P A' p) := by
  unfold waitA
  rw [h 1 p h1, h 2 p h2]
  exact Ag_up (Ag_up h _ _ rfl) _ _ rfl
/-- cells that no SMITH with a JOB looks at -/
def Ex (J : Nat → Int) (E : Nat → Nat → Prop) : Prop := ∀ i j, E i j → (i = 2 ∧ J j = -1) ∨ i = 8 ∨ 11 ≤ i
theorem okT_ag {E : Nat → Nat → Prop} {P A A' : Dat} {K T : Nat → Int} {j : Nat} {J : Nat → Int} (h : Ag E A A') (hE : Ex J E) : okT P A' K T j = okT P A K T j :=
  okT_row (fun k => h 9 k (fun z => by have := hE 9 k z; omega)) rfl
theorem bitsN_ag {E : Nat → Nat → Prop} {P A A' : Dat} {K T : Nat → Int} {j : Nat} {J : Nat → Int} (h : Ag E A A') (hE : Ex J E) : bitsN P A' K T j = bitsN P A K T j :=
  bitsN_row (fun k => h 9 k (fun z => by have := hE 9 k z; omega)) rfl
theorem stepS_ag {E : Nat → Nat → Prop} {P : Dat} {J : Nat → Int} {Wl : Nat → Bool} {p : Nat} {s s' : WS} (hE : Ex J E) (h : Ag E s.1 s'.1) (h2 : s'.2 = s.2) : Ag E (stepS P J Wl p s).1 (stepS P J Wl p s').1 ∧ (stepS P J Wl p s').2 = (stepS P J Wl p s).2 := by
  by_cases hj : J p = -1
  · rw [st_none hj, st_none hj]; exact ⟨h, h2⟩
  · have no : ∀ i j, i ≠ 8 → i < 11 → (i = 2 → j = p) → ¬ E i j := fun i j h8 h11 hi z => by
      rcases hE i j z with q | q | q
      · exact hj ((hi q.1) ▸ q.2)
      · exact h8 q
      · omega
    have e2 : s'.2.1 = s.2.1 := by rw [h2]
    have e3 : s'.2.2 = s.2.2 := by rw [h2]
    have e1 : s'.1 1 p = s.1 1 p := h 1 p (no 1 p (by decide) (by decide) (by omega))
    by_cases hw : Wl p = true
    · have eo : okT P s'.1 s'.2.1 s'.2.2 (J p).toNat = okT P s.1 s.2.1 s.2.2 (J p).toNat := by rw [e2, e3]; exact okT_ag h hE
      have eb : bitsN P s'.1 s'.2.1 s'.2.2 (J p).toNat = bitsN P s.1 s.2.1 s.2.2 (J p).toNat := by rw [e2, e3]; exact bitsN_ag h hE
      by_cases ho : okT P s.1 s.2.1 s.2.2 (J p).toNat = true
      · rw [st_strike hj hw ho, st_strike hj hw (eo.trans ho), eb, e2, e3, strikeK_ag e1]
        exact ⟨strikeA_ag h (no _ _ (by decide) (by decide) (by omega)) (no _ _ (by decide) (by decide) (by omega)) (no _ _ (by decide) (by decide) (by omega)) (no _ _ (by decide) (by decide) (by omega)) (no _ _ (by decide) (by decide) (by omega)) (no _ _ (by decide) (by decide) (by omega)), rfl⟩
      · have ho : okT P s.1 s.2.1 s.2.2 (J p).toNat = false := by simpa using ho
        rw [st_wait hj hw ho, st_wait hj hw (eo.trans ho), e2, e3]
        exact ⟨waitA_ag h (no _ _ (by decide) (by decide) (by omega)) (no _ _ (by decide) (by decide) (by omega)), rfl⟩
    · have hw : Wl p = false := by simpa using hw
      rw [st_heat hj hw, st_heat hj hw, e2, e3, heatK_ag e1]
      exact ⟨heatA_ag h (no _ _ (by decide) (by decide) (by omega)) (no _ _ (by decide) (by decide) (by omega)), rfl⟩
theorem turnS_ag {E : Nat → Nat → Prop} {P : Dat} {J : Nat → Int} {Wl : Nat → Bool} {p : Nat} {s s' : WS} (hE : Ex J E) (h : Ag E s.1 s'.1) (h2 : s'.2 = s.2) : turnS P J Wl p s' = turnS P J Wl p s := by
  unfold turnS
  rw [h2, okT_ag h hE, bitsN_ag h hE]
theorem hitS_ag {E : Nat → Nat → Prop} {P : Dat} {J : Nat → Int} {Wl : Nat → Bool} {p : Nat} {s s' : WS} (hE : Ex J E) (h : Ag E s.1 s'.1) (h2 : s'.2 = s.2) : hitS P J Wl p s' = hitS P J Wl p s := by
  unfold hitS
  rw [h2, okT_ag h hE, h 1 p (fun z => by have := hE 1 p z; omega)]
theorem workS_ag {E : Nat → Nat → Prop} {P : Dat} {J : Nat → Int} {Wl : Nat → Bool} (hE : Ex J E) : ∀ (d p : Nat) (s s' : WS), Ag E s.1 s'.1 → s'.2 = s.2 → Ag E (workS P J Wl d p s).1 (workS P J Wl d p s').1 ∧ (workS P J Wl d p s').2 = (workS P J Wl d p s).2
  | 0, _, _, _, h, h2 => ⟨h, h2⟩
  | d + 1, p, s, s', h, h2 => workS_ag hE d (p + 1) _ _ (stepS_ag hE h h2).1 (stepS_ag hE h h2).2
theorem stepR_ag {E : Nat → Nat → Prop} {P : Dat} {J : Nat → Int} {Wl : Nat → Bool} {p : Nat} {s s' : WS} (hE : Ex J E) (hn : ∀ q, J q = -1 → E 2 q) (h : Ag E s.1 s'.1) (h2 : s'.2 = s.2) : Ag E (stepS P J Wl p s).1 (stepR P J Wl p s').1 ∧ (stepR P J Wl p s').2 = (stepS P J Wl p s).2 := by
  unfold stepR
  by_cases hj : J p = -1
  · rw [if_pos hj, st_none hj]
    refine ⟨?_, h2⟩
    dsimp only
    split
    · exact Ag_upE h (hn p hj)
    · exact h
  · rw [if_neg hj]; exact stepS_ag hE h h2
theorem workR_ag {E : Nat → Nat → Prop} {P : Dat} {J : Nat → Int} {Wl : Nat → Bool} (hE : Ex J E) (hn : ∀ q, J q = -1 → E 2 q) : ∀ (d p : Nat) (s s' : WS), Ag E s.1 s'.1 → s'.2 = s.2 → Ag E (workS P J Wl d p s).1 (workR P J Wl d p s').1 ∧ (workR P J Wl d p s').2 = (workS P J Wl d p s).2
  | 0, _, _, _, h, h2 => ⟨h, h2⟩
  | d + 1, p, s, s', h, h2 => workR_ag hE hn d (p + 1) _ _ (stepR_ag hE hn h h2).1 (stepR_ag hE hn h h2).2
theorem workS_succ {P : Dat} {J : Nat → Int} {Wl : Nat → Bool} : ∀ (d p : Nat) (s : WS), workS P J Wl (d + 1) p s = stepS P J Wl (p + d) (workS P J Wl d p s)
  | 0, p, s => rfl
  | d + 1, p, s => by
    show workS P J Wl (d + 1) (p + 1) (stepS P J Wl p s) = _
    rw [workS_succ d (p + 1) (stepS P J Wl p s), show p + 1 + d = p + (d + 1) by omega]; rfl
theorem workR_succ {P : Dat} {J : Nat → Int} {Wl : Nat → Bool} : ∀ (d p : Nat) (s : WS), workR P J Wl (d + 1) p s = stepR P J Wl (p + d) (workR P J Wl d p s)
  | 0, p, s => rfl
  | d + 1, p, s => by
    show workR P J Wl (d + 1) (p + 1) (stepR P J Wl p s) = _
    rw [workR_succ d (p + 1) (stepR P J Wl p s), show p + 1 + d = p + (d + 1) by omega]; rfl
/-! what a MOMENT keeps of a state -/
def WfB (P : Dat) : Prop := (∀ j : Nat, (j : Int) < P 0 5 → 1 ≤ P 5 j) ∧ (∀ p : Nat, (p : Int) < P 0 4 → 0 ≤ P 1 p) ∧ 0 ≤ P 0 1 ∧ 0 ≤ P 0 2
def JOk (P A : Dat) (J : Nat → Int) : Prop := ∀ p, J p = -1 ∨ (0 ≤ J p ∧ J p < P 0 5 ∧ P 2 (J p).toNat = p ∧ 0 < A 6 (J p).toNat)
theorem WfA_heat {P A : Dat} {K : Nat → Int} {p j : Nat} (wA : WfA P A) (wB : WfB P) (hp : (p : Int) < P 0 4) (hj : (j : Int) < P 0 5) (hl : 0 < A 6 j) : WfA P (heatA P A K p j) := by
  obtain ⟨a, b, c⟩ := wA
  have hb := b p hp
  have hq := wB.2.1 p hp
  have h5 := wB.1 j hj
  refine ⟨fun q hq' => ?_, fun q hq' => ?_, fun k hk => by rw [heatA_9]; exact c k hk⟩
  · have aq := a q hq'
    have aj := a j hj
    unfold heatA
    split <;> split <;> simp only [up_at] <;> by_cases hqj : q = j <;> simp [hqj] <;> (try subst hqj) <;> (try constructor) <;> omega
  · have bq := b q hq'
    unfold heatA
    split <;> split <;> simp only [up_at] <;> by_cases hqp : q = p <;> simp [hqp] <;> (try subst hqp) <;> omega
theorem WfA_wait {P A : Dat} {p : Nat} (wA : WfA P A) (wB : WfB P) (hp : (p : Int) < P 0 4) : WfA P (waitA P A p) := by
  obtain ⟨a, b, c⟩ := wA
  have hb := b p hp
  have h1 := wB.2.2.1
  have h2 := wB.2.2.2
  refine ⟨fun q hq' => ?_, fun q hq' => ?_, fun k hk => by rw [waitA_9]; exact c k hk⟩
  · have aq := a q hq'
    unfold waitA
    simpa [up_at] using aq
  · have bq := b q hq'
    unfold waitA
    simp only [up_at]
    by_cases hqp : q = p
    · subst hqp; simp; omega
    · simp [hqp]; omega
theorem WfA_strike {P A : Dat} {K : Nat → Int} {p j : Nat} (wA : WfA P A) (wB : WfB P) (hp : (p : Int) < P 0 4) (hj : (j : Int) < P 0 5) (hl : 0 < A 6 j) (h0 : 0 ≤ A 0 0) : WfA P (strikeA P A K p j) := by
  obtain ⟨a, b, c⟩ := wA
  have hb := b p hp
  have h1 := wB.2.2.1
  have h2 := wB.2.2.2
  refine ⟨fun q hq' => ?_, fun q hq' => ?_, fun k hk => by rw [strikeA_9]; exact c k hk⟩
  · have aq := a q hq'
    have aj := a j hj
    unfold strikeA
    simp only []
    split
    · simpa [up_at] using aq
    · split
      · split
        · by_cases hqj : q = j
          · subst hqj; simp [up_at]; omega
          · simpa [up_at, hqj] using aq
        · by_cases hqj : q = j
          · subst hqj; simp [up_at]; omega
          · simpa [up_at, hqj] using aq
      · simpa [up_at] using aq
  · have bq := b q hq'
    unfold strikeA
    simp only []
    split
    · by_cases hqp : q = p
      · subst hqp; simp [up_at]; omega
      · simpa [up_at, hqp] using bq
    · split
      · split
        · by_cases hqp : q = p
          · subst hqp; simp [up_at]; omega
          · simpa [up_at, hqp] using bq
        · by_cases hqp : q = p
          · subst hqp; simp [up_at]; omega
          · simpa [up_at, hqp] using bq
      · by_cases hqp : q = p
        · subst hqp; simp [up_at]; omega
        · simpa [up_at, hqp] using bq
theorem stepS_wf {P : Dat} {J : Nat → Int} {Wl : Nat → Bool} {p : Nat} {s : WS} (wA : WfA P s.1) (wB : WfB P) (wJ : WfJ P) (hJ : J p = -1 ∨ (0 ≤ J p ∧ J p < P 0 5 ∧ P 2 (J p).toNat = p ∧ 0 < s.1 6 (J p).toNat)) (h0 : 0 ≤ s.1 0 0) : WfA P (stepS P J Wl p s).1 := by
  by_cases hj : J p = -1
  · rw [st_none hj]; exact wA
  · obtain ⟨h1, h2, h3, h4⟩ := hJ.resolve_left hj
    have hjm : (((J p).toNat : Nat) : Int) < P 0 5 := by omega
    have hp : (p : Int) < P 0 4 := by rw [← h3]; exact (wJ _ hjm).2.2
    by_cases hw : Wl p = true
    · by_cases ho : okT P s.1 s.2.1 s.2.2 (J p).toNat = true
      · rw [st_strike hj hw ho]; exact WfA_strike wA wB hp hjm h4 h0
      · rw [st_wait hj hw (by simpa using ho)]; exact WfA_wait wA wB hp
    · rw [st_heat hj (by simpa using hw)]; exact WfA_heat wA wB hp hjm h4
theorem strikeA_0 {P A : Dat} {K : Nat → Int} {p j : Nat} : strikeA P A K p j 0 0 = A 0 0 := by
  unfold strikeA
  simp only []
  split
  · simp [up_at]
  · split
    · split <;> simp [up_at]
    · simp [up_at]
theorem stepS_0 {P : Dat} {J : Nat → Int} {Wl : Nat → Bool} {p : Nat} {s : WS} : (stepS P J Wl p s).1 0 0 = s.1 0 0 := by
  unfold stepS
  split
  · rfl
  · split
    · split
      · exact strikeA_0
      · simp [waitA, up_at]
    · show heatA _ _ _ _ _ 0 0 = _
      unfold heatA
      split <;> split <;> simp [up_at]
/-- a SMITH's JOB is theirs alone: what another does leaves it -/
theorem JOk_step {P : Dat} {J : Nat → Int} {Wl : Nat → Bool} {p q : Nat} {s : WS} (hJ : JOk P s.1 J) (hq : q ≠ p) (hjq : J q ≠ -1) : (stepS P J Wl p s).1 6 (J q).toNat = s.1 6 (J q).toNat := by
  refine stepS_6 ?_
  by_cases hj : J p = -1
  · exact Or.inl hj
  · refine Or.inr (fun e => hq ?_)
    have a := (hJ p).resolve_left hj
    have b := (hJ q).resolve_left hjq
    have : (q : Int) = (p : Int) := by rw [← b.2.2.1, ← a.2.2.1, e]
    omega
