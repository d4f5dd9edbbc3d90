/-! WHAT A MOMENT GIVES AND KEEPS -/
theorem stepS_K11 {P : Dat} {J : Nat → Int} {Wl : Nat → Bool} {p : Nat} {s : WS} : (stepS P J Wl p s).2.1 11 = s.2.1 11 + hitS P J Wl p s := by
  by_cases hj : J p = -1
  · rw [st_none hj]; unfold hitS; rw [if_pos hj, Int.add_zero]
  · by_cases hw : Wl p = true
    · by_cases ho : okT P s.1 s.2.1 s.2.2 (J p).toNat = true
      · rw [st_strike hj hw ho]
        unfold hitS
        rw [if_neg hj, if_pos hw, if_pos ho]
        show strikeK P s.1 s.2.1 p (J p).toNat 11 = _
        unfold strikeK
        by_cases hc : s.1 1 p < P 6 (J p).toNat
        · rw [if_pos hc, if_pos hc, Int.add_zero]
        · rw [if_neg hc, if_neg hc, upK_lo (by decide)]; exact if_pos rfl
      · rw [st_wait hj hw (by simpa using ho)]
        unfold hitS
        rw [if_neg hj, if_pos hw, if_neg ho, Int.add_zero]
    · rw [st_heat hj (by simpa using hw)]
      unfold hitS
      rw [if_neg hj, if_neg hw, Int.add_zero]
      show heatK P s.1 s.2.1 p 11 = _
      unfold heatK
      by_cases hc : (if s.2.1 5 = 0 then s.1 1 p + P 1 p else s.1 1 p) ≤ P 0 2
      · rw [if_pos hc]
      · rw [if_neg hc, upK_lo (by decide)]
theorem workS_K11 {P : Dat} {J : Nat → Int} {Wl : Nat → Bool} : ∀ (d p : Nat) (s : WS), (workS P J Wl d p s).2.1 11 = s.2.1 11 + hitL P J Wl d p s
  | 0, p, s => by unfold hitL; rw [Int.add_zero]; rfl
  | d + 1, p, s => by
    show (workS P J Wl d (p + 1) (stepS P J Wl p s)).2.1 11 = s.2.1 11 + (hitS P J Wl p s + hitL P J Wl d (p + 1) (stepS P J Wl p s))
    rw [workS_K11 d (p + 1), stepS_K11]; omega
theorem hitS_01 {P : Dat} {J : Nat → Int} {Wl : Nat → Bool} {p : Nat} {s : WS} : hitS P J Wl p s = 0 ∨ hitS P J Wl p s = 1 := by
  unfold hitS
  split
  · exact Or.inl rfl
  · split
    · split
      · split
        · exact Or.inl rfl
        · exact Or.inr rfl
      · exact Or.inl rfl
    · exact Or.inl rfl
theorem stepS_K12 {P : Dat} {J : Nat → Int} {Wl : Nat → Bool} {p : Nat} {s : WS} : (stepS P J Wl p s).2.1 12 = if hitS P J Wl p s = 1 then orS (s.2.1 12) p else s.2.1 12 := by
  by_cases hj : J p = -1
  · rw [st_none hj]; unfold hitS; rw [if_pos hj]; rfl
  · by_cases hw : Wl p = true
    · by_cases ho : okT P s.1 s.2.1 s.2.2 (J p).toNat = true
      · rw [st_strike hj hw ho]
        unfold hitS
        rw [if_neg hj, if_pos hw, if_pos ho]
        show strikeK P s.1 s.2.1 p (J p).toNat 12 = _
        unfold strikeK
        by_cases hc : s.1 1 p < P 6 (J p).toNat
        · rw [if_pos hc, if_pos hc]; rfl
        · rw [if_neg hc, if_neg hc]; exact if_pos rfl
      · rw [st_wait hj hw (by simpa using ho)]
        unfold hitS
        rw [if_neg hj, if_pos hw, if_neg ho]; rfl
    · rw [st_heat hj (by simpa using hw)]
      unfold hitS
      rw [if_neg hj, if_neg hw]
      show heatK P s.1 s.2.1 p 12 = _
      unfold heatK
      by_cases hc : (if s.2.1 5 = 0 then s.1 1 p + P 1 p else s.1 1 p) ≤ P 0 2
      · rw [if_pos hc]; rfl
      · rw [if_neg hc, upK_lo (by decide)]; rfl
/-- is one BURNT -/
def burS (P : Dat) (J : Nat → Int) (Wl : Nat → Bool) (p : Nat) (s : WS) : Int :=
  if J p = -1 then 0 else if Wl p then 0 else if (if s.2.1 5 = 0 then s.1 1 p + P 1 p else s.1 1 p) ≤ P 0 2 then 0 else 1
theorem stepS_K13 {P : Dat} {J : Nat → Int} {Wl : Nat → Bool} {p : Nat} {s : WS} : (stepS P J Wl p s).2.1 13 = s.2.1 13 + burS P J Wl p s := by
  unfold burS
  by_cases hj : J p = -1
  · rw [st_none hj, if_pos hj, Int.add_zero]
  · rw [if_neg hj]
    by_cases hw : Wl p = true
    · rw [if_pos hw, Int.add_zero]
      by_cases ho : okT P s.1 s.2.1 s.2.2 (J p).toNat = true
      · rw [st_strike hj hw ho]
        show strikeK P s.1 s.2.1 p (J p).toNat 13 = _
        unfold strikeK
        split
        · rfl
        · rw [upK_lo (by decide), upK_lo (by decide)]
      · rw [st_wait hj hw (by simpa using ho)]
    · rw [st_heat hj (by simpa using hw), if_neg hw]
      show heatK P s.1 s.2.1 p 13 = _
      unfold heatK
      by_cases hc : (if s.2.1 5 = 0 then s.1 1 p + P 1 p else s.1 1 p) ≤ P 0 2
      · rw [if_pos hc, if_pos hc, Int.add_zero]
      · rw [if_neg hc, if_neg hc]; exact if_pos rfl
theorem stepS_4 {P : Dat} {J : Nat → Int} {Wl : Nat → Bool} {p q : Nat} {s : WS} : (stepS P J Wl p s).1 4 q = s.1 4 q + (if q = p then burS P J Wl p s else 0) := by
  unfold burS
  by_cases hj : J p = -1
  · rw [st_none hj, if_pos hj]; split <;> omega
  · rw [if_neg hj]
    by_cases hw : Wl p = true
    · rw [if_pos hw]
      have e : (stepS P J Wl p s).1 4 q = s.1 4 q := by
        by_cases ho : okT P s.1 s.2.1 s.2.2 (J p).toNat = true
        · rw [st_strike hj hw ho]
          show strikeA P s.1 s.2.1 p (J p).toNat 4 q = _
          unfold strikeA
          simp only []
          split
          · simp [up_at]
          · split
            · split <;> simp [up_at]
            · simp [up_at]
        · rw [st_wait hj hw (by simpa using ho)]
          simp [waitA, up_at]
      rw [e]; split <;> omega
    · rw [st_heat hj (by simpa using hw), if_neg hw]
      show heatA P s.1 s.2.1 p (J p).toNat 4 q = _
      unfold heatA
      by_cases h5 : s.2.1 5 = 0
      · rw [if_pos h5, if_pos h5]
        by_cases hc : s.1 1 p + P 1 p ≤ P 0 2
        · rw [if_pos hc, if_pos hc]; simp [up_at]
        · rw [if_neg hc, if_neg hc]
          by_cases hq : q = p <;> simp [up_at, hq]
      · rw [if_neg h5, if_neg h5]
        by_cases hc : s.1 1 p ≤ P 0 2
        · rw [if_pos hc, if_pos hc]; simp [up_at]
        · rw [if_neg hc, if_neg hc]
          by_cases hq : q = p <;> simp [up_at, hq]
/-- what one SMITH does leaves the others' numbers -/
theorem stepS_oth {P : Dat} {J : Nat → Int} {Wl : Nat → Bool} {p q i : Nat} {s : WS} (hi : (1 ≤ i ∧ i ≤ 5) ∨ i = 10) (hq : q ≠ p) : (stepS P J Wl p s).1 i q = s.1 i q := by
  have h6 : i ≠ 6 := by omega
  have h7 : i ≠ 7 := by omega
  unfold stepS
  split
  · rfl
  · split
    · split
      · show strikeA P s.1 s.2.1 p (J p).toNat i q = _
        unfold strikeA
        simp only []
        split
        · simp [up_at, hq]
        · split
          · split <;> simp [up_at, hq, h6, h7]
          · simp [up_at, hq]
      · simp [waitA, up_at, hq]
    · show heatA P s.1 s.2.1 p (J p).toNat i q = _
      unfold heatA
      split <;> split <;> simp [up_at, hq, h6]
theorem stepS_own {P : Dat} {J : Nat → Int} {Wl : Nat → Bool} {p : Nat} {s : WS} (hj : J p ≠ -1) (hl : 0 < s.1 6 (J p).toNat) : (stepS P J Wl p s).1 2 p = 0 ∨ 0 < (stepS P J Wl p s).1 6 (J p).toNat := by
  by_cases hw : Wl p = true
  · by_cases ho : okT P s.1 s.2.1 s.2.2 (J p).toNat = true
    · rw [st_strike hj hw ho]
      refine Or.inl ?_
      show strikeA P s.1 s.2.1 p (J p).toNat 2 p = _
      unfold strikeA
      simp only []
      split
      · simp [up_at]
      · split
        · split <;> simp [up_at]
        · simp [up_at]
    · rw [st_wait hj hw (by simpa using ho)]
      exact Or.inr (by simpa [waitA, up_at] using hl)
  · rw [st_heat hj (by simpa using hw)]
    refine Or.inl ?_
    show heatA P s.1 s.2.1 p (J p).toNat 2 p = _
    unfold heatA
    split <;> split <;> simp [up_at]
theorem workS_oth {P : Dat} {J : Nat → Int} {Wl : Nat → Bool} {q i : Nat} (hi : (1 ≤ i ∧ i ≤ 5) ∨ i = 10) : ∀ (d p : Nat) (s : WS), (q < p ∨ p + d ≤ q) → (workS P J Wl d p s).1 i q = s.1 i q
  | 0, _, _, _ => rfl
  | d + 1, p, s, h => (workS_oth hi d (p + 1) (stepS P J Wl p s) (by omega)).trans (stepS_oth hi (by omega))
theorem workS_6 {P : Dat} {J : Nat → Int} {Wl : Nat → Bool} {k : Nat} : ∀ (d p : Nat) (s : WS), (∀ q, p ≤ q → q < p + d → J q = -1 ∨ k ≠ (J q).toNat) → (workS P J Wl d p s).1 6 k = s.1 6 k
  | 0, _, _, _ => rfl
  | d + 1, p, s, h => (workS_6 d (p + 1) (stepS P J Wl p s) (fun q h1 h2 => h q (by omega) (by omega))).trans (stepS_6 (h p (Nat.le_refl _) (by omega)))
theorem workS_8 {P : Dat} {J : Nat → Int} {Wl : Nat → Bool} {k : Nat} : ∀ (d p : Nat) (s : WS), (workS P J Wl d p s).1 8 k = s.1 8 k
  | 0, _, _ => rfl
  | d + 1, p, s => (workS_8 d (p + 1) (stepS P J Wl p s)).trans stepS_8
theorem workS_0 {P : Dat} {J : Nat → Int} {Wl : Nat → Bool} : ∀ (d p : Nat) (s : WS), (workS P J Wl d p s).1 0 0 = s.1 0 0
  | 0, _, _ => rfl
  | d + 1, p, s => (workS_0 d (p + 1) (stepS P J Wl p s)).trans stepS_0
theorem jobL_some {P A : Dat} {p : Int} : ∀ (d j : Nat) (f : Int), -1 ≤ f → (0 ≤ f ∨ ∃ k, j ≤ k ∧ k < j + d ∧ opn P A p k = true) → 0 ≤ jobL P A p d j f
  | 0, j, f, h, h2 => by
    rcases h2 with h2 | ⟨k, h3, h4, -⟩
    · exact h2
    · omega
  | d + 1, j, f, h, h2 => by
    unfold jobL
    by_cases hc : (opn P A p j && (decide (f = -1) || decide (A 8 j < A 8 f.toNat))) = true
    · rw [if_pos hc]
      exact jobL_some d (j + 1) j (by omega) (Or.inl (by omega))
    · rw [if_neg hc]
      refine jobL_some d (j + 1) f h ?_
      rcases h2 with h2 | ⟨k, h3, h4, h5⟩
      · exact Or.inl h2
      · rcases Nat.lt_or_ge j k with z | z
        · exact Or.inr ⟨k, by omega, by omega, h5⟩
        · have : k = j := by omega
          subst this
          refine Or.inl ?_
          rw [h5, Bool.true_and] at hc
          simp only [Bool.or_eq_true, decide_eq_true_eq] at hc
          omega
theorem jobN_some {P A : Dat} {p : Int} {m : Nat} (hm : P 0 5 = (m : Int)) {k : Nat} (hk : k < m) (ho : opn P A p k = true) : jobN P A p ≠ -1 := by
  unfold jobN
  rw [hm, Int.toNat_natCast]
  have := jobL_some (P := P) (A := A) (p := p) m 0 (-1) (by decide) (Or.inr ⟨k, by omega, by omega, ho⟩)
  omega
/-- the state in a look ahead, t MOMENTS on at most -/
def WfI (P A : Dat) (t : Nat) : Prop := WfA P A ∧ 0 ≤ A 0 0 ∧ A 0 0 ≤ t ∧ Bd (100000 + 10000 * t) A ∧ (∀ p : Nat, (p : Int) < P 0 4 → jobN P A p = -1 → A 2 p = 0) ∧ A 9 3 ≤ t
theorem workS_wf {P : Dat} {J : Nat → Int} {Wl : Nat → Bool} (wB : WfB P) (wJ : WfJ P) : ∀ (d p : Nat) (s : WS), WfA P s.1 → 0 ≤ s.1 0 0 → (∀ q : Nat, p ≤ q → J q = -1 ∨ (0 ≤ J q ∧ J q < P 0 5 ∧ P 2 (J q).toNat = q ∧ 0 < s.1 6 (J q).toNat)) → WfA P (workS P J Wl d p s).1
  | 0, _, _, h, _, _ => h
  | d + 1, p, s, h, h0, hJ => workS_wf wB wJ d (p + 1) (stepS P J Wl p s) (stepS_wf h wB wJ (hJ p (Nat.le_refl _)) h0) (by rw [stepS_0]; exact h0) (fun q hq => by
      by_cases hj : J q = -1
      · exact Or.inl hj
      · have a := (hJ q (by omega)).resolve_left hj
        refine Or.inr ⟨a.1, a.2.1, a.2.2.1, ?_⟩
        rw [stepS_6]
        · exact a.2.2.2
        · by_cases hp : J p = -1
          · exact Or.inl hp
          · refine Or.inr (fun e => ?_)
            have b := ((hJ p (Nat.le_refl _)).resolve_left hp).2.2.1
            rw [← e, a.2.2.1] at b
            omega)
theorem wearL_wf {P : Dat} {T : Nat → Int} : ∀ (d k : Nat) (A : Dat), k + d ≤ 4 → WfA P A → WfA P (wearL T d k A)
  | 0, _, _, _, h => h
  | d + 1, k, A, hk, h => by
    unfold wearL
    refine wearL_wf d (k + 1) _ (by omega) ?_
    split
    · exact h
    · split
      · exact h
      · have b := h.2.2 k (by omega)
        refine ⟨fun q hq => ?_, fun q hq => ?_, fun c hc => ?_⟩
        · rw [up_at, up_at, if_neg (by omega), if_neg (by omega)]; exact h.1 q hq
        · rw [up_at, if_neg (by omega)]; exact h.2.1 q hq
        · rw [up_at]
          split
          · omega
          · exact h.2.2 c hc
theorem wearL_le {T : Nat → Int} {q : Nat} : ∀ (d k : Nat) (A : Dat), wearL T d k A 9 q ≤ A 9 q + 1
  | 0, _, A => by show A 9 q ≤ A 9 q + 1; omega
  | d + 1, k, A => by
    unfold wearL
    by_cases hq : q = k
    · subst hq
      rw [wearL_lo d (q + 1) _ (by omega)]
      split
      · omega
      · split
        · omega
        · rw [up_eq]; omega
    · have := wearL_le (T := T) (q := q) d (k + 1) (if T k = -1 then A else if 9999 ≤ A 9 k then A else up A 9 k (A 9 k + 1))
      refine Int.le_trans this ?_
      split
      · omega
      · split
        · omega
        · rw [up_at, if_neg (by omega)]; omega
theorem passA_row {P : Dat} {K : Nat → Int} {ro : Option Dat} {A : Dat} {i q : Nat} (h0 : i ≠ 0 ∨ q ≠ 0) (h9 : i ≠ 9) : passA P K ro A i q = (passW P K ro A).1 i q := by
  unfold passA
  try dsimp only
  rw [up_at, if_neg (by omega), wearL_lo 4 0 _ (Or.inl h9)]
theorem passA_0 {P : Dat} {K : Nat → Int} {ro : Option Dat} {A : Dat} : passA P K ro A 0 0 = min 9999 (A 0 0 + 1) := by
  unfold passA
  try dsimp only
  rw [up_eq, wearL_lo 4 0 _ (Or.inl (by decide))]
  show min 9999 ((passW P K ro A).1 0 0 + 1) = _
  unfold passW
  rw [workS_0]
theorem passA_norm {P : Dat} {K : Nat → Int} {ro : Option Dat} {A : Dat} {p : Nat} (wP : WfP P) (hp : (p : Int) < P 0 4) (hK2 : (p : Int) ≠ K 2) (hn : jobN P A p = -1 → A 2 p = 0) (hjp : jobN P (passA P K ro A) p = -1) : passA P K ro A 2 p = 0 := by
  have w2 := wP
  obtain ⟨bP, ⟨m, hm, hm8⟩, ⟨n, hn', hn3⟩, -⟩ := w2
  have hj : ∀ q : Nat, jbs P A K q = -1 ∨ (0 ≤ jbs P A K q ∧ jbs P A K q < P 0 5 ∧ P 2 (jbs P A K q).toNat = q ∧ 0 < A 6 (jbs P A K q).toNat) := fun q => jbs_lt wP q
  have hjn : jbs P A K p = jobN P A p := by unfold jbs; rw [if_neg hK2]
  have r6 : ∀ j, passA P K ro A 6 j = (passW P K ro A).1 6 j := fun j => passA_row (Or.inl (by decide)) (by decide)
  rw [passA_row (Or.inl (by decide)) (by decide)]
  unfold passW
  have hp3 : p < 3 := by omega
  by_cases hjq : jbs P A K p = -1
  · have e1 : (workS P (jbs P A K) (wlN P A K ro (jbs P A K)) 3 0 (A, K0 K, fun _ => -1)).1 2 p = A 2 p := by
      rcases (show p = 0 ∨ p = 1 ∨ p = 2 by omega) with rfl | rfl | rfl
      · show (workS P (jbs P A K) (wlN P A K ro (jbs P A K)) 2 1 (stepS P (jbs P A K) (wlN P A K ro (jbs P A K)) 0 _)).1 2 0 = _
        rw [workS_oth (by omega) 2 1 _ (by omega), st_none hjq]
      · show (workS P (jbs P A K) (wlN P A K ro (jbs P A K)) 1 2 (stepS P (jbs P A K) (wlN P A K ro (jbs P A K)) 1 _)).1 2 1 = _
        rw [workS_oth (by omega) 1 2 _ (by omega), st_none hjq, stepS_oth (by omega) (by decide)]
      · show (stepS P (jbs P A K) (wlN P A K ro (jbs P A K)) 2 _).1 2 2 = _
        rw [st_none hjq, stepS_oth (by omega) (by decide), stepS_oth (by omega) (by decide)]
    rw [e1]
    exact hn (by rw [← hjn]; exact hjq)
  · have a := (hj p).resolve_left hjq
    have key : ∀ (a b : Nat), a + 1 + b = 3 → a = p → (workS P (jbs P A K) (wlN P A K ro (jbs P A K)) 3 0 (A, K0 K, fun _ => -1)).1 2 p = 0 ∨ 0 < (workS P (jbs P A K) (wlN P A K ro (jbs P A K)) 3 0 (A, K0 K, fun _ => -1)).1 6 (jbs P A K p).toNat := by
      intro x y hxy hx
      subst hx
      have noteq : ∀ q, q ≠ x → jbs P A K q = -1 ∨ (jbs P A K x).toNat ≠ (jbs P A K q).toNat := fun q hq => by
        by_cases hz : jbs P A K q = -1
        · exact Or.inl hz
        · refine Or.inr (fun e => hq ?_)
          have b := (hj q).resolve_left hz
          have : (q : Int) = x := by rw [← b.2.2.1, ← a.2.2.1, e]
          omega
      have split : ∀ (s : WS), workS P (jbs P A K) (wlN P A K ro (jbs P A K)) 3 0 s = workS P (jbs P A K) (wlN P A K ro (jbs P A K)) y (x + 1) (stepS P (jbs P A K) (wlN P A K ro (jbs P A K)) x (workS P (jbs P A K) (wlN P A K ro (jbs P A K)) x 0 s)) := by
        intro s
        rcases (show (x = 0 ∧ y = 2) ∨ (x = 1 ∧ y = 1) ∨ (x = 2 ∧ y = 0) by omega) with ⟨h1, h2⟩ | ⟨h1, h2⟩ | ⟨h1, h2⟩ <;> subst h1 <;> subst h2 <;> rfl
      rw [split, workS_oth (by omega) y (x + 1) _ (by omega), workS_6 y (x + 1) _ (fun q h1 h2 => noteq q (by omega))]
      refine stepS_own hjq ?_
      rw [workS_6 x 0 _ (fun q h1 h2 => noteq q (by omega))]
      exact a.2.2.2
    rcases key p (2 - p) (by omega) rfl with h | h
    · exact h
    · exfalso
      refine jobN_some hm (k := (jbs P A K p).toNat) (by omega) ?_ hjp
      unfold opn
      rw [r6]
      unfold passW
      rw [decide_eq_true a.2.2.1, decide_eq_true h]; rfl
/-- the state in a look ahead, but for those who wait without a JOB -/
def WfI0 (P A : Dat) (t : Nat) : Prop := WfA P A ∧ 0 ≤ A 0 0 ∧ A 0 0 ≤ t ∧ Bd (100000 + 10000 * t) A ∧ A 9 3 ≤ t
theorem passA_wf0 {P : Dat} {K : Nat → Int} {ro : Option Dat} {A : Dat} {t : Nat} (h : WfI0 P A t) (wP : WfP P) (wJ : WfJ P) (wB : WfB P) : WfI0 P (passA P K ro A) (t + 1) := by
  obtain ⟨wA, m0, mt, bA, h93⟩ := h
  have w2 := wP
  obtain ⟨bP, ⟨m, hm, hm8⟩, ⟨n, hn', hn3⟩, -⟩ := w2
  have hj : ∀ q : Nat, jbs P A K q = -1 ∨ (0 ≤ jbs P A K q ∧ jbs P A K q < P 0 5 ∧ P 2 (jbs P A K q).toNat = q ∧ 0 < A 6 (jbs P A K q).toNat) := fun q => jbs_lt wP q
  have wW : WfA P (passW P K ro A).1 := workS_wf wB wJ 3 0 _ wA m0 (fun q _ => hj q)
  have bW : Bd (100000 + 10000 * t + 1000 * 3) (passW P K ro A).1 := workS_bd bP 3 0 (A, K0 K, fun _ => -1) (100000 + 10000 * t) (by omega) bA
  have wL := wearL_wf (P := P) (T := (passW P K ro A).2.2) 4 0 _ (by decide) wW
  refine ⟨?_, ?_, ?_, ?_, ?_⟩
  · unfold passA
    try dsimp only
    refine ⟨fun q hq => ?_, fun q hq => ?_, fun c hc => ?_⟩
    · rw [up_at, up_at, if_neg (by omega), if_neg (by omega)]; exact wL.1 q hq
    · rw [up_at, if_neg (by omega)]; exact wL.2.1 q hq
    · rw [up_at, if_neg (by omega)]; exact wL.2.2 c hc
  · rw [passA_0]; omega
  · rw [passA_0]; omega
  · have bL := wearL_bd (T := (passW P K ro A).2.2) 4 0 _ (100000 + 10000 * t + 1000 * 3) (by omega) bW
    have b0 := bA 0 0
    have e0 : wearL (passW P K ro A).2.2 4 0 (passW P K ro A).1 0 0 = A 0 0 := by
      rw [wearL_lo 4 0 _ (Or.inl (by decide))]; unfold passW; rw [workS_0]
    unfold passA
    try dsimp only
    exact (bL.mono (by omega)).up (by rw [e0]; omega) (by rw [e0]; omega)
  · unfold passA
    try dsimp only
    rw [up_at, if_neg (by omega)]
    have := wearL_le (T := (passW P K ro A).2.2) (q := 3) 4 0 (passW P K ro A).1
    have e : (passW P K ro A).1 9 3 = A 9 3 := by unfold passW; rw [workS_9]
    omega
theorem passA_wf {P : Dat} {K : Nat → Int} {ro : Option Dat} {A : Dat} {t : Nat} (h : WfI P A t) (wP : WfP P) (wJ : WfJ P) (wB : WfB P) (hK2 : ∀ p : Nat, (p : Int) ≠ K 2) : WfI P (passA P K ro A) (t + 1) := by
  obtain ⟨wA, m0, mt, bA, hn, h93⟩ := h
  obtain ⟨a, b, c, d, e⟩ := passA_wf0 (K := K) (ro := ro) ⟨wA, m0, mt, bA, h93⟩ wP wJ wB
  exact ⟨a, b, c, d, fun p hp hjp => passA_norm wP hp (hK2 p) (hn p hp) hjp, e⟩
/-- where no jobless SMITH waits, the reference's MOMENT is the class's -/
theorem workR_eq {P : Dat} {J : Nat → Int} {Wl : Nat → Bool} : ∀ (d p : Nat) (s : WS), (∀ q : Nat, p ≤ q → (q : Int) < P 0 4 → J q = -1 → s.1 2 q = 0) → workR P J Wl d p s = workS P J Wl d p s
  | 0, _, _, _ => rfl
  | d + 1, p, s, hs => by
    have e : stepR P J Wl p s = stepS P J Wl p s := by
      unfold stepR
      by_cases hj : J p = -1
      · rw [if_pos hj, st_none hj]
        split
        · rename_i hp
          rw [up_self (hs p (Nat.le_refl _) hp hj)]
        · rfl
      · rw [if_neg hj]
    show workR P J Wl d (p + 1) (stepR P J Wl p s) = _
    rw [e]
    exact workR_eq d (p + 1) _ (fun q h1 h2 h3 => by rw [stepS_oth (by omega) (by omega)]; exact hs q (by omega) h2 h3)
theorem passRA_eq {P : Dat} {K : Nat → Int} {ro : Option Dat} {A : Dat} (hn : ∀ p : Nat, (p : Int) < P 0 4 → jbs P A K p = -1 → A 2 p = 0) : passRA P K ro A = passA P K ro A := by
  unfold passRA passA passW
  rw [workR_eq 3 0 _ (fun q _ h2 h3 => hn q h2 h3)]
