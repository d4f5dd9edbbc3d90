/-! SOUNDNESS, 1: the pictures -/
theorem wkS_tl {a : AV} {st : List AV} (h : wkS (a :: st)) : wkS st := fun b hb => h b (List.mem_cons_of_mem _ hb)
theorem wkS_hd {a : AV} {st : List AV} (h : wkS (a :: st)) : wk a := h a List.mem_cons_self
theorem wkS_cons {a : AV} {st : List AV} (ha : wk a) (h : wkS st) : wkS (a :: st) := fun b hb => by
  rcases List.mem_cons.mp hb with rfl | hb
  · exact ha
  · exact h b hb
theorem wkS_i {x : Int32} {k : Nat} {st : List AV} (h : wkS st) : wkS ((.int x, k) :: st) := wkS_cons trivial h
theorem wkS_l {x : Int64} {k : Nat} {st : List AV} (h : wkS st) : wkS ((.long x, k) :: st) := wkS_cons trivial h
theorem wkL_set {lv : LVs} {a : AV} (ha : wk a) : ∀ {k : Nat}, wkL lv → wkL (lset lv k a) := by
  induction lv with
  | nil => intro k h b hb; exact h b hb
  | cons o t ih =>
    intro k h b hb
    cases k with
    | zero =>
      rcases List.mem_cons.mp hb with e | hb
      · cases e; exact ha
      · exact h b (List.mem_cons_of_mem _ hb)
    | succ k =>
      rcases List.mem_cons.mp hb with e | hb
      · cases k with
        | zero =>
          change some b = clr o at e
          unfold clr at e
          split at e
          · cases e
          · cases e
          · exact h b (by rw [e]; exact List.mem_cons_self)
        | succ k => exact h b (by rw [e]; exact List.mem_cons_self)
      · exact ih (fun b hb => h b (List.mem_cons_of_mem _ hb)) b hb
theorem wkL_none {lv : LVs} : ∀ {k : Nat}, wkL lv → wkL (lnone lv k) := by
  induction lv with
  | nil => intro k h b hb; exact h b hb
  | cons o t ih =>
    intro k h b hb
    cases k with
    | zero =>
      rcases List.mem_cons.mp hb with e | hb
      · cases e
      · exact h b (List.mem_cons_of_mem _ hb)
    | succ k =>
      rcases List.mem_cons.mp hb with e | hb
      · exact h b (by rw [e]; exact List.mem_cons_self)
      · exact ih (fun b hb => h b (List.mem_cons_of_mem _ hb)) b hb
theorem wkL_nth {lv : LVs} {a : AV} : ∀ {k : Nat}, wkL lv → nth lv k = some a → wk a := by
  induction lv with
  | nil => intro k h e; cases e
  | cons o t ih =>
    intro k h e
    cases k with
    | zero => exact h a (by rw [show o = some a from e]; exact List.mem_cons_self)
    | succ k => exact ih (fun b hb => h b (List.mem_cons_of_mem _ hb)) e
theorem nth_lt {lv : LVs} {a : AV} : ∀ {k : Nat}, nth lv k = some a → k < lv.length := by
  induction lv with
  | nil => intro k e; cases e
  | cons o t ih =>
    intro k e
    cases k with
    | zero => exact Nat.zero_lt_succ _
    | succ k => exact Nat.succ_lt_succ (ih e)
theorem lset_len {a : AV} : ∀ {lv : LVs} {k : Nat}, (lset lv k a).length = lv.length
  | [], _ => rfl
  | _ :: _, 0 => rfl
  | _ :: t, k + 1 => congrArg (· + 1) (lset_len (lv := t) (k := k))
theorem lnone_len : ∀ {lv : LVs} {k : Nat}, (lnone lv k).length = lv.length
  | [], _ => rfl
  | _ :: _, 0 => rfl
  | _ :: t, k + 1 => congrArg (· + 1) (lnone_len (lv := t) (k := k))
/-- what is known behind a store at k: what was stored, or what was known and is neither k nor a long just ahead of it -/
theorem lset_nth {a b : AV} : ∀ {lv : LVs} {k j : Nat}, nth (lset lv k a) j = some b → (j = k ∧ b = a) ∨ (j ≠ k ∧ nth lv j = some b ∧ ¬ (j + 1 = k ∧ b.1.category = 2))
  | [], _, _, h => by cases h
  | o :: t, 0, j, h => by
    cases j with
    | zero => exact Or.inl ⟨rfl, (Option.some.inj h).symm⟩
    | succ j => exact Or.inr ⟨by omega, h, fun q => by omega⟩
  | o :: t, k + 1, j, h => by
    cases j with
    | zero =>
      right
      refine ⟨by omega, ?_, ?_⟩
      · cases k with
        | zero =>
          change clr o = some b at h
          unfold clr at h
          split at h
          · cases h
          · cases h
          · exact h
        | succ k => exact h
      · rintro ⟨hk, hcat⟩
        have hk0 : k = 0 := by omega
        subst hk0
        change clr o = some _ at h
        unfold clr at h
        split at h
        · cases h
        · cases h
        · rename_i h1 h2
          obtain ⟨v, n⟩ := b
          cases v with
          | long x => exact h1 _ _ h
          | double x => exact h2 _ _ h
          | _ => cases hcat
    | succ j =>
      rcases lset_nth (lv := t) (k := k) (j := j) h with ⟨e, hb⟩ | ⟨e, hb, hn⟩
      · exact Or.inl ⟨by omega, hb⟩
      · exact Or.inr ⟨by omega, hb, fun q => hn ⟨by omega, q.2⟩⟩
theorem lnone_nth {b : AV} : ∀ {lv : LVs} {k j : Nat}, nth (lnone lv k) j = some b → j ≠ k ∧ nth lv j = some b
  | [], _, _, h => by cases h
  | o :: t, 0, j, h => by
    cases j with
    | zero => cases h
    | succ j => exact ⟨by omega, h⟩
  | o :: t, k + 1, j, h => by
    cases j with
    | zero => exact ⟨by omega, h⟩
    | succ j =>
      obtain ⟨h1, h2⟩ := lnone_nth (lv := t) (k := k) (j := j) h
      exact ⟨by omega, h2⟩
/-- the known locals, with their places -/
def flat (E : EnvT) : Nat → LVs → List (Nat × Value)
  | _, [] => []
  | n, none :: t => flat E (n + 1) t
  | n, some a :: t => (n, conc E a) :: flat E (n + 1) t
theorem flat_mem {E : EnvT} : ∀ {lv : LVs} {n : Nat} {q : Nat × Value}, q ∈ flat E n lv → ∃ j a, q = (n + j, conc E a) ∧ nth lv j = some a
  | [], _, _, h => by cases h
  | none :: t, n, q, h => by
    obtain ⟨j, a, e, h2⟩ := flat_mem (lv := t) (n := n + 1) h
    exact ⟨j + 1, a, by rw [e]; congr 1; omega, h2⟩
  | some a :: t, n, q, h => by
    rcases List.mem_cons.mp h with rfl | h
    · exact ⟨0, a, rfl, rfl⟩
    · obtain ⟨j, a, e, h2⟩ := flat_mem (lv := t) (n := n + 1) h
      exact ⟨j + 1, a, by rw [e]; congr 1; omega, h2⟩
theorem flat_of {E : EnvT} : ∀ {lv : LVs} {n j : Nat} {a : AV}, nth lv j = some a → (n + j, conc E a) ∈ flat E n lv
  | [], _, _, _, h => by cases h
  | o :: t, n, 0, a, h => by
    cases (show o = some a from h)
    exact List.mem_cons_self
  | none :: t, n, j + 1, a, h => by
    have := flat_of (E := E) (lv := t) (n := n + 1) (j := j) h
    rw [show n + 1 + j = n + (j + 1) by omega] at this
    exact this
  | some b :: t, n, j + 1, a, h => by
    have := flat_of (E := E) (lv := t) (n := n + 1) (j := j) h
    rw [show n + 1 + j = n + (j + 1) by omega] at this
    exact List.mem_cons_of_mem _ this
theorem lok_has {E : EnvT} {ls : Array Slot} {nL : Nat} {lv : LVs} (h : lok E ls nL lv) : lv_has ls nL (flat E 0 lv) := by
  refine ⟨h.2.1, h.2.2.1, fun q hq => ?_⟩
  obtain ⟨j, a, rfl, hn⟩ := flat_mem hq
  rw [Nat.zero_add]
  exact h.2.2.2 j a hn
theorem conc_cat (E : EnvT) (a : AV) : (conc E a).category = a.1.category := by
  obtain ⟨v, k⟩ := a
  cases v with
  | ref c =>
    unfold conc
    dsimp only
    split
    · rfl
    · split
      · rfl
      · split <;> rfl
  | _ => rfl
/-- behind a store of one place -/
theorem lok_set {E : EnvT} {ls ls' : Array Slot} {nL k : Nat} {lv : LVs} {a : AV} {l' : List (Nat × Value)} (h : lok E ls nL lv) (hl : (k, conc E a) :: (flat E 0 lv).filter (fun q => !(q.1 == k) && !(q.1 + 1 == k && q.2.category == 2)) = l') (h' : lv_has ls' nL l') : lok E ls' nL (lset lv k a) := by
  subst hl
  refine ⟨by rw [lset_len]; exact h.1, h'.1, h'.2.1, fun j b hj => ?_⟩
  rcases lset_nth hj with ⟨rfl, rfl⟩ | ⟨h1, h2, h3⟩
  · exact h'.2.2 _ List.mem_cons_self
  · refine h'.2.2 (j, conc E b) (List.mem_cons_of_mem _ (List.mem_filter.mpr ⟨?_, ?_⟩))
    · have := flat_of (E := E) (n := 0) h2
      rwa [Nat.zero_add] at this
    · have e1 : (j == k) = false := by simpa using h1
      have e2 : (j + 1 == k && (conc E b).category == 2) = false := by
        rw [conc_cat]
        by_cases hk : j + 1 = k
        · have hc : ¬ b.1.category = 2 := fun q => h3 ⟨hk, q⟩
          simp [hc]
        · simp [hk]
      simp [e1, e2]
/-- behind a store of two places -/
theorem lok_set2 {E : EnvT} {ls ls' : Array Slot} {nL k : Nat} {lv : LVs} {a : AV} {l' : List (Nat × Value)} (h : lok E ls nL lv) (hl : (k, conc E a) :: (flat E 0 lv).filter (fun q => !(q.1 == k) && (!(q.1 == k + 1) && !(q.1 + 1 == k && q.2.category == 2))) = l') (h' : lv_has ls' nL l') : lok E ls' nL (lnone (lset lv k a) (k + 1)) := by
  subst hl
  refine ⟨by rw [lnone_len, lset_len]; exact h.1, h'.1, h'.2.1, fun j b hj => ?_⟩
  obtain ⟨hj1, hj⟩ := lnone_nth hj
  rcases lset_nth hj with ⟨rfl, rfl⟩ | ⟨h1, h2, h3⟩
  · exact h'.2.2 _ List.mem_cons_self
  · refine h'.2.2 (j, conc E b) (List.mem_cons_of_mem _ (List.mem_filter.mpr ⟨?_, ?_⟩))
    · have := flat_of (E := E) (n := 0) h2
      rwa [Nat.zero_add] at this
    · have e1 : (j == k) = false := by simpa using h1
      have e0 : (j == k + 1) = false := by simpa using hj1
      have e2 : (j + 1 == k && (conc E b).category == 2) = false := by
        rw [conc_cat]
        by_cases hk : j + 1 = k
        · have hc : ¬ b.1.category = 2 := fun q => h3 ⟨hk, q⟩
          simp [hc]
        · simp [hk]
      simp [e1, e0, e2]
theorem lok_iinc {E : EnvT} {ls : Array Slot} {nL k : Nat} {lv : LVs} {a : AV} (h : lok E ls nL lv) (hk : nth lv k = some a) : ∃ n : Nat, (flat E 0 lv)[n]? = some (k, conc E a) := by
  have := flat_of (E := E) (n := 0) hk
  rw [Nat.zero_add] at this
  exact List.getElem?_of_mem this
/-! the world's list -/
theorem kd_lt {c : Nat} (h : kd c ≠ 999) : c < kdL.length := by
  rcases Nat.lt_or_ge c kdL.length with q | q
  · exact q
  · exact absurd (by unfold kd; rw [List.getD_eq_getElem?_getD, List.getElem?_eq_none q]; rfl) h
theorem ws_at {E : EnvT} {σ : Mem} {c : Nat} (h : kd c ≠ 999) : (wsM E σ)[c]? = some (eBase E + c, elt E σ c) := by
  unfold wsM
  rw [List.getElem?_map, List.getElem?_range (kd_lt h)]
  rfl
theorem ws_set {E : EnvT} {σ σ' : Mem} {c : Nat} {e : va_E} (he : elt E σ' c = e) (ho : ∀ c', c' ≠ c → elt E σ' c' = elt E σ c') : (wsM E σ).set c (eBase E + c, e) = wsM E σ' := by
  apply List.ext_getElem?
  intro i
  unfold wsM
  rw [List.getElem?_set]
  by_cases hi : c = i
  · subst hi
    rw [if_pos rfl]
    simp only [List.length_map, List.length_range, List.getElem?_map]
    by_cases hl : c < kdL.length
    · rw [if_pos hl, List.getElem?_range hl]
      simp [he]
    · rw [if_neg hl, List.getElem?_eq_none (by rw [List.length_range]; omega)]
      rfl
  · rw [if_neg hi]
    simp only [List.getElem?_map]
    by_cases hl : i < kdL.length
    · rw [List.getElem?_range hl]
      simp [ho i (fun q => hi q.symm)]
    · rw [List.getElem?_eq_none (by rw [List.length_range]; omega)]
      rfl
theorem ws_D {E : EnvT} {σ : Mem} : va_D (eA E) (wsM E σ) := by
  have key : ∀ (k : Nat) (q : Nat × va_E), (wsM E σ)[k]? = some q → q.1 = eBase E + k := by
    intro k q h
    unfold wsM at h
    rw [List.getElem?_map] at h
    by_cases hl : k < kdL.length
    · rw [List.getElem?_range hl] at h
      cases h
      rfl
    · rw [List.getElem?_eq_none (by rw [List.length_range]; omega)] at h
      cases h
  refine ⟨fun i j p q hi hj he => ?_, fun k q hk => ?_⟩
  · have h1 := key i p hi
    have h2 := key j q hj
    omega
  · show eBase E ≤ q.1
    rw [key k q hk]
    omega
