/-! from the quick run to the plain one -/
theorem getR_eq (hp : List CC) (a : Nat) : getR hp.length hp a = hp.reverse[a]? := by
  unfold getR
  rw [cond_eq_ite]
  split
  · rename_i h
    rw [List.getElem?_reverse (Nat.blt_eq.mp h)]
  · rename_i h
    have : ¬ a < hp.length := fun z => h (Nat.blt_eq.mpr z)
    rw [List.getElem?_eq_none (by rw [List.length_reverse]; omega)]
theorem revset (hp : List CC) (a : Nat) (x : CC) (h : a < hp.length) : (hp.set (hp.length - 1 - a) x).reverse = hp.reverse.set a x := by
  apply List.ext_getElem?
  intro i
  by_cases hi : i < hp.length
  · rw [List.getElem?_reverse (by rw [List.length_set]; exact hi), List.length_set, List.getElem?_set, List.getElem?_set, List.getElem?_reverse hi, List.length_reverse]
    by_cases e : a = i
    · subst e
      rw [if_pos rfl, if_pos rfl, if_pos h, if_pos (by omega)]
    · rw [if_neg e, if_neg (by omega)]
  · rw [List.getElem?_eq_none (by rw [List.length_reverse, List.length_set]; omega), List.getElem?_eq_none (by rw [List.length_set, List.length_reverse]; omega)]
theorem getR_lt {hp : List CC} {a : Nat} {x : CC} (h : hp.reverse[a]? = some x) : a < hp.length := by
  rcases Nat.lt_or_ge a hp.length with z | z
  · exact z
  · rw [List.getElem?_eq_none (by rw [List.length_reverse]; omega)] at h
    cases h
theorem kstR_ok {q : Ent} {lv lv' : LVs} {st st' : List AV} {hp hp' : List CC} {pc' u' : Nat} (h : kstR q lv st hp.length hp = some (pc', lv', st', u', hp')) : u' = hp'.length ∧ kst q lv st hp.reverse = some (pc', lv', st', hp'.reverse) := by
  obtain ⟨pc, i, len, x, y, z, v, w⟩ := q
  cases i <;> dsimp only [kstR] at h <;> dsimp only [kst]
  case putfield =>
    simp only [forceL_eq, setF_eq, getR_eq, cond_eq_ite] at h ⊢
    split at h
    · split at h
      · rename_i hc
        split at h
        · rename_i ha
          split at h
          · rename_i hd
            cases h
            refine ⟨(List.length_set).symm, ?_⟩
            rw [if_pos hc]
            simp only [ha]
            rw [if_pos hd, revset _ _ _ (getR_lt ha)]
          · cases h
        · cases h
      · cases h
    · cases h
  case getfield =>
    simp only [getR_eq, cond_eq_ite] at h ⊢
    split at h
    · split at h
      · rename_i ha
        split at h
        · rename_i hd
          split at h
          · rename_i hv
            cases h
            refine ⟨rfl, ?_⟩
            simp only [ha]
            rw [if_pos hd]
            simp only [hv]
          · cases h
        · cases h
      · cases h
    · cases h
  case aastore =>
    simp only [forceL_eq, setF_eq, getR_eq, cond_eq_ite] at h ⊢
    split at h
    · split at h
      · rename_i ha
        split at h
        · rename_i hb
          split at h
          · rename_i hd
            cases h
            refine ⟨(List.length_set).symm, ?_⟩
            simp only [ha, hb]
            rw [if_pos hd, revset _ _ _ (getR_lt ha)]
          · cases h
        · cases h
      · cases h
    · cases h
  case new =>
    simp only [forceL_eq, cond_eq_ite] at h ⊢
    split at h
    · rename_i hd
      cases h
      exact ⟨rfl, by rw [if_pos hd, List.length_reverse, List.reverse_cons]⟩
    · cases h
  case newarray =>
    split at h
    · split at h
      · rename_i hd
        cases h
        exact ⟨rfl, by rw [if_pos hd, List.length_reverse, List.reverse_cons]⟩
      · cases h
    · cases h
  case anewarray =>
    split at h
    · split at h
      · rename_i hd
        cases h
        exact ⟨rfl, by rw [if_pos hd, List.length_reverse, List.reverse_cons]⟩
      · cases h
    · cases h
  case multianewarray =>
    simp only [forceL_eq] at h
    split at h
    · split at h
      · rename_i hd
        cases h
        exact ⟨by rw [List.length_append, List.length_replicate, List.length_cons]; omega, by rw [if_pos hd, List.length_reverse, List.reverse_append, List.reverse_cons, List.reverse_replicate, List.append_assoc]; rfl⟩
      · cases h
    · cases h
  case if_icmp =>
    split at h
    · split at h
      · rename_i hd
        cases h
        exact ⟨rfl, by rw [if_pos hd]⟩
      · rename_i hd
        cases h
        exact ⟨rfl, by rw [if_neg hd]⟩
    · split at h
      · rename_i hd
        cases h
        exact ⟨rfl, by rw [if_pos hd]⟩
      · rename_i hd
        cases h
        exact ⟨rfl, by rw [if_neg hd]⟩
    · cases h
  all_goals first
    | (cases h; done)
    | (cases h; exact ⟨rfl, rfl⟩)
    | ((try simp only [forceL_eq] at h)
       split at h
       · cases h
         exact ⟨rfl, rfl⟩
       · cases h)
    | ((try simp only [forceL_eq] at h)
       split at h
       · rename_i hd
         cases h
         exact ⟨rfl, by simp only [hd]⟩
       · cases h)
theorem cxR_ok : ∀ (f mi pc : Nat) (lv : LVs) (st : List AV) (hp hpF : List CC) (u' : Nat) (lvF : LVs), cxR f mi pc lv st hp.length hp = some (u', hpF, lvF) → u' = hpF.length ∧ cxB f mi pc lv st hp.reverse = some (hpF.reverse, lvF) := by
  intro f
  induction f with
  | zero => intro mi pc lv st hp hpF u' lvF h; cases h
  | succ f ih =>
    intro mi pc lv st hp hpF u' lvF h
    unfold cxR at h
    unfold cxB
    simp only [cond_eq_ite] at h ⊢
    split at h
    · rename_i hc
      rw [if_pos hc]
      split at h
      · cases h; exact ⟨rfl, rfl⟩
      · cases h
    · rename_i hc
      rw [if_neg hc]
      split at h
      · cases h
      · rename_i q is hs
        try simp only [hs]
        split at h
        · rename_i hi
          try simp only [hi]
          split at h
          · split at h
            · cases h
            · rename_i hn
              cases h
              exact ⟨rfl, by rw [if_neg hn]⟩
          · cases h
        · rename_i hi
          try simp only [hi]
          split at h
          · rename_i h99
            rw [if_pos h99]
            split at h
            · split at h
              · rename_i hd
                obtain ⟨a, b⟩ := ih _ _ _ _ _ _ _ _ h
                exact ⟨a, by rw [if_pos hd]; exact b⟩
              · cases h
            · cases h
          · rename_i h99
            rw [if_neg h99]
            split at h
            · rename_i hdr
              try simp only [hdr]
              split at h
              · rename_i hd
                rw [if_pos hd]
                split at h
                · rename_i hcl
                  obtain ⟨a, b⟩ := ih _ _ _ _ _ _ _ _ hcl
                  subst a
                  obtain ⟨a2, b2⟩ := ih _ _ _ _ _ _ _ _ h
                  try simp only [b]
                  exact ⟨a2, b2⟩
                · cases h
              · cases h
            · cases h
        · rename_i hi1 hi2
          split at h
          · rename_i hk
            obtain ⟨a, b⟩ := kstR_ok hk
            rw [forceN_eq] at h
            subst a
            obtain ⟨a2, b2⟩ := ih _ _ _ _ _ _ _ _ h
            refine ⟨a2, ?_⟩
            try simp only [b]
            exact b2
          · cases h
