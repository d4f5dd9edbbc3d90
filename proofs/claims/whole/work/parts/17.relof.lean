/-! the world built is the numbers' first state -/
theorem gI0 {c : Nat} (h : ∀ q ∈ initL, q ≠ c) : gI σ0 c = fun _ => 0 := by
  funext j
  simp only [gI, σ0, Ne.symm (h 16 (by decide)), Ne.symm (h 40 (by decide)), Ne.symm (h 135 (by decide)), Ne.symm (h 387 (by decide)), Ne.symm (h 411 (by decide)), Ne.symm (h 435 (by decide)), Ne.symm (h 459 (by decide)), Ne.symm (h 483 (by decide)), false_and, if_false]
theorem gL0 {c j : Nat} : gL σ0 c j = 0 := rfl
theorem cR0 {E : EnvT} : conc E (.ref (gR σ0), 50) = .null := rfl
theorem elt_ok {E : EnvT} {c : Nat} {a : CC} {H : Heap} (h : chC c a = true) (hat : va_at (eD E) vwCl (eBase E + c, eltC E a) H) : va_at (eD E) vwCl (eBase E + c, elt E σ0 c) H := by
  obtain ⟨k, t, n, vs⟩ := a
  match k, h, hat with
  | 0, h, hat =>
    simp only [chC, Bool.and_eq_true] at h
    obtain ⟨h1, h2, h3, h4⟩ := h
    have e1 := Nat.eq_of_beq_eq_true h1
    have e2 := Nat.blt_eq.mp h2
    have e3 := Nat.eq_of_beq_eq_true h3
    rw [elt_obj e1.symm e2]
    have : vs.map (cvc E) = (List.range (nf t)).map (concF E σ0 c t) := by
      apply List.ext_getElem?
      intro i
      rcases Nat.lt_or_ge i (nf t) with hi | hi
      · have hv := List.all_eq_true.mp h4 i (List.mem_range.mpr hi)
        have hl : i < vs.length := by omega
        rw [List.getElem?_map, List.getElem?_map, List.getElem?_range hi, List.getElem?_eq_getElem hl]
        rw [List.getD_eq_getElem?_getD, List.getElem?_eq_getElem hl, Option.getD_some] at hv
        show some (cvc E vs[i]) = some (concF E σ0 c t i)
        refine congrArg some ?_
        generalize vs[i] = w at hv
        unfold concF
        split at hv
        · rename_i hf
          rw [hf]
          exact congrArg Value.int (of_decide_eq_true hv)
        · rename_i hf
          rw [hf]
          exact congrArg Value.long (of_decide_eq_true hv)
        · rename_i hf
          rw [hf, Nat.eq_of_beq_eq_true hv]
          rfl
        · rename_i hf
          rw [hf, Nat.eq_of_beq_eq_true hv]
          rfl
        · rename_i hf
          rw [hf]
          exact cR0.symm
        · cases hv
      · rw [List.getElem?_eq_none (by rw [List.length_map]; omega), List.getElem?_eq_none (by rw [List.length_map, List.length_range]; omega)]
    rw [← this]
    exact hat
  | 1, h, hat =>
    simp only [chC, Bool.and_eq_true] at h
    obtain ⟨h0, h⟩ := h
    rcases ha : ak (kd c) with ⟨t', n', f, s, e⟩
    rw [ha] at h
    simp only [Bool.and_eq_true, decide_eq_true_eq] at h
    obtain ⟨h1, h2, h3, h4⟩ := h
    have e1 := Nat.eq_of_beq_eq_true h1
    have e2 := Nat.eq_of_beq_eq_true h2
    have e3 := Nat.blt_eq.mp h3
    subst e1
    subst e2
    by_cases ht : t = 3
    · subst ht
      rw [elt_l rfl ha]
      have : eltC E (1, 3, n, vs) = .inl (eC E 3, n, .inr (.inl fun _ => 0)) := by simp only [eltC, if_true]
      rw [this] at hat
      exact hat
    · rw [elt_i rfl ha (by omega), gI0 h4]
      have : eltC E (1, t, n, vs) = .inl (eC E t, n, .inl fun _ => 0) := by simp only [eltC, if_neg ht]
      rw [this] at hat
      exact hat
  | k + 2, h, hat =>
    simp only [chC, Bool.and_eq_true] at h
    obtain ⟨h0, h⟩ := h
    rcases ha : ak (kd c) with ⟨t', n', f, s, e⟩
    rw [ha] at h
    simp only [Bool.and_eq_true] at h
    obtain ⟨h1, h2, h3, h4, h5, h6⟩ := h
    have e1 := Nat.eq_of_beq_eq_true h1
    have e2 := Nat.eq_of_beq_eq_true h2
    have e3 := Nat.blt_eq.mp h3
    have e4 := Nat.blt_eq.mp h4
    subst e1
    subst e2
    rw [elt_r rfl ha e3 (by omega)]
    have hh : H[eBase E + c]? = some (arrV (eC E t) n (fun j => va_rf (cvr E (vs.getD j .null)))) := hat
    show H[eBase E + c]? = some (arrV (eC E t) n (fun j => va_rf (some (eBase E + (f + s * j)))))
    rw [hh]
    refine congrArg some (arrV_ext fun j hj => ?_)
    have hv := List.all_eq_true.mp h6 j (List.mem_range.mpr hj)
    split at hv
    · rename_i hf
      rw [hf, Nat.eq_of_beq_eq_true hv]
      rfl
    · cases hv
theorem Rel_of {E : EnvT} {hp : List CC} {H : Heap} (h : RelC E hp H) (hc : chAll hp = true) : Rel E σ0 H := by
  unfold chAll at hc
  rw [Bool.and_eq_true] at hc
  have hl := Nat.eq_of_beq_eq_true hc.1
  intro k q hk
  have hk2 : k < kdL.length := by
    rcases Nat.lt_or_ge k kdL.length with z | z
    · exact z
    · rw [wsM, List.getElem?_eq_none (by rw [List.length_map, List.length_range]; exact z)] at hk
      cases hk
  rw [wsM, List.getElem?_map, List.getElem?_range hk2] at hk
  cases hk
  have hv := List.all_eq_true.mp hc.2 k (List.mem_range.mpr (by omega))
  have hlt : k < hp.length := by omega
  rw [List.getElem?_eq_getElem hlt] at hv
  exact elt_ok hv (h.2 k _ (wsC_at (List.getElem?_eq_getElem hlt)))
