/-! ACTS: the world changes -/
theorem CInv.W {V : Nat → Prop} {σ σ' : Mem} {S : Ab} {w : Wd} {pc : Nat} {h : Nat → Dat} (hC : CInv S σ) (rc : sRc S ≤ 6) (f : Fr V σ σ') (hv : ∀ c, V c → c = 0 ∨ (16 ≤ c ∧ c ≤ 39) ∨ (187 ≤ c ∧ c ≤ 386) ∨ Scr c) (cw : CW 16 σ' w) (e04 : gI σ' 0 4 = gI σ 0 4) (past : ∃ pn : Nat, pn < 20 ∧ gI σ' 0 7 = w32 (pn : Int) ∧ gI σ' 0 6 = w32 (pc : Int) ∧ ∀ i, i < pc → RepS (pastAt pn pc i) σ' (h i)) : CInv (stW S w pc h) σ' := by
  obtain ⟨a, ⟨b1, b2⟩, ⟨d1, d2⟩, -, g⟩ := hC
  have no : ∀ c, c = 1 ∨ c = 2 ∨ c = 15 ∨ (151 ≤ c ∧ c ≤ 186 ∧ c % 6 ≠ 0) ∨ (386 < c ∧ c < 483) → ¬ V c := fun c hc z => by
    have := hv c z
    unfold Scr at this
    omega
  refine ⟨cw, ⟨e04.trans b1, fun k hk => ?_⟩, ⟨?_, fun i hi => ?_⟩, past, fun k hk => ?_⟩
  · have hk : k < sRc S := hk
    exact (b2 k hk).fr f (fun i hi => no _ (by omega))
  · rw [f.gI (no 1 (by decide))]; exact d1
  · rw [f.gI (no 2 (by decide))]; exact d2 i hi
  · have gk := g k hk
    show match sIm S k with | none => _ | some w => _
    cases hI : sIm S k with
    | none => rw [hI] at gk; rw [f.gI (no 15 (by decide))]; exact gk
    | some w =>
      rw [hI] at gk
      exact ⟨by rw [f.gI (no 15 (by decide))]; exact gk.1, gk.2.fr f (fun i hi => no _ (by omega))⟩
theorem CInv.W0 {V : Nat → Prop} {σ σ' : Mem} {S : Ab} {w : Wd} (hC : CInv S σ) (rc : sRc S ≤ 6) (f : Fr V σ σ') (hv : ∀ c, V c → (16 ≤ c ∧ c ≤ 39) ∨ Scr c) (cw : CW 16 σ' w) : CInv (stW S w (sPc S) (sH S)) σ' := by
  have no : ∀ c, c = 0 ∨ (187 ≤ c ∧ c ≤ 386) → ¬ V c := fun c hc z => by
    have := hv c z
    unfold Scr at this
    omega
  refine hC.W rc f (fun c z => (hv c z).elim (fun y => Or.inr (Or.inl y)) (fun y => Or.inr (Or.inr (Or.inr y)))) cw (by rw [f.gI (no 0 (by decide))]) ?_
  obtain ⟨pn, e1, e2, e3, e4⟩ := hC.2.2.2.1
  refine ⟨pn, e1, ?_, ?_, fun i hi => ?_⟩
  · rw [f.gI (no 0 (by decide))]; exact e2
  · rw [f.gI (no 0 (by decide))]; exact e3
  · exact (e4 i hi).fr f (fun a ha => no _ (by have := past_rg (pn := pn) (pc := sPc S) (i := i); omega))
theorem RInv.W {σ σ' : Mem} {S : Ab} {w : Wd} {pc : Nat} {h : Nat → Dat} (hR : RInv S σ) (a : SaidR (gI σ' 493) (wP w) (wA w)) (n : NoteR (gI σ' 493) (wN w)) (e21 : gI σ' 483 21 = w32 (wF w)) (e22 : gI σ' 483 22 = w32 (wX w)) (s : ∀ j, j = 1 ∨ j = 2 ∨ (23 ≤ j ∧ j ≤ 28) → gI σ' 483 j = gI σ 483 j) (e34 : gI σ' 483 34 = w32 (pc : Int)) (past : ∀ i, i < pc → SaidQ (fun k => gI σ' 497 (98 * i + k)) (wP w) (h i)) (hc : ∀ c, c = 484 ∨ c = 485 ∨ c = 487 ∨ c = 488 ∨ (506 ≤ c ∧ c ≤ 509) → gI σ' c = gI σ c) : RInv (stW S w pc h) σ' := by
  obtain ⟨-, ⟨b1, b2, b3, b4, b5, b6, b7, b8⟩, ⟨c1, c2⟩, ⟨d1, d2⟩, -, g⟩ := hR
  refine ⟨⟨a, n⟩, ⟨e21, e22, ?_, ?_, ?_, ?_, ?_, ?_⟩, ⟨?_, fun k hk => ?_⟩, ⟨?_, fun i hi => ?_⟩, ⟨e34, past⟩, fun k hk => ?_⟩
  · rw [s 23 (by omega)]; exact b3
  · rw [s 24 (by omega)]; exact b4
  · rw [s 25 (by omega)]; exact b5
  · rw [s 26 (by omega)]; exact b6
  · rw [s 27 (by omega)]; exact b7
  · rw [s 28 (by omega)]; exact b8
  · rw [s 2 (by omega)]; exact c1
  · obtain ⟨x, y, z⟩ := c2 k hk
    refine ⟨by rw [hc 488 (by omega)]; exact x, fun j hj => by rw [hc 485 (by omega)]; exact y j hj, fun i hi => ?_⟩
    rw [hc 487 (by omega)]; exact z i hi
  · rw [s 1 (by omega)]; exact d1
  · rw [hc 484 (by omega)]; exact d2 i hi
  · have gk := g k hk
    show match sIm S k with | none => _ | some w => _
    cases hI : sIm S k with
    | none => rw [hI] at gk; rw [hc 509 (by omega)]; exact gk
    | some w =>
      rw [hI] at gk
      rw [hc 509 (by omega), hc 507 (by omega), hc 508 (by omega), hc 506 (by omega)]
      exact gk
theorem RInv.cls {t : Nat} {V : Nat → Prop} {σ σ1 : Mem} {S : Ab} (hR : RInv S σ) (wf : Wf t S) (f : Fr V σ σ1) (hv : ∀ c, V c → c < 483 ∨ c = 1000) : RInv S σ1 := by
  obtain ⟨m5, hm, hm8⟩ := wf.1.1.1.2.1
  obtain ⟨n4, hn, hn3⟩ := wf.1.1.1.2.2.1
  exact hR.same (by omega) (by omega) wf.1.2.2.1.2.1 (fun k _ => by rw [f.gI (fun z => by have := hv _ z; omega)]) (fun j _ => by rw [f.gI (fun z => by have := hv _ z; omega)]) (fun c hc => f.gI (fun z => by have := hv _ z; omega))
theorem Wf.W {t : Nat} {S : Ab} {w : Wd} (wf : Wf t S) (h : WfW w (sRc S) t) (e : wP w = wP (sW S)) : Wf t (stW S w (sPc S) (sH S)) :=
  ⟨h, wf.2.1, wf.2.2.1, ⟨wf.2.2.2.1.1, fun i hi => by show WfSt (wP w) _ _; rw [e]; exact wf.2.2.2.1.2 i hi⟩, wf.2.2.2.2⟩
theorem seed_q {F t : Nat} {S : Ab} {σ : Mem} (hC : CInv S σ) (hR : RInv S σ) (wfx : Wfx t S) (x : Int32) : Acts t (m11_seed F x σ) (m12_seed F x) := by
  obtain ⟨c, rfl, c1, c2⟩ := arg x
  have wf := wfx.1
  by_cases hc : 0 ≤ c
  · have m1 : m11_seed F (w32 c) σ = some (gI σ 16 4, sI σ 16 4 (w32 c)) := by
      unfold m11_seed
      rw [if_pos (by rw [wl_0, w_le (by omega) (by omega) (by omega) (by omega)]; exact hc)]
    have f1 := f11_seed m1
    have hR1 := hR.cls wf f1 (fun c z => by unfold Wm11_seed at z; omega)
    have m2 : m12_seed F (w32 c) (sI σ 16 4 (w32 c)) = some (gI (sI σ 16 4 (w32 c)) 483 22, sI (sI σ 16 4 (w32 c)) 483 22 (w32 c)) := by
      unfold m12_seed
      rw [if_pos (by rw [wl_0, w_le (by omega) (by omega) (by omega) (by omega)]; exact hc)]
    have f2 := f12_seed m2
    obtain ⟨a, b, d, e, g⟩ := hC.1
    have hC1 : CInv (stW S (wP (sW S), wA (sW S), wN (sW S), wF (sW S), c) (sPc S) (sH S)) (sI σ 16 4 (w32 c)) := hC.W0 wf.2.1.1 f1 (fun c z => by unfold Wm11_seed at z; omega) ⟨a.fr f1 (fun i hi => by unfold Wm11_seed; omega), b.fr f1 (fun i hi => by unfold Wm11_seed; omega), d.fr f1 (fun i hi => by unfold Wm11_seed; omega), by rw [gI_nej (by decide)]; exact e, by rw [gI_eq]; rfl⟩
    have e1 : gI σ 16 4 = gI (sI σ 16 4 (w32 c)) 483 22 := g.trans hR1.2.1.2.1.symm
    rw [← e1] at m2
    refine ⟨stW S (wP (sW S), wA (sW S), wN (sW S), wF (sW S), c) (sPc S) (sH S), ⟨wf.W ⟨wf.1.1, wf.1.2.1, wf.1.2.2.1, wf.1.2.2.2.1, wf.1.2.2.2.2.1, hc, c2⟩ rfl, wfx.2⟩, _, _, _, m1, m2, ?_, ?_⟩
    · exact hC1.fr wf.2.1.1 f2 (fun c z => by unfold Wm12_seed at z; unfold Scr; omega)
    · refine hR1.W ?_ ?_ ?_ ?_ ?_ ?_ ?_ ?_
      · rw [f2.gI (by unfold Wm12_seed; omega)]; exact hR1.1.1
      · rw [f2.gI (by unfold Wm12_seed; omega)]; exact hR1.1.2
      · rw [gI_nej (by decide)]; exact hR1.2.1.1
      · rw [gI_eq]; rfl
      · intro j hj; rw [gI_nej (by omega)]
      · rw [gI_nej (by decide)]; exact hR1.2.2.2.2.1.1
      · intro i hi; rw [f2.gI (by unfold Wm12_seed; omega)]; exact hR1.2.2.2.2.1.2 i hi
      · intro c hc; exact f2.gI (by unfold Wm12_seed; omega)
  · refine ⟨S, wfx, -1, σ, σ, ?_, ?_, hC, hR⟩
    · unfold m11_seed
      rw [if_neg (by rw [wl_0, w_le (by omega) (by omega) (by omega) (by omega)]; exact hc)]
    · unfold m12_seed
      rw [if_neg (by rw [wl_0, w_le (by omega) (by omega) (by omega) (by omega)]; exact hc)]
theorem force_q {F t : Nat} {S : Ab} {σ : Mem} (hC : CInv S σ) (hR : RInv S σ) (wfx : Wfx t S) (x : Int32) : Acts t (m11_force F x σ) (m12_force F x) := by
  obtain ⟨c, rfl, c1, c2⟩ := arg x
  have wf := wfx.1
  have rc6 := wf.2.1.1
  have e4 : gI σ 0 4 = w32 (sRc S : Int) := hC.2.1.1
  by_cases hc : -1 ≤ c ∧ c < sRc S
  · have m1 : m11_force F (w32 c) σ = some (gI σ 16 3, sI σ 16 3 (w32 c)) := by
      unfold m11_force
      rw [if_neg (by rw [wl_m1, w_lt (by omega) (by omega) (by omega) (by omega)]; omega), e4, if_pos (by rw [w_lt (by omega) (by omega) (by omega) (by omega)]; omega)]
    have f1 := f11_force m1
    have hR1 := hR.cls wf f1 (fun c z => by unfold Wm11_force at z; omega)
    have e2 : gI (sI σ 16 3 (w32 c)) 483 2 = w32 (sRc S : Int) := hR1.2.2.1.1
    have m2 : m12_force F (w32 c) (sI σ 16 3 (w32 c)) = some (gI (sI σ 16 3 (w32 c)) 483 21, sI (sI σ 16 3 (w32 c)) 483 21 (w32 c)) := by
      unfold m12_force
      by_cases h1 : c = -1
      · rw [if_pos (by rw [h1]; rfl)]; rfl
      · rw [if_neg (by rw [wl_m1, w_eq (by omega) (by omega) (by omega) (by omega)]; exact h1)]
        unfold m12_isRule
        rw [if_neg (by rw [wl_0, w_lt (by omega) (by omega) (by omega) (by omega)]; omega), e2, if_neg (by rw [w_le (by omega) (by omega) (by omega) (by omega)]; omega), Option.bind_some, if_neg (by decide)]; rfl
    have f2 := f12_force m2
    obtain ⟨a, b, d, e, g⟩ := hC.1
    have hC1 : CInv (stW S (wP (sW S), wA (sW S), wN (sW S), c, wX (sW S)) (sPc S) (sH S)) (sI σ 16 3 (w32 c)) := hC.W0 wf.2.1.1 f1 (fun c z => by unfold Wm11_force at z; omega) ⟨a.fr f1 (fun i hi => by unfold Wm11_force; omega), b.fr f1 (fun i hi => by unfold Wm11_force; omega), d.fr f1 (fun i hi => by unfold Wm11_force; omega), by rw [gI_eq]; rfl, by rw [gI_nej (by decide)]; exact g⟩
    have e1 : gI σ 16 3 = gI (sI σ 16 3 (w32 c)) 483 21 := e.trans hR1.2.1.1.symm
    rw [← e1] at m2
    refine ⟨stW S (wP (sW S), wA (sW S), wN (sW S), c, wX (sW S)) (sPc S) (sH S), ⟨wf.W ⟨wf.1.1, wf.1.2.1, wf.1.2.2.1, hc.1, hc.2, wf.1.2.2.2.2.2⟩ rfl, wfx.2⟩, _, _, _, m1, m2, ?_, ?_⟩
    · exact hC1.fr wf.2.1.1 f2 (fun c z => by unfold Wm12_force at z; unfold Scr; omega)
    · refine hR1.W ?_ ?_ ?_ ?_ ?_ ?_ ?_ ?_
      · rw [f2.gI (by unfold Wm12_force; omega)]; exact hR1.1.1
      · rw [f2.gI (by unfold Wm12_force; omega)]; exact hR1.1.2
      · rw [gI_eq]; rfl
      · rw [gI_nej (by decide)]; exact hR1.2.1.2.1
      · intro j hj; rw [gI_nej (by omega)]
      · rw [gI_nej (by decide)]; exact hR1.2.2.2.2.1.1
      · intro i hi; rw [f2.gI (by unfold Wm12_force; omega)]; exact hR1.2.2.2.2.1.2 i hi
      · intro c hc; exact f2.gI (by unfold Wm12_force; omega)
  · refine ⟨S, wfx, -2, σ, σ, ?_, ?_, hC, hR⟩
    · unfold m11_force
      by_cases h1 : c < -1
      · rw [if_pos (by rw [wl_m1, w_lt (by omega) (by omega) (by omega) (by omega)]; exact h1)]
      · rw [if_neg (by rw [wl_m1, w_lt (by omega) (by omega) (by omega) (by omega)]; exact h1), e4, if_neg (by rw [w_lt (by omega) (by omega) (by omega) (by omega)]; omega)]
    · have e2 : gI σ 483 2 = w32 (sRc S : Int) := hR.2.2.1.1
      unfold m12_force
      rw [if_neg (by rw [wl_m1, w_eq (by omega) (by omega) (by omega) (by omega)]; omega)]
      unfold m12_isRule
      by_cases h1 : c < 0
      · rw [if_pos (by rw [wl_0, w_lt (by omega) (by omega) (by omega) (by omega)]; exact h1), Option.bind_some, if_pos rfl]
      · rw [if_neg (by rw [wl_0, w_lt (by omega) (by omega) (by omega) (by omega)]; exact h1), e2, if_pos (by rw [w_le (by omega) (by omega) (by omega) (by omega)]; omega), Option.bind_some, if_pos rfl]
theorem CInv.T {V : Nat → Prop} {σ σ' : Mem} {S : Ab} {l : Nat} {b : Nat → Int} (hC : CInv S σ) (rc : sRc S ≤ 6) (f : Fr V σ σ') (hv : ∀ c, V c → c = 1 ∨ c = 2 ∨ (483 ≤ c ∧ c ≤ 509)) (e1 : gI σ' 1 1 = w32 (l : Int)) (e2 : ∀ i, i < l → gI σ' 2 i = w32 (b i)) : CInv (stT S l b) σ' := by
  obtain ⟨a, ⟨b1, b2⟩, -, ⟨pn, q1, q2, q3, q4⟩, g⟩ := hC
  have no : ∀ c, c = 0 ∨ (2 < c ∧ c < 483) → ¬ V c := fun c hc z => by
    have := hv c z
    omega
  refine ⟨a.fr f (fun i hi => no _ (by omega)), ⟨?_, fun k hk => ?_⟩, ⟨e1, e2⟩, ⟨pn, q1, ?_, ?_, fun i hi => ?_⟩, fun k hk => ?_⟩
  · rw [f.gI (no 0 (by decide))]; exact b1
  · have hk : k < sRc S := hk
    exact (b2 k hk).fr f (fun i hi => no _ (by omega))
  · rw [f.gI (no 0 (by decide))]; exact q2
  · rw [f.gI (no 0 (by decide))]; exact q3
  · exact (q4 i hi).fr f (fun a ha => no _ (by have := past_rg (pn := pn) (pc := sPc S) (i := i); show _ = 0 ∨ (2 < pastAt pn (sPc S) i + a ∧ pastAt pn (sPc S) i + a < 483); omega))
  · have gk := g k hk
    show match sIm S k with | none => _ | some w => _
    cases hI : sIm S k with
    | none => rw [hI] at gk; rw [f.gI (no 15 (by decide))]; exact gk
    | some w =>
      rw [hI] at gk
      exact ⟨by rw [f.gI (no 15 (by decide))]; exact gk.1, gk.2.fr f (fun i hi => no _ (by omega))⟩
theorem RInv.T {V : Nat → Prop} {σ σ' : Mem} {S : Ab} {l : Nat} {b : Nat → Int} (hR : RInv S σ) (f : Fr V σ σ') (hv : ∀ c, V c → c < 483 ∨ c = 483 ∨ c = 484) (s : ∀ j, j = 2 ∨ (21 ≤ j ∧ j ≤ 28) ∨ j = 34 → gI σ' 483 j = gI σ 483 j) (e1 : gI σ' 483 1 = w32 (l : Int)) (e2 : ∀ i, i < l → gI σ' 484 i = (w32 (b i)).toInt8.toInt32) : RInv (stT S l b) σ' := by
  obtain ⟨⟨a1, a2⟩, ⟨b1, b2, b3, b4, b5, b6, b7, b8⟩, ⟨c1, c2⟩, -, ⟨q1, q2⟩, g⟩ := hR
  have no : ∀ c, 485 ≤ c → gI σ' c = gI σ c := fun c hc => f.gI (fun z => by have := hv c z; omega)
  refine ⟨⟨?_, ?_⟩, ⟨?_, ?_, ?_, ?_, ?_, ?_, ?_, ?_⟩, ⟨?_, fun q hq => ?_⟩, ⟨e1, e2⟩, ⟨?_, fun i hi => ?_⟩, fun q hq => ?_⟩
  · rw [no _ (by decide)]; exact a1
  · rw [no _ (by decide)]; exact a2
  · rw [s 21 (by omega)]; exact b1
  · rw [s 22 (by omega)]; exact b2
  · rw [s 23 (by omega)]; exact b3
  · rw [s 24 (by omega)]; exact b4
  · rw [s 25 (by omega)]; exact b5
  · rw [s 26 (by omega)]; exact b6
  · rw [s 27 (by omega)]; exact b7
  · rw [s 28 (by omega)]; exact b8
  · rw [s 2 (by omega)]; exact c1
  · obtain ⟨x, y, z⟩ := c2 q hq
    refine ⟨by rw [no _ (by decide)]; exact x, fun j hj => by rw [no _ (by decide)]; exact y j hj, fun i hi => ?_⟩
    rw [no _ (by decide)]; exact z i hi
  · rw [s 34 (by omega)]; exact q1
  · rw [no _ (by decide)]; exact q2 i hi
  · have gq := g q hq
    show match sIm S q with | none => _ | some w => _
    cases hI : sIm S q with
    | none =>
      rw [hI] at gq
      rw [no _ (by decide)]; exact gq
    | some w =>
      rw [hI] at gq
      rw [no _ (by decide), no _ (by decide), no _ (by decide), no _ (by decide)]
      exact gq
theorem end_q {F t : Nat} {S : Ab} {σ : Mem} (hC : CInv S σ) (hR : RInv S σ) (wfx : Wfx t S) (x : Int32) : Acts t (m11_end F x σ) (m12_end F x) := by
  obtain ⟨c, rfl, c1, c2⟩ := arg x
  have wf := wfx.1
  have rc6 := wf.2.1.1
  have l4 := wf.2.2.1.1
  have e4 : gI σ 1 1 = w32 (sLen S : Int) := hC.2.2.1.1
  by_cases hc : 0 ≤ c ∧ c ≤ sLen S
  · have m1 : m11_end F (w32 c) σ = some (w32 c, sI σ 1 1 (w32 c)) := by
      unfold m11_end
      rw [if_neg (by rw [wl_0, w_lt (by omega) (by omega) (by omega) (by omega)]; omega), e4, if_pos (by rw [w_le (by omega) (by omega) (by omega) (by omega)]; omega)]
    have f1 := f11_end m1
    have hR1 := hR.cls wf f1 (fun c z => by unfold Wm11_end at z; omega)
    have e2 : gI (sI σ 1 1 (w32 c)) 483 1 = w32 (sLen S : Int) := hR1.2.2.2.1.1
    have m2 : m12_end F (w32 c) (sI σ 1 1 (w32 c)) = some (w32 c, sI (sI σ 1 1 (w32 c)) 483 1 (w32 c)) := by
      unfold m12_end
      rw [if_neg (by rw [wl_0, w_lt (by omega) (by omega) (by omega) (by omega)]; omega), e2, if_pos (by rw [w_le (by omega) (by omega) (by omega) (by omega)]; omega)]
    have f2 := f12_end m2
    obtain ⟨d, rfl⟩ : ∃ d : Nat, c = d := ⟨c.toNat, by omega⟩
    have hC1 : CInv (stT S d (sB S)) (sI σ 1 1 (w32 (d : Int))) := hC.T rc6 f1 (fun c z => by unfold Wm11_end at z; omega) (by rw [gI_eq]) (fun i hi => by rw [f1.gI (by unfold Wm11_end; omega)]; exact hC.2.2.1.2 i (by omega))
    refine ⟨stT S d (sB S), ⟨⟨wf.1, wf.2.1, ⟨by show d ≤ 400; omega, fun i hi => ?_⟩, wf.2.2.2⟩, wfx.2⟩, _, _, _, m1, m2, ?_, ?_⟩
    · have hi : i < d := hi
      exact wf.2.2.1.2 i (by omega)
    · exact hC1.fr rc6 f2 (fun c z => by unfold Wm12_end at z; unfold Scr; omega)
    · exact hR1.T f2 (fun c z => by unfold Wm12_end at z; omega) (fun j hj => by rw [gI_nej (by omega)]) (by rw [gI_eq]) (fun i hi => by rw [f2.gI (by unfold Wm12_end; omega)]; exact hR1.2.2.2.1.2 i (by omega))
  · refine ⟨S, wfx, -1, σ, σ, ?_, ?_, hC, hR⟩
    · unfold m11_end
      by_cases h1 : c < 0
      · rw [if_pos (by rw [wl_0, w_lt (by omega) (by omega) (by omega) (by omega)]; exact h1)]
      · rw [if_neg (by rw [wl_0, w_lt (by omega) (by omega) (by omega) (by omega)]; exact h1), e4, if_neg (by rw [w_le (by omega) (by omega) (by omega) (by omega)]; omega)]
    · have e2 : gI σ 483 1 = w32 (sLen S : Int) := hR.2.2.2.1.1
      unfold m12_end
      by_cases h1 : c < 0
      · rw [if_pos (by rw [wl_0, w_lt (by omega) (by omega) (by omega) (by omega)]; exact h1)]
      · rw [if_neg (by rw [wl_0, w_lt (by omega) (by omega) (by omega) (by omega)]; exact h1), e2, if_neg (by rw [w_le (by omega) (by omega) (by omega) (by omega)]; omega)]
