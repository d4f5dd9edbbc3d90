/-! what can be undone -/
def pof (S : Ab) : Nat := if sPc S = 20 then 1 else 0
def npc (S : Ab) : Nat := sPc S + 1 - pof S
def nh (S : Ab) (i : Nat) : Dat := if i + pof S = sPc S then wA (sW S) else sH S (i + pof S)
def pushS (S : Ab) : Ab := stW S (sW S) (npc S) (nh S)
theorem pof_rg {S : Ab} (h : sPc S ≤ 20) : (sPc S = 20 ∧ pof S = 1 ∧ npc S = 20) ∨ (sPc S < 20 ∧ pof S = 0 ∧ npc S = sPc S + 1) := by
  unfold npc pof
  by_cases e : sPc S = 20
  · rw [if_pos e]; omega
  · rw [if_neg e]; omega
theorem pushS_wf {t : Nat} {S : Ab} (wf : Wf t S) : Wf t (pushS S) := by
  have p := pof_rg wf.2.2.2.1.1
  refine ⟨wf.1, wf.2.1, wf.2.2.1, ⟨by show npc S ≤ 20; omega, fun i hi => ?_⟩, wf.2.2.2.2⟩
  have hi : i < npc S := hi
  show WfSt (wP (sW S)) (nh S i) t
  unfold nh
  by_cases e : i + pof S = sPc S
  · rw [if_pos e]; exact wf.1.2.1
  · rw [if_neg e]; exact wf.2.2.2.1.2 _ (by omega)
theorem remember_c {F t : Nat} {S : Ab} {σ : Mem} (hC : CInv S σ) (wf : Wf t S) (hF : 1000 ≤ F) : ∃ σ1, m11_remember F σ = some σ1 ∧ CInv (pushS S) σ1 := by
  have p := pof_rg wf.2.2.2.1.1
  obtain ⟨pn, q1, q2, q3, q4⟩ := id hC.2.2.2.1
  obtain ⟨σa, m, s⟩ := cpS_ok (F := F) (c0 := 187 + 10 * pn) (c1 := 26) (by omega) (by omega) hC.1.2.1
  have fa := f7_copyFrom m
  have a7 : gI σa 0 7 = w32 (pn : Int) := by rw [fa.gI (by unfold Wm7_copyFrom; omega)]; exact q2
  have a6 : gI σa 0 6 = w32 (sPc S : Int) := by rw [fa.gI (by unfold Wm7_copyFrom; omega)]; exact q3
  have er : remI (w32 (pn : Int) + (1 : Int32)) (20 : Int32) = w32 (((pn + 1) % 20 : Nat) : Int) := by
    rw [w_succ]
    exact w_remN (a := pn + 1) (b := 20) (by omega) (by omega)
  have em : mnI (20 : Int32) (w32 (sPc S : Int) + (1 : Int32)) = w32 (npc S : Int) := by
    rw [w_succ, wl_20]
    unfold mnI
    rcases p with ⟨p1, p2, p3⟩ | ⟨p1, p2, p3⟩
    · rw [if_neg (by rw [w_lt (by omega) (by omega) (by omega) (by omega)]; omega), p3]; rfl
    · by_cases h : sPc S = 19
      · rw [if_neg (by rw [w_lt (by omega) (by omega) (by omega) (by omega)]; omega), p3, h]; rfl
      · rw [if_pos (by rw [w_lt (by omega) (by omega) (by omega) (by omega)]; omega), p3]
  have mm : m11_remember F σ = some (sI (sI σa 0 7 (w32 (((pn + 1) % 20 : Nat) : Int))) 0 6 (w32 (npc S : Int))) := by
    unfold m11_remember
    rw [q2, gd_pos (w_inB (by omega) (by omega) (by omega)), w_natk (by omega), m, Option.bind_some]
    show some (sI (sI σa 0 7 (remI (gI σa 0 7 + (1 : Int32)) (20 : Int32))) 0 6 (mnI (20 : Int32) (gI (sI σa 0 7 (remI (gI σa 0 7 + (1 : Int32)) (20 : Int32))) 0 6 + (1 : Int32)))) = _
    rw [gI_nej (by decide), a7, a6, er, em]
  refine ⟨_, mm, ?_⟩
  have f := f11_remember mm
  have f2 : Fr (fun c => c = 0) σa (sI (sI σa 0 7 (w32 (((pn + 1) % 20 : Nat) : Int))) 0 6 (w32 (npc S : Int))) := ((Fr.rf (fun c => c = 0) σa).sI rfl).sI rfl
  refine hC.W wf.2.1.1 f (fun c z => by unfold Wm11_remember at z; omega) (hC.1.fr f (fun i hi => by unfold Wm11_remember; omega)) ?_ ⟨(pn + 1) % 20, by omega, ?_, ?_, fun i hi => ?_⟩
  · rw [gI_nej (by decide), gI_nej (by decide), fa.gI (by unfold Wm7_copyFrom; omega)]
  · rw [gI_nej (by decide), gI_eq]
  · rw [gI_eq]
  · refine RepS.fr ?_ f2 (fun a ha => by have := past_rg (pn := (pn + 1) % 20) (pc := npc S) (i := i); omega)
    unfold nh
    by_cases e : i + pof S = sPc S
    · rw [if_pos e, show pastAt ((pn + 1) % 20) (npc S) i = 187 + 10 * pn by unfold pastAt; omega]
      exact s
    · rw [if_neg e, show pastAt ((pn + 1) % 20) (npc S) i = pastAt pn (sPc S) (i + pof S) by unfold pastAt; omega]
      refine (q4 (i + pof S) (by omega)).fr fa (fun a ha => ?_)
      have h1 : pastAt pn (sPc S) (i + pof S) ≠ 187 + 10 * pn := by unfold pastAt; omega
      have h2 : ∃ z, pastAt pn (sPc S) (i + pof S) = 187 + 10 * z := ⟨_, rfl⟩
      obtain ⟨z, hz⟩ := h2
      rw [hz] at h1 ⊢
      unfold Wm7_copyFrom
      omega
theorem keep52 {F p : Nat} {σ0 : Mem} (hp : p < 20) : ∀ (d n x : Nat) (σ : Mem), x + d = 98 → d < n → gI σ 493 = gI σ0 493 → gI σ 483 34 = w32 (p : Int) → (∀ j, gI σ 483 j = gI σ0 483 j) → (∀ k, gI σ 497 k = if 98 * p ≤ k ∧ k < 98 * p + x then gI σ0 493 (k - 98 * p) else gI σ0 497 k) → ∃ σ', m12_keepsAct_52 F n (w32 (x : Int)) σ = some σ' ∧ gI σ' 483 34 = w32 ((p + 1 : Nat) : Int) ∧ (∀ j, j ≠ 34 → gI σ' 483 j = gI σ0 483 j) ∧ ∀ k, gI σ' 497 k = if 98 * p ≤ k ∧ k < 98 * p + 98 then gI σ0 493 (k - 98 * p) else gI σ0 497 k := by
  intro d
  induction d with
  | zero =>
    intro n x σ h1 h2 e1 e2 e4 e3
    obtain ⟨n, rfl⟩ : ∃ k, n = k + 1 := ⟨n - 1, by omega⟩
    have hx : x = 98 := by omega
    subst hx
    unfold m12_keepsAct_52
    rw [if_pos (by rw [wl_98, w_le (by omega) (by omega) (by omega) (by omega)]; omega), e2, w_succ]
    refine ⟨_, rfl, by rw [gI_eq], fun j hj => by rw [gI_nej (by omega)]; exact e4 j, fun k => by rw [gI_nec (by decide)]; exact e3 k⟩
  | succ d ih =>
    intro n x σ h1 h2 e1 e2 e4 e3
    obtain ⟨n, rfl⟩ : ∃ k, n = k + 1 := ⟨n - 1, by omega⟩
    have ex : (98 : Int32) * w32 (p : Int) + w32 (x : Int) = w32 ((98 * p + x : Nat) : Int) := by rw [wl_98, w_mul, w_add]; congr 1 <;> omega
    unfold m12_keepsAct_52
    rw [if_neg (by rw [wl_98, w_le (by omega) (by omega) (by omega) (by omega)]; omega), gd_pos (w_inB (by omega) (by omega) (by omega)), e2, ex, gd_pos (w_inB (by omega) (by omega) (by omega)), w_natk (by omega), w_natk (by omega), w_succ]
    refine ih n (x + 1) _ (by omega) (by omega) (by funext j; rw [gI_nec (by decide), e1]) (by rw [gI_nec (by decide)]; exact e2) (fun j => by rw [gI_nec (by decide)]; exact e4 j) (fun k => ?_)
    by_cases hk : k = 98 * p + x
    · rw [hk, gI_eq, if_pos (by omega), e1, show 98 * p + x - 98 * p = x by omega]
    · rw [gI_nej (by omega), e3 k]
      by_cases a : 98 * p ≤ k ∧ k < 98 * p + x
      · rw [if_pos a, if_pos (by omega)]
      · rw [if_neg a, if_neg (by omega)]
theorem keep12 {F : Nat} {k52 : Int32 → Mem → Option Mem} {σ0 : Mem} : ∀ (d n x : Nat) (σ : Mem), x + d = 1960 → d < n → 98 ≤ x → (∀ c, c ≠ 497 → gI σ c = gI σ0 c) → (∀ k, gI σ 497 k = if k + 98 < x then gI σ0 497 (k + 98) else gI σ0 497 k) → ∃ σ', m12_keepsAct_12 F k52 n (w32 (x : Int)) σ = k52 (0 : Int32) (sI σ' 483 34 (gI σ' 483 34 - (1 : Int32))) ∧ (∀ c, c ≠ 497 → gI σ' c = gI σ0 c) ∧ ∀ k, gI σ' 497 k = if k + 98 < 1960 then gI σ0 497 (k + 98) else gI σ0 497 k := by
  intro d
  induction d with
  | zero =>
    intro n x σ h1 h2 h3 e1 e2
    obtain ⟨n, rfl⟩ : ∃ k, n = k + 1 := ⟨n - 1, by omega⟩
    have hx : x = 1960 := by omega
    subst hx
    unfold m12_keepsAct_12
    rw [if_pos (by rw [wl_1960, w_le (by omega) (by omega) (by omega) (by omega)]; omega)]
    exact ⟨σ, rfl, e1, e2⟩
  | succ d ih =>
    intro n x σ h1 h2 h3 e1 e2
    obtain ⟨n, rfl⟩ : ∃ k, n = k + 1 := ⟨n - 1, by omega⟩
    have ex : w32 (x : Int) - (98 : Int32) = w32 ((x - 98 : Nat) : Int) := by rw [wl_98, w_sub]; congr 1; omega
    unfold m12_keepsAct_12
    rw [if_neg (by rw [wl_1960, w_le (by omega) (by omega) (by omega) (by omega)]; omega), gd_pos (w_inB (by omega) (by omega) (by omega)), ex, gd_pos (w_inB (by omega) (by omega) (by omega)), w_natk (by omega), w_natk (by omega), w_succ]
    refine ih n (x + 1) _ (by omega) (by omega) (by omega) (fun c hc => by funext j; rw [gI_nec hc, e1 c hc]) (fun k => ?_)
    by_cases hk : k = x - 98
    · rw [hk, gI_eq, if_pos (by omega), e2 x, if_neg (by omega), show x - 98 + 98 = x by omega]
    · rw [gI_nej (by omega), e2 k]
      by_cases a : k + 98 < x
      · rw [if_pos a, if_pos (by omega)]
      · rw [if_neg a, if_neg (by omega)]
theorem keepsAct_r {F t : Nat} {S : Ab} {σ : Mem} (hR : RInv S σ) (wf : Wf t S) (hF : 10000 ≤ F) : ∃ σ1, m12_keepsAct F σ = some σ1 ∧ RInv (pushS S) σ1 := by
  have p := pof_rg wf.2.2.2.1.1
  obtain ⟨m5, hm, hm8⟩ := wf.1.1.1.2.1
  obtain ⟨n4, hn, hn3⟩ := wf.1.1.1.2.2.1
  have e34 : gI σ 483 34 = w32 (sPc S : Int) := hR.2.2.2.2.1.1
  have hpast := hR.2.2.2.2.1.2
  -- what both roads end in
  have fin : ∀ σ', m12_keepsAct F σ = some σ' → gI σ' 483 34 = w32 (npc S : Int) → (∀ j, j ≠ 34 → gI σ' 483 j = gI σ 483 j) → (∀ i, i + pof S < sPc S → ∀ k, k < 98 → gI σ' 497 (98 * i + k) = gI σ 497 (98 * (i + pof S) + k)) → (∀ k, k < 98 → gI σ' 497 (98 * (sPc S - pof S) + k) = gI σ 493 k) → RInv (pushS S) σ' := by
    intro σ' m k1 k2 k3 k4
    have f := f12_keepsAct m
    refine hR.W ?_ ?_ ?_ ?_ (fun j hj => k2 j (by omega)) k1 (fun i hi => ?_) (fun c hc => f.gI (by unfold Wm12_keepsAct; omega))
    · rw [f.gI (by unfold Wm12_keepsAct; omega)]; exact hR.1.1
    · rw [f.gI (by unfold Wm12_keepsAct; omega)]; exact hR.1.2
    · rw [k2 21 (by decide)]; exact hR.2.1.1
    · rw [k2 22 (by decide)]; exact hR.2.1.2.1
    · unfold nh
      by_cases e : i + pof S = sPc S
      · rw [if_pos e]
        refine hR.1.1.1.same (by omega) (by omega) (fun k hk => ?_)
        rw [← k4 k hk, show sPc S - pof S = i by omega]
      · rw [if_neg e]
        exact (hpast (i + pof S) (by omega)).same (by omega) (by omega) (fun k hk => k3 i (by omega) k hk)
  rcases p with ⟨p1, p2, p3⟩ | ⟨p1, p2, p3⟩
  · obtain ⟨σa, ma, a1, a2⟩ := keep12 (F := F) (k52 := fun x1 σ => m12_keepsAct_52 F F x1 σ) (σ0 := σ) 1862 F 98 σ (by omega) (by omega) (by omega) (fun _ _ => rfl) (fun k => by
      by_cases h : k + 98 < 98
      · omega
      · rw [if_neg h])
    have e19 : gI σa 483 34 - (1 : Int32) = w32 ((19 : Nat) : Int) := by rw [a1 483 (by decide), e34, p1]; rfl
    rw [e19] at ma
    obtain ⟨σb, mb, b1, b2, b3⟩ := keep52 (F := F) (p := 19) (σ0 := sI σa 483 34 (w32 ((19 : Nat) : Int))) (by omega) 98 F 0 (sI σa 483 34 (w32 ((19 : Nat) : Int))) (by omega) (by omega) rfl (by rw [gI_eq]) (fun _ => rfl) (fun k => by rw [if_neg (by omega)])
    have mm : m12_keepsAct F σ = some σb := by
      unfold m12_keepsAct
      rw [e34, if_pos (by rw [p1]; rfl)]
      exact ma.trans mb
    refine ⟨σb, mm, fin σb mm (b1.trans (by rw [p3])) (fun j hj => by rw [b2 j hj, gI_nej (by omega), a1 483 (by decide)]) (fun i hi k hk => ?_) (fun k hk => ?_)⟩
    · rw [b3, if_neg (by omega), gI_nec (by decide), a2, if_pos (by omega), p2, show 98 * i + k + 98 = 98 * (i + 1) + k by omega]
    · rw [b3, if_pos (by omega), gI_nec (by decide), a1 493 (by decide), p1, p2]
      rw [show 98 * (20 - 1) + k - 98 * 19 = k by omega]
  · obtain ⟨σb, mb, b1, b2, b3⟩ := keep52 (F := F) (p := sPc S) (σ0 := σ) (by omega) 98 F 0 σ (by omega) (by omega) rfl e34 (fun _ => rfl) (fun k => by rw [if_neg (by omega)])
    have mm : m12_keepsAct F σ = some σb := by
      unfold m12_keepsAct
      rw [e34, if_neg (fun z => by rw [wl_20, w_eq (by omega) (by omega) (by omega) (by omega)] at z; omega)]
      exact mb
    refine ⟨σb, mm, fin σb mm (b1.trans (by rw [p3])) b2 (fun i hi k hk => ?_) (fun k hk => ?_)⟩
    · rw [b3, if_neg (by omega), p2, Nat.add_zero]
    · rw [b3, if_pos (by omega), p2]
      congr 1; omega
