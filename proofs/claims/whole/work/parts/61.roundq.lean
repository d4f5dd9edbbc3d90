/-! QUERY: round, 5: the reference's search; the answer -/
def rs (c p : Nat) : Nat := if p = 0 then c else if p = 1 then c / 100 else if p = 2 then c / 10000 else 0
def RF (n : Nat) (P A0 : Dat) (ro : Option Dat) (σ : Mem) (c : Nat) : Prop := RepA σ P (setH A0 (hd n A0 c)) ∧ RepQ σ Kf ∧ RepFo σ ro
theorem RF.c499 {n : Nat} {P A0 : Dat} {ro : Option Dat} {σ : Mem} {c j : Nat} {v : Int32} (h : RF n P A0 ro σ c) : RF n P A0 ro (sI σ 499 j v) c := by
  obtain ⟨a, b, d⟩ := h
  have sl : Sl (fun _ => False) σ (sI σ 499 j v) := fun j' _ => gI_nec (by decide)
  exact ⟨a.same (gI_ne _ _ _ (by decide)) (gI_nec (by decide)), b.sl sl (fun _ _ _ _ z => z.elim), d.fr ((Fr.rf (fun c => c = 499) σ).sI rfl) sl (by decide) (by decide) (by decide) (fun z => z.elim)⟩
theorem TrV.c499 {z j : Nat} {σ0 σ : Mem} {v : Int32} (h : TrV z σ0 σ) : TrV z σ0 (sI σ 499 j v) := by
  obtain ⟨a, b, c, d⟩ := h
  refine ⟨fun k hk => by rw [gI_nec (by decide)]; exact a k hk, b.ne (by decide), c.sI (by unfold Wq; omega), fun k hk => by rw [gI_nec (by decide)]; exact d k hk⟩
theorem heats4 {F n c : Nat} {P A0 : Dat} {ro : Option Dat} {i1 : Int32} (wPl : WfPl P) (hn : P 0 4 = (n : Int)) (hl : c < 1000000) : ∀ (d n' p : Nat) (σ : Mem) (h : Nat → Int), p + d = n → d < n' → RepA σ P (setH A0 h) → RepQ σ Kf → RepFo σ ro → (∀ q, q < p → h q = (dg c q : Int)) → (∀ q, n ≤ q → h q = A0 1 q) →
    ∃ σ1, m12_heatsThen_4 F i1 n' (w32 (rs c p : Int)) (w32 (p : Int)) σ = Option.bind (m12_passes F σ1) (fun p1 => gd (inB (3 : Int32) 132 = true) (m12_heatsThen_58 F i1 F (0 : Int32) (((gI p1.2 493 ((3 : Int32)).toNatClampNeg) - (1 : Int32))) p1.2)) ∧ RF n P A0 ro σ1 c ∧ Tl σ σ1 := by
  obtain ⟨n', hn', hn3⟩ := wPl.1.2.2.1
  obtain ⟨m5, hm5, hm8⟩ := wPl.1.2.1
  intro d
  induction d with
  | zero =>
    intro n' p σ h h1 h2 hA hQ hR hd ho
    obtain ⟨n', rfl⟩ : ∃ k, n' = k + 1 := ⟨n' - 1, by omega⟩
    have e3 : gI σ 493 3 = w32 (P 0 4) := hA.2.1 3 (by decide)
    unfold m12_heatsThen_4
    rw [gd_pos (by decide), show (3 : Int32).toNatClampNeg = 3 from rfl, e3, hn, if_pos (by rw [w_le (by omega) (by omega) (by omega) (by omega)]; omega)]
    have e : h = Jvm.Pilot.COneAnvilLaw_law_r4938_9a21e7.hd n A0 c := by
      funext q
      unfold Jvm.Pilot.COneAnvilLaw_law_r4938_9a21e7.hd
      by_cases hq : q < n
      · rw [if_pos hq]; exact hd q (by omega)
      · rw [if_neg hq]; exact ho q (by omega)
    rw [e] at hA
    exact ⟨σ, rfl, ⟨hA, hQ, hR⟩, Tl.rf σ⟩
  | succ d ih =>
    intro n' p σ h h1 h2 hA hQ hR hd ho
    obtain ⟨n', rfl⟩ : ∃ k, n' = k + 1 := ⟨n' - 1, by omega⟩
    have e3 : gI σ 493 3 = w32 (P 0 4) := hA.2.1 3 (by decide)
    have i0 : (w32 10 + (w32 7 * w32 (p : Int))) = w32 ((10 + 7 * p : Nat) : Int) := by rw [w_mul, w_add]; congr 1
    have rb : rs c p ≤ 1000000 := by unfold rs; split; omega; split; omega; split <;> omega
    have r1 : rs c p % 100 = dg c p := by
      unfold rs dg
      rcases (show p = 0 ∨ p = 1 ∨ p = 2 by omega) with rfl | rfl | rfl <;> simp
    have r2 : rs c p / 100 = rs c (p + 1) := by
      unfold rs
      rcases (show p = 0 ∨ p = 1 ∨ p = 2 by omega) with rfl | rfl | rfl <;> simp <;> omega
    unfold m12_heatsThen_4
    rw [gd_pos (by decide), show (3 : Int32).toNatClampNeg = 3 from rfl, e3, hn, if_neg (by rw [w_le (by omega) (by omega) (by omega) (by omega)]; omega), wl_10, wl_7, i0, gd_pos (w_inB (by omega) (by omega) (by omega)), w_natk (by omega), show (100 : Int32) = w32 ((100 : Nat) : Int) from rfl, w_remN (by omega) (by decide), w_divN (by omega) (by decide), r1, r2, w_succ]
    have A1 := hA.upd (by omega) (by omega) 1 p (dg c p : Int) (by decide) (show (p : Int) < P 0 4 by omega)
    rw [setH_up] at A1
    have sl : Sl (fun _ => False) σ (sI σ 493 (10 + 7 * p) (w32 (dg c p : Int))) := fun j' _ => gI_nec (by decide)
    obtain ⟨σ1, m1, R1, t1⟩ := ih n' (p + 1) (sI σ 493 (10 + 7 * p) (w32 (dg c p : Int))) (upK h p (dg c p : Int)) (by omega) (by omega) A1 (hQ.sl sl (fun _ _ _ _ z => z.elim)) (hR.fr ((Fr.rf (fun c => c = 493) σ).sI rfl) sl (by decide) (by decide) (by decide) (fun z => z.elim)) (fun q hq => by
      unfold upK
      by_cases z : q = p
      · rw [if_pos z, z]
      · rw [if_neg z]; exact hd q (by omega)) (fun q hq => by
      unfold upK
      rw [if_neg (by omega)]; exact ho q hq)
    exact ⟨σ1, m1, R1, ((Tl.rf σ).at (by omega)).trans t1⟩
theorem heats58 {F n : Nat} {P A0 : Dat} {h : Nat → Int} {i1 : Int32} {σ : Mem} (wPl : WfPl P) (hn : P 0 4 = (n : Int)) (hA : RepA σ P (setH A0 h)) (hr : ∀ q, q < n → 0 ≤ h q ∧ h q ≤ 99) (hF : 100 ≤ F) : m12_heatsThen_58 F i1 F (0 : Int32) (w32 ((n : Int) - 1)) σ = some (w32 (encH n h : Int), σ) := by
  obtain ⟨n', hn', hn3⟩ := wPl.1.2.2.1
  have one : ∀ (k p : Nat) (x : Int), p < n → m12_heatsThen_58 F i1 (k + 1) (w32 x) (w32 (p : Int)) σ = m12_heatsThen_58 F i1 k (w32 (100 * x + h p)) (w32 ((p : Int) - 1)) σ := fun k p x hp => by
    have e : gI σ 493 (10 + 7 * p) = w32 (h p) := hA.1 1 p (by decide) (show (p : Int) < P 0 4 by omega)
    rw [m12_heatsThen_58, if_neg (by rw [wl_0, w_lt (by omega) (by omega) (by omega) (by omega)]; omega), so_0 (by omega), Option.bind_some, e, wl_100, w_mul, w_add, wl_m1, w_add]; rfl
  have fin : ∀ (k : Nat) (x : Int), m12_heatsThen_58 F i1 (k + 1) (w32 x) (w32 (-1)) σ = some (w32 x, σ) := fun k x => by
    rw [m12_heatsThen_58, if_pos (by decide)]
  have h0 := hr 0
  have h1 := hr 1
  have h2 := hr 2
  obtain ⟨G, rfl⟩ : ∃ q, F = q + 4 := ⟨F - 4, by omega⟩
  unfold encH
  rcases (show n = 0 ∨ n = 1 ∨ n = 2 ∨ n = 3 by omega) with rfl | rfl | rfl | rfl
  · rw [show (0 : Int32) = w32 0 from rfl, show ((0 : Nat) : Int) - 1 = -1 by omega, fin]; rfl
  · have := one (G + 3) 0 0 (by omega)
    rw [show (0 : Int32) = w32 0 from rfl, show ((1 : Nat) : Int) - 1 = ((0 : Nat) : Int) by omega, this, show ((0 : Nat) : Int) - 1 = -1 by omega, fin]
    congr 3
    simp; omega
  · have a1 := one (G + 3) 1 0 (by omega)
    have a0 := fun x => one (G + 2) 0 x (by omega)
    rw [show (0 : Int32) = w32 0 from rfl, show ((2 : Nat) : Int) - 1 = ((1 : Nat) : Int) by omega, a1, show ((1 : Nat) : Int) - 1 = ((0 : Nat) : Int) by omega, a0, show ((0 : Nat) : Int) - 1 = -1 by omega, fin]
    congr 3
    simp; omega
  · have a2 := one (G + 3) 2 0 (by omega)
    have a1 := fun x => one (G + 2) 1 x (by omega)
    have a0 := fun x => one (G + 1) 0 x (by omega)
    rw [show (0 : Int32) = w32 0 from rfl, show ((3 : Nat) : Int) - 1 = ((2 : Nat) : Int) by omega, a2, show ((2 : Nat) : Int) - 1 = ((1 : Nat) : Int) by omega, a1, show ((1 : Nat) : Int) - 1 = ((0 : Nat) : Int) by omega, a0, show ((0 : Nat) : Int) - 1 = -1 by omega, fin]
    congr 3
    simp; omega
theorem heatsF {F n c c0 : Nat} {P A0 : Dat} {ro : Option Dat} {σ : Mem} (wPl : WfPl P) (hn : P 0 4 = (n : Int)) (wA : WfA P A0) (bA : Bd 10000000 A0) (hc : Gd n P A0 c) (hl : c < 1000000) (hR : RF n P A0 ro σ c0) (hF : 1000 ≤ F) :
    ∃ σ', m12_heatsThen F (w32 (c : Int)) σ = some (w32 (gN n P A0 ro c : Int), σ') ∧ RF n P A0 ro σ' (gN n P A0 ro c) ∧ (∀ q, q < n → gI σ' 496 q = w32 (hB P A0 ro (hd n A0 c) q)) ∧ Tl σ σ' := by
  obtain ⟨n', hn', hn3⟩ := wPl.1.2.2.1
  have b99 := wPl.2.2.2.2.2.1
  obtain ⟨e1, e2, e3⟩ := gN_ok (ro := ro) wPl hn hc
  obtain ⟨σ1, m1, R1, t1⟩ := heats4 (F := F) (i1 := w32 (c : Int)) wPl hn hl n F 0 σ (hd n A0 c0) (by omega) (by omega) hR.1 hR.2.1 hR.2.2 (fun q hq => absurd hq (Nat.not_lt_zero _)) (fun q hq => by unfold hd; rw [if_neg (by omega)])
  obtain ⟨σ2, tot, m2, A2, Q2, F2, k2, t2⟩ := passesF (F := F) wPl hn wA bA R1.1 R1.2.1 R1.2.2 hc (fun q hq => by unfold hd; rw [if_neg (by omega)]) hF
  have q3 : gI σ2 493 3 = w32 (P 0 4) := A2.2.1 3 (by decide)
  have rg : ∀ q, q < n → 0 ≤ hN P A0 ro (hd n A0 c) q ∧ hN P A0 ro (hd n A0 c) q ≤ 99 := fun q hq => by
    have := e2 q hq
    rw [e1] at this
    omega
  refine ⟨σ2, ?_, ⟨by rw [e1]; exact A2, Q2, F2⟩, k2, t1.trans t2⟩
  unfold m12_heatsThen
  have m1' : m12_heatsThen_4 F (w32 (c : Int)) F (w32 (c : Int)) (0 : Int32) σ = _ := m1
  rw [m1', m2, Option.bind_some, gd_pos (by decide), show (3 : Int32).toNatClampNeg = 3 from rfl]
  try dsimp only
  rw [q3, hn, wl_1, w_sub, heats58 wPl hn A2 rg (by omega)]
  rfl
theorem heatsF_tr {F n c c0 z : Nat} {P A0 : Dat} {ro : Option Dat} {σ0 σ : Mem} (wPl : WfPl P) (hn : P 0 4 = (n : Int)) (wA : WfA P A0) (bA : Bd 10000000 A0) (hc : Gd n P A0 c) (hl : c < 1000000) (hR : RF n P A0 ro σ c0) (tr : TrV z σ0 σ) (hF : 1000 ≤ F) :
    ∃ σ', m12_heatsThen F (w32 (c : Int)) σ = some (w32 (gN n P A0 ro c : Int), σ') ∧ RF n P A0 ro σ' (gN n P A0 ro c) ∧ (∀ q, q < n → gI σ' 496 q = w32 (hB P A0 ro (hd n A0 c) q)) ∧ TrV z σ0 σ' ∧ gI σ' 499 = gI σ 499 := by
  obtain ⟨σ', m, a, b, t⟩ := heatsF (F := F) wPl hn wA bA hc hl hR hF
  have f := f12_heatsThen m
  have s := f12_heatsThen_s m
  exact ⟨σ', m, a, b, tr.pass t (f.mono (fun c z => by unfold Wm12_heatsThen at z; exact z)) (s.mono (fun c z => by unfold Vm12_heatsThen at z; exact z)), f.gI (by unfold Wm12_heatsThen; omega)⟩
theorem floyd {F n x z T : Nat} {P A0 : Dat} {ro : Option Dat} {σ0 : Mem} (wPl : WfPl P) (hn : P 0 4 = (n : Int)) (wA : WfA P A0) (bA : Bd 10000000 A0) (hx : Gd n P A0 x) (he : encH n (hd n A0 x) = x) (hl : x < 1000000) (hT : itg (gN n P A0 ro) T x = itg (gN n P A0 ro) (2 * T + 1) x) (hF : 1000 ≤ F) : ∀ (d n' t c0 : Nat) (σ : Mem), t + d = T → d < n' → RF n P A0 ro σ c0 → TrV z σ0 σ →
    ∃ (σ' : Mem) (k c1 : Nat), m12_roundNow_39 F n' (w32 (itg (gN n P A0 ro) t x : Int)) (w32 (itg (gN n P A0 ro) (2 * t + 1) x : Int)) σ = m12_roundNow_68 F F (w32 (itg (gN n P A0 ro) k x : Int)) (w32 (itg (gN n P A0 ro) k x : Int)) (0 : Int32) (0 : Int32) σ' ∧ itg (gN n P A0 ro) k x = itg (gN n P A0 ro) (2 * k + 1) x ∧ k ≤ T ∧ RF n P A0 ro σ' c1 ∧ TrV z σ0 σ' := by
  intro d
  induction d with
  | zero =>
    intro n' t c0 σ h1 h2 hR tr
    obtain ⟨n', rfl⟩ : ∃ k, n' = k + 1 := ⟨n' - 1, by omega⟩
    have ht : t = T := by omega
    subst ht
    refine ⟨σ, t, c0, ?_, hT, Nat.le_refl _, hR, tr⟩
    unfold m12_roundNow_39
    rw [← hT, if_pos rfl]
  | succ d ih =>
    intro n' t c0 σ h1 h2 hR tr
    obtain ⟨n', rfl⟩ : ∃ k, n' = k + 1 := ⟨n' - 1, by omega⟩
    obtain ⟨g1, -, l1⟩ := orb_ok (ro := ro) wPl hn hx he hl t
    obtain ⟨g2, -, l2⟩ := orb_ok (ro := ro) wPl hn hx he hl (2 * t + 1)
    obtain ⟨g3, -, l3⟩ := orb_ok (ro := ro) wPl hn hx he hl (2 * t + 2)
    unfold m12_roundNow_39
    by_cases h : itg (gN n P A0 ro) t x = itg (gN n P A0 ro) (2 * t + 1) x
    · rw [← h, if_pos rfl]
      exact ⟨σ, t, c0, rfl, h, by omega, hR, tr⟩
    · rw [if_neg (by rw [w_eq (by omega) (by omega) (by omega) (by omega)]; omega)]
      obtain ⟨σ1, m1, R1, -, tr1, -⟩ := heatsF_tr (F := F) wPl hn wA bA g1 l1 hR tr hF
      rw [← itg_succ (g := gN n P A0 ro)] at m1 R1
      obtain ⟨σ2, m2, R2, -, tr2, -⟩ := heatsF_tr (F := F) wPl hn wA bA g2 l2 R1 tr1 hF
      rw [← itg_succ (g := gN n P A0 ro)] at m2 R2
      obtain ⟨σ3, m3, R3, -, tr3, -⟩ := heatsF_tr (F := F) wPl hn wA bA g3 l3 R2 tr2 hF
      rw [← itg_succ (g := gN n P A0 ro)] at m3 R3
      rw [m1, Option.bind_some]
      try dsimp only
      rw [m2, Option.bind_some]
      try dsimp only
      rw [m3, Option.bind_some]
      exact ih n' (t + 1) _ σ3 (by omega) (by omega) R3 tr3
theorem zero68 {F n z c0 : Nat} {P A0 : Dat} {ro : Option Dat} {σ0 : Mem} {x1 x2 : Int32} : ∀ (d n' p : Nat) (σ : Mem), p + d = 3 → d < n' → RF n P A0 ro σ c0 → TrV z σ0 σ → (∀ q, q < p → gI σ 499 q = w32 0) → ∃ σ', m12_roundNow_68 F n' x1 x2 (0 : Int32) (w32 (p : Int)) σ = m12_roundNow_88 F F x1 x2 (0 : Int32) σ' ∧ RF n P A0 ro σ' c0 ∧ TrV z σ0 σ' ∧ (∀ q, q < 3 → gI σ' 499 q = w32 0) := by
  intro d
  induction d with
  | zero =>
    intro n' p σ h1 h2 hR tr h
    obtain ⟨n', rfl⟩ : ∃ k, n' = k + 1 := ⟨n' - 1, by omega⟩
    unfold m12_roundNow_68
    rw [if_pos (by rw [wl_3, w_le (by omega) (by omega) (by omega) (by omega)]; omega)]
    exact ⟨σ, rfl, hR, tr, fun q hq => h q (by omega)⟩
  | succ d ih =>
    intro n' p σ h1 h2 hR tr h
    obtain ⟨n', rfl⟩ : ∃ k, n' = k + 1 := ⟨n' - 1, by omega⟩
    unfold m12_roundNow_68
    rw [if_neg (by rw [wl_3, w_le (by omega) (by omega) (by omega) (by omega)]; omega), gd_pos (w_inB (by omega) (by omega) (by omega)), w_natk (by omega), w_succ]
    exact ih n' (p + 1) _ (by omega) (by omega) hR.c499 tr.c499 (fun q hq => by
      by_cases z : q = p
      · rw [z, gI_eq]; rfl
      · rw [gI_nej z]; exact h q (by omega))
theorem add106 {F n z c0 : Nat} {P A0 : Dat} {ro : Option Dat} {σ0 : Mem} {k88 : Int32 → Int32 → Int32 → Mem → Option (Int32 × Mem)} {x1 x2 x3 : Int32} {v : Nat → Int} {b : Nat → Int} (wPl : WfPl P) (hn : P 0 4 = (n : Int)) : ∀ (d n' p : Nat) (σ : Mem), p + d = n → d < n' → RF n P A0 ro σ c0 → TrV z σ0 σ → (∀ q, q < n → gI σ 496 q = w32 (b q)) → (∀ q, q < n → gI σ 499 q = w32 (if q < p then v q + b q else v q)) → ∃ σ', m12_roundNow_106 F k88 n' x1 x2 x3 (w32 (p : Int)) σ = k88 x1 x2 (x3 + (1 : Int32)) σ' ∧ RF n P A0 ro σ' c0 ∧ TrV z σ0 σ' ∧ (∀ q, q < n → gI σ' 499 q = w32 (v q + b q)) := by
  obtain ⟨n', hn', hn3⟩ := wPl.1.2.2.1
  intro d
  induction d with
  | zero =>
    intro n' p σ h1 h2 hR tr h496 h
    obtain ⟨n', rfl⟩ : ∃ k, n' = k + 1 := ⟨n' - 1, by omega⟩
    have e3 : gI σ 493 3 = w32 (P 0 4) := hR.1.2.1 3 (by decide)
    unfold m12_roundNow_106
    rw [gd_pos (by decide), show (3 : Int32).toNatClampNeg = 3 from rfl, e3, hn, if_pos (by rw [w_le (by omega) (by omega) (by omega) (by omega)]; omega)]
    exact ⟨σ, rfl, hR, tr, fun q hq => by rw [h q hq, if_pos (by omega)]⟩
  | succ d ih =>
    intro n' p σ h1 h2 hR tr h496 h
    obtain ⟨n', rfl⟩ : ∃ k, n' = k + 1 := ⟨n' - 1, by omega⟩
    have e3 : gI σ 493 3 = w32 (P 0 4) := hR.1.2.1 3 (by decide)
    unfold m12_roundNow_106
    rw [gd_pos (by decide), show (3 : Int32).toNatClampNeg = 3 from rfl, e3, hn, if_neg (by rw [w_le (by omega) (by omega) (by omega) (by omega)]; omega), gd_pos (w_inB (by omega) (by omega) (by omega)), gd_pos (w_inB (by omega) (by omega) (by omega)), gd_pos (w_inB (by omega) (by omega) (by omega)), w_natk (by omega), h p (by omega), if_neg (by omega), h496 p (by omega), w_add, w_succ]
    exact ih n' (p + 1) _ (by omega) (by omega) hR.c499 tr.c499 (fun q hq => by rw [gI_nec (by decide)]; exact h496 q hq) (fun q hq => by
      by_cases z : q = p
      · rw [z, gI_eq, if_pos (by omega)]
      · rw [gI_nej z, h q hq]
        by_cases y : q < p
        · rw [if_pos y, if_pos (by omega)]
        · rw [if_neg y, if_neg (by omega)])
theorem cyc88 {F n x z k r : Nat} {P A0 : Dat} {ro : Option Dat} {σ0 : Mem} (wPl : WfPl P) (hn : P 0 4 = (n : Int)) (wA : WfA P A0) (bA : Bd 10000000 A0) (hx : Gd n P A0 x) (he : encH n (hd n A0 x) = x) (hl : x < 1000000) (hret : Ret (gN n P A0 ro) (itg (gN n P A0 ro) k x) r) (hr : r ≤ 2000000) (hF : 1000 ≤ F) : ∀ (d n' s c0 : Nat) (σ : Mem), s + d = r → d < n' → RF n P A0 ro σ c0 → TrV z σ0 σ → (∀ q, q < n → gI σ 499 q = w32 (SB n P A0 ro q s (itg (gN n P A0 ro) k x))) →
    ∃ σ', m12_roundNow_88 F n' (w32 (itg (gN n P A0 ro) k x : Int)) (w32 (itg (gN n P A0 ro) (s + k) x : Int)) (w32 (s : Int)) σ = some (w32 (r : Int), σ') ∧ TrV z σ0 σ' ∧ (∀ q, q < n → gI σ' 499 q = w32 (SB n P A0 ro q r (itg (gN n P A0 ro) k x))) := by
  obtain ⟨n', hn', hn3⟩ := wPl.1.2.2.1
  obtain ⟨r1, r2, r3⟩ := id hret
  obtain ⟨gk, -, lk⟩ := orb_ok (ro := ro) wPl hn hx he hl k
  intro d
  induction d with
  | zero =>
    intro n' s c0 σ h1 h2 hR tr h
    obtain ⟨n', rfl⟩ : ∃ k, n' = k + 1 := ⟨n' - 1, by omega⟩
    have hs : s = r := by omega
    subst hs
    unfold m12_roundNow_88
    rw [itg_add, r2, if_neg (by rw [wl_0, w_eq (by omega) (by omega) (by omega) (by omega)]; omega), if_pos rfl]
    exact ⟨σ, rfl, tr, h⟩
  | succ d ih =>
    intro n' s c0 σ h1 h2 hR tr h
    obtain ⟨n', rfl⟩ : ∃ k, n' = k + 1 := ⟨n' - 1, by omega⟩
    obtain ⟨gs, -, ls⟩ := orb_ok (ro := ro) wPl hn hx he hl (s + k)
    have main : ∃ σ', m12_roundNow_97 F (fun x1 x2 x3 σ => m12_roundNow_88 F n' x1 x2 x3 σ) (w32 (itg (gN n P A0 ro) k x : Int)) (w32 (itg (gN n P A0 ro) (s + k) x : Int)) (w32 (s : Int)) σ = some (w32 (r : Int), σ') ∧ TrV z σ0 σ' ∧ (∀ q, q < n → gI σ' 499 q = w32 (SB n P A0 ro q r (itg (gN n P A0 ro) k x))) := by
      obtain ⟨σ1, m1, R1, k1, tr1, o1⟩ := heatsF_tr (F := F) wPl hn wA bA gs ls hR tr hF
      rw [← itg_succ (g := gN n P A0 ro)] at m1 R1
      obtain ⟨σ2, m2, R2, tr2, k2⟩ := add106 (F := F) (k88 := fun x1 x2 x3 σ => m12_roundNow_88 F n' x1 x2 x3 σ) (x1 := w32 (itg (gN n P A0 ro) k x : Int)) (x2 := w32 (itg (gN n P A0 ro) (s + k + 1) x : Int)) (x3 := w32 (s : Int)) (v := fun q => SB n P A0 ro q s (itg (gN n P A0 ro) k x)) (b := fun q => hB P A0 ro (hd n A0 (itg (gN n P A0 ro) (s + k) x)) q) wPl hn n F 0 σ1 (by omega) (by omega) R1 tr1 k1 (fun q hq => by rw [if_neg (Nat.not_lt_zero _), o1]; exact h q hq)
      obtain ⟨σ3, m3, tr3, k3⟩ := ih n' (s + 1) _ σ2 (by omega) (by omega) R2 tr2 (fun q hq => by
        rw [k2 q hq]
        unfold SB
        rw [sumg_succ, ← itg_add])
      refine ⟨σ3, ?_, tr3, k3⟩
      unfold m12_roundNow_97
      rw [m1, Option.bind_some]
      have m2' : m12_roundNow_106 F (fun x1 x2 x3 σ => m12_roundNow_88 F n' x1 x2 x3 σ) F (w32 (itg (gN n P A0 ro) k x : Int)) (w32 (itg (gN n P A0 ro) (s + k + 1) x : Int)) (w32 (s : Int)) (0 : Int32) σ1 = _ := m2
      try dsimp only
      rw [m2', w_succ, ← m3, show s + 1 + k = s + k + 1 by omega]
    unfold m12_roundNow_88
    by_cases hs : s = 0
    · rw [if_pos (by rw [hs]; rfl)]; exact main
    · rw [if_neg (by rw [wl_0, w_eq (by omega) (by omega) (by omega) (by omega)]; omega)]
      have ne : itg (gN n P A0 ro) (s + k) x ≠ itg (gN n P A0 ro) k x := by
        rw [itg_add]; exact r3 s (by omega) (by omega)
      rw [if_neg (by rw [w_eq (by omega) (by omega) (by omega) (by omega)]; omega)]
      exact main
theorem now_r {F n z : Nat} {P A0 : Dat} {ro : Option Dat} {σ0 σ : Mem} (wPl : WfPl P) (hn : P 0 4 = (n : Int)) (wA : WfA P A0) (bA : Bd 10000000 A0) (hA : RepA σ P A0) (hQ : RepQ σ Kf) (hR : RepFo σ ro) (tr : TrV z σ0 σ) (hF : 5000000 ≤ F) :
    ∃ (σ' : Mem) (k r : Nat), m12_roundNow F σ = some (w32 (r : Int), σ') ∧ Ret (gN n P A0 ro) (itg (gN n P A0 ro) k (encH n (A0 1))) r ∧ TrV z σ0 σ' ∧ (∀ q, q < n → gI σ' 499 q = w32 (SB n P A0 ro q r (itg (gN n P A0 ro) k (encH n (A0 1))))) := by
  obtain ⟨n', hn', hn3⟩ := wPl.1.2.2.1
  have b99 := wPl.2.2.2.2.2.1
  have rg9 : ∀ p, p < n → 0 ≤ A0 1 p ∧ A0 1 p ≤ 99 := fun p hp => by
    have := wA.2.1 p (by omega)
    omega
  have hde : hd n A0 (encH n (A0 1)) = A0 1 := hd_enc (by omega) rg9 (fun p _ => rfl)
  have gx : Gd n P A0 (encH n (A0 1)) := fun p hp => by
    rw [hde]; exact wA.2.1 p (by omega)
  have he : encH n (hd n A0 (encH n (A0 1))) = encH n (A0 1) := by rw [hde]
  have hl := enc_lt rg9
  have e3 : gI σ 493 3 = w32 (P 0 4) := hA.2.1 3 (by decide)
  have R0 : RF n P A0 ro σ (encH n (A0 1)) := ⟨by rw [hde, setH_own (fun q => rfl)]; exact hA, hQ, hR⟩
  have one : ∀ (k p : Nat) (x : Int), p < n → m12_roundNow_11 F (k + 1) (w32 x) (w32 (p : Int)) σ = m12_roundNow_11 F k (w32 (100 * x + A0 1 p)) (w32 ((p : Int) - 1)) σ := fun k p x hp => by
    have e : gI σ 493 (10 + 7 * p) = w32 (A0 1 p) := hA.1 1 p (by decide) (show (p : Int) < P 0 4 by omega)
    rw [m12_roundNow_11, if_neg (by rw [wl_0, w_lt (by omega) (by omega) (by omega) (by omega)]; omega), so_0 (by omega), Option.bind_some, e, wl_100, w_mul, w_add, wl_m1, w_add]; rfl
  have fin : ∀ (k : Nat) (x : Int32), m12_roundNow_11 F (k + 1) x (w32 (-1)) σ = Option.bind (m12_heatsThen F x σ) (fun p1 => m12_roundNow_39 F F x p1.1 p1.2) := fun k x => by
    rw [m12_roundNow_11, if_pos (by decide)]
  have start : m12_roundNow F σ = Option.bind (m12_heatsThen F (w32 (encH n (A0 1) : Int)) σ) (fun p1 => m12_roundNow_39 F F (w32 (encH n (A0 1) : Int)) p1.1 p1.2) := by
    have h0 := rg9 0
    have h1 := rg9 1
    have h2 := rg9 2
    have go : m12_roundNow_11 F F (0 : Int32) (w32 ((n : Int) - 1)) σ = Option.bind (m12_heatsThen F (w32 (encH n (A0 1) : Int)) σ) (fun p1 => m12_roundNow_39 F F (w32 (encH n (A0 1) : Int)) p1.1 p1.2) := by
      obtain ⟨G, hG⟩ : ∃ q, F = q + 4 := ⟨F - 4, by omega⟩
      have eF : ∀ x y : Int32, m12_roundNow_11 F F x y σ = m12_roundNow_11 F (G + 4) x y σ := fun x y => by rw [← hG]
      have ee : encH n (A0 1) = (if 0 < n then (A0 1 0).toNat else 0) + (if 1 < n then 100 * (A0 1 1).toNat else 0) + (if 2 < n then 10000 * (A0 1 2).toNat else 0) := rfl
      rw [eF]
      rcases (show n = 0 ∨ n = 1 ∨ n = 2 ∨ n = 3 by omega) with rfl | rfl | rfl | rfl
      · rw [show ((0 : Nat) : Int) - 1 = -1 by omega, fin]; rfl
      · have := one (G + 3) 0 0 (by omega)
        have e : (100 * 0 + A0 1 0 : Int) = (encH 1 (A0 1) : Int) := by rw [ee]; simp; omega
        rw [show (0 : Int32) = w32 0 from rfl, show ((1 : Nat) : Int) - 1 = ((0 : Nat) : Int) by omega, this, show ((0 : Nat) : Int) - 1 = -1 by omega, fin, e]
      · have a1 := one (G + 3) 1 0 (by omega)
        have a0 := fun x => one (G + 2) 0 x (by omega)
        have e : (100 * (100 * 0 + A0 1 1) + A0 1 0 : Int) = (encH 2 (A0 1) : Int) := by rw [ee]; simp; omega
        rw [show (0 : Int32) = w32 0 from rfl, show ((2 : Nat) : Int) - 1 = ((1 : Nat) : Int) by omega, a1, show ((1 : Nat) : Int) - 1 = ((0 : Nat) : Int) by omega, a0, show ((0 : Nat) : Int) - 1 = -1 by omega, fin, e]
      · have a2 := one (G + 3) 2 0 (by omega)
        have a1 := fun x => one (G + 2) 1 x (by omega)
        have a0 := fun x => one (G + 1) 0 x (by omega)
        have e : (100 * (100 * (100 * 0 + A0 1 2) + A0 1 1) + A0 1 0 : Int) = (encH 3 (A0 1) : Int) := by rw [ee]; simp; omega
        rw [show (0 : Int32) = w32 0 from rfl, show ((3 : Nat) : Int) - 1 = ((2 : Nat) : Int) by omega, a2, show ((2 : Nat) : Int) - 1 = ((1 : Nat) : Int) by omega, a1, show ((1 : Nat) : Int) - 1 = ((0 : Nat) : Int) by omega, a0, show ((0 : Nat) : Int) - 1 = -1 by omega, fin, e]
    unfold m12_roundNow
    rw [gd_pos (by decide), show (3 : Int32).toNatClampNeg = 3 from rfl, e3, hn, wl_1, w_sub]
    exact go
  obtain ⟨σ1, m1, R1, -, tr1, -⟩ := heatsF_tr (F := F) wPl hn wA bA gx hl R0 tr (by omega)
  obtain ⟨i, per, c1, c2, c3⟩ := cyc_go (ro := ro) wPl hn gx he hl
  obtain ⟨T, hT1, hT2⟩ : ∃ T, T ≤ 1000000 ∧ itg (gN n P A0 ro) T (encH n (A0 1)) = itg (gN n P A0 ro) (2 * T + 1) (encH n (A0 1)) := by
    have dm := Nat.div_add_mod i per
    have ml := Nat.mod_lt i c1
    refine ⟨per * (i / per + 1) - 1, ?_, ?_⟩
    · rw [Nat.mul_succ]; omega
    · have hi : i ≤ per * (i / per + 1) - 1 := by rw [Nat.mul_succ]; omega
      have := cyc_mul c3 (per * (i / per + 1) - 1) hi (i / per + 1)
      rw [← this]
      congr 1
      have : 0 < per * (i / per + 1) := Nat.mul_pos c1 (Nat.succ_pos _)
      omega
  obtain ⟨σ2, k, c0, m2, ek, kT, R2, tr2⟩ := floyd (F := F) (T := T) wPl hn wA bA gx he hl hT2 (by omega) T F 0 _ σ1 (by omega) (by omega) R1 tr1
  obtain ⟨σ3, m3, R3, tr3, z3⟩ := zero68 (F := F) (x1 := w32 (itg (gN n P A0 ro) k (encH n (A0 1)) : Int)) (x2 := w32 (itg (gN n P A0 ro) k (encH n (A0 1)) : Int)) 3 F 0 σ2 (by omega) (by omega) R2 tr2 (fun q hq => absurd hq (Nat.not_lt_zero _))
  obtain ⟨r, r1, r2⟩ := Ret.ex (g := gN n P A0 ro) (x := itg (gN n P A0 ro) k (encH n (A0 1))) (k + 1) (by omega) (by rw [← itg_add, show k + 1 + k = 2 * k + 1 by omega]; exact ek.symm)
  obtain ⟨σ4, m4, tr4, k4⟩ := cyc88 (F := F) wPl hn wA bA gx he hl r2 (by omega) (by omega) r F 0 c0 σ3 (by omega) (by omega) R3 tr3 (fun q hq => z3 q (by omega))
  refine ⟨σ4, k, r, ?_, r2, tr4, k4⟩
  rw [start, m1, Option.bind_some]
  have m2' : m12_roundNow_39 F F (w32 (encH n (A0 1) : Int)) (w32 (gN n P A0 ro (encH n (A0 1)) : Int)) σ1 = _ := m2
  try dsimp only
  rw [m2']
  have m3' : m12_roundNow_68 F F (w32 (itg (gN n P A0 ro) k (encH n (A0 1)) : Int)) (w32 (itg (gN n P A0 ro) k (encH n (A0 1)) : Int)) (0 : Int32) (0 : Int32) σ2 = _ := m3
  rw [m3']
  rw [Nat.zero_add] at m4
  exact m4
theorem round_q {F t : Nat} {S : Ab} {σ : Mem} (hC : CInv S σ) (hR : RInv S σ) (wf : Wf t S) (ht : t ≤ 600) (hF : 5000000 ≤ F) (x : Int32) : Ans S (m11_round F x σ) (m12_round F x) := by
  obtain ⟨b, rfl, b1, b2⟩ := arg x
  obtain ⟨wPl, ⟨wI, h93, -, h8⟩, -⟩ := id wf.1
  obtain ⟨bP, ⟨m, hm, hm8⟩, ⟨n, hn, hn3⟩, -⟩ := id wPl.1
  have h17 : RepP 17 σ (wP (sW S)) := hC.1.1
  have h01 := wPl.2.2.2.1
  have e0 : gI σ 17 0 = w32 (wP (sW S) 0 0) := h17.at 0 0
  have e4 : gI σ 17 4 = w32 (wP (sW S) 0 4) := h17.at 0 4
  have bA : Bd 10000000 (wA (sW S)) := wI.2.2.2.1.mono (by omega)
  have hE := hR.E wf
  have inB' : ∀ τ, m12_in F (w32 b).toInt64 (0 : Int64) (3 : Int64) τ = some (if 0 ≤ b ∧ b ≤ 3 then (1 : Int32) else 0) := fun τ => in_r rfl rfl b1 b2 (by decide) (by decide)
  have q0 : (w32 (wP (sW S) 0 0) = (0 : Int32)) = (wP (sW S) 0 0 = 0) := by rw [wl_0, w_eq (by omega) (by omega) (by omega) (by omega)]
  have q1 : (w32 b < (0 : Int32)) = (b < 0) := by rw [wl_0, w_lt (by omega) (by omega) (by omega) (by omega)]
  have q2 : (w32 b ≤ (3 : Int32)) = (b ≤ 3) := by rw [wl_3, w_le (by omega) (by omega) (by omega) (by omega)]
  have q3 : (w32 b ≤ w32 (wP (sW S) 0 4)) = (b ≤ n) := by rw [hn, w_le (by omega) (by omega) (by omega) (by omega)]
  by_cases ok : wP (sW S) 0 0 = 1 ∧ 0 ≤ b ∧ b ≤ 3
  · obtain ⟨o0, ob⟩ := ok
    -- the reference, on any memory
    have ref : ∀ τ, CInv S τ → RInv S τ → ∃ (σ' : Mem) (k r : Nat), m12_round F (w32 b) τ = some (w32 (if b ≤ n then rdAns b r (fun p => SB n (wP (sW S)) (wA (sW S)) (roOf S) p r (itg (gN n (wP (sW S)) (wA (sW S)) (roOf S)) k (encH n (wA (sW S) 1)))) else -2), σ') ∧ Ret (gN n (wP (sW S)) (wA (sW S)) (roOf S)) (itg (gN n (wP (sW S)) (wA (sW S)) (roOf S)) k (encH n (wA (sW S) 1))) r ∧ CInv S σ' ∧ RInv S σ' := by
      intro τ cC cR
      obtain ⟨τ1, m1, a1, c1, tr1, s1, o1⟩ := keepG (F := F) (σ := τ) (by omega)
      have E1 := (cR.E wf).keep h93 a1 c1 s1 tr1.2.2.1
      have A2 : RepA (sI τ1 483 25 (1 : Int32)) (wP (sW S)) (wA (sW S)) := E1.1.same (gI_ne _ _ _ (by decide)) (gI_nej (by decide))
      have Q2 : RepQ (sI τ1 483 25 (1 : Int32)) Kf := by
        obtain ⟨y1, y2, y3, y4, y5⟩ := E1.2.1
        refine ⟨?_, ?_, ?_, ?_, ?_⟩
        · rw [gI_nej (by decide)]; exact y1
        · rw [gI_nej (by decide)]; exact y2
        · rw [gI_eq]; rfl
        · rw [gI_nej (by decide)]; exact y4
        · rw [gI_nej (by decide)]; exact y5
      have F2 : RepFo (sI τ1 483 25 (1 : Int32)) (roOf S) := E1.2.2.fr (V := fun j => j = 25) ((Fr.rf (fun c => c = 483) τ1).sI rfl) (fun j hj => gI_nej hj) (by decide) (by decide) (by decide) (by decide)
      obtain ⟨τ3, k, r, m3, r3, tr3, k3⟩ := now_r (F := F) (z := 25) wPl hn wI.1 bA A2 Q2 F2 (tr1.toV.set) hF
      obtain ⟨τ4, m4, e493, e27, tr4, o4, s4, -⟩ := backV (F := F) (tr3.set (v := (0 : Int32))) (by omega)
      have e3 : gI τ4 493 3 = w32 (wP (sW S) 0 4) := by rw [e493]; exact (cR.E wf).1.2.1 3 (by decide)
      have rr : r ≤ 2000000000 ∨ True := Or.inr trivial
      refine ⟨τ4, k, r, ?_, r3, ref_q cC wf tr4.2.2.1 (fun c z => by unfold Wq at z; omega), cR.q wf e493 tr4.2.2.1 (fun j hj => ?_)⟩
      · unfold m12_round
        rw [isSmithy_r (cR.E wf).1 wPl, Option.bind_some]
        simp only [g01]
        rw [if_neg (not_not_intro o0), inB', Option.bind_some]
        simp only [g01]
        rw [if_neg (not_not_intro ob), m1, Option.bind_some]
        try dsimp only
        rw [m3, Option.bind_some]
        try dsimp only
        rw [m4, Option.bind_some]
        unfold rdAns
        by_cases h0 : b = 0
        · rw [if_pos (by rw [h0]; rfl), if_pos (by omega), if_pos h0]
        · rw [if_neg (by rw [wl_0, w_eq (by omega) (by omega) (by omega) (by omega)]; exact h0), gd_pos (by decide), show (3 : Int32).toNatClampNeg = 3 from rfl, e3]
          simp only [q3]
          by_cases hbn : b ≤ n
          · rw [if_pos hbn, if_pos hbn, if_neg h0, show w32 b - (1 : Int32) = w32 ((b.toNat - 1 : Nat) : Int) by rw [wl_1, w_sub]; congr 1; omega, gd_pos (w_inB (by omega) (by omega) (by omega)), w_natk (by omega), o4 499 (by decide) (by decide), gI_nec (by decide), k3 _ (by omega)]
          · rw [if_neg hbn, if_neg hbn]; rfl
      · by_cases h27 : j = 27
        · rw [h27, e27, cR.2.1.2.2.2.2.2.2.1]
        · by_cases h25 : j = 25
          · rw [h25, s4 25 (by decide), gI_eq, cR.2.1.2.2.2.2.1]; rfl
          · exact tr4.2.2.2 j (by unfold Vq; omega)
    by_cases hbn : b ≤ n
    · obtain ⟨pp, τ1, mr, mp, hC1, k1, ro1, f1⟩ := begin_c (F := F) hC wf
      obtain ⟨τ2, q, r, m2, r2⟩ := turn_c (F := F) (ro := roOf S) wPl hn wI.1 bA ob hF hC1.1.1 hC1.1.2.1 k1 ro1
      have cls : m11_round F (w32 b) σ = some (w32 (rdAns b r (fun p => SB n (wP (sW S)) (wA (sW S)) (roOf S) p r (itg (gN n (wP (sW S)) (wA (sW S)) (roOf S)) q (encH n (wA (sW S) 1))))), τ2) := by
        unfold m11_round
        rw [e0, e4]
        simp only [q0, q1, q2, q3]
        rw [if_neg (by omega), if_neg (by omega), if_pos ob.2, if_pos hbn, mr, Option.bind_some, mp, Option.bind_some, m2, Option.bind_some]
      obtain ⟨hC3, hR3⟩ := cls_q hC hR wf (f11_round cls) (fun c z => by unfold Wm11_round at z; omega)
      obtain ⟨σ', k, r', m3, r3, hC4, hR4⟩ := ref τ2 hC3 hR3
      refine ⟨_, τ2, σ', cls, ?_, hC4, hR4⟩
      rw [m3, if_pos hbn]
      obtain ⟨er, es⟩ := cyc_eq r2 r3
      subst er
      unfold rdAns
      by_cases h0 : b = 0
      · rw [if_pos h0, if_pos h0]
      · rw [if_neg h0, if_neg h0]
        have := es (fun c => hB (wP (sW S)) (wA (sW S)) (roOf S) (hd n (wA (sW S)) c) (b.toNat - 1))
        unfold SB
        try dsimp only
        rw [this]
    · obtain ⟨σ', k, r', m3, r3, hC4, hR4⟩ := ref σ hC hR
      refine ⟨-2, σ, σ', ?_, ?_, hC4, hR4⟩
      · unfold m11_round
        rw [e0, e4]
        simp only [q0, q1, q2, q3]
        rw [if_neg (by omega), if_neg (by omega), if_pos ob.2, if_neg hbn]
      · rw [m3, if_neg hbn]; rfl
  · refine ⟨-1, σ, σ, ?_, ?_, hC, hR⟩
    · unfold m11_round
      rw [e0, e4]
      simp only [q0, q1, q2, q3]
      (repeat' split) <;> first | rfl | (exfalso; omega)
    · unfold m12_round
      simp only [isSmithy_r hE.1 wPl, inB', Option.bind_some, g01]
      (repeat' split) <;> first | rfl | (exfalso; omega)
