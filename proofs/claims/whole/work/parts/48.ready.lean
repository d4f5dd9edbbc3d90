/-! QUERIES: ready, all, second -/
theorem Fr.trans' {W V : Nat → Prop} {σ σ1 σ2 : Mem} (h : Fr W σ σ1) (g : Fr V σ1 σ2) : Fr (fun c => W c ∨ V c) σ σ2 := (h.mono (fun _ z => Or.inl z)).trans (g.mono (fun _ z => Or.inr z))
theorem keepG {F : Nat} {σ : Mem} (hF : 100 ≤ F) : ∃ σ', m12_keeps F σ = some σ' ∧ gI σ' 493 = gI σ 493 ∧ gI σ' 483 27 = w32 0 ∧ Tr σ σ' ∧ (∀ j, j ≠ 27 → gI σ' 483 j = gI σ 483 j) ∧ (∀ c, c ≠ 483 → c ≠ 498 → gI σ' c = gI σ c) := by
  obtain ⟨σ', m, a, b, c⟩ := keeps_r (F := F) (σ := σ) hF
  have f := f12_keeps m
  have s := f12_keeps_s m
  exact ⟨σ', m, a, c, ⟨b, fun k _ => by rw [a], f.mono (fun c z => by unfold Wm12_keeps at z; unfold Wq; omega), s.mono (fun c z => by unfold Vm12_keeps at z; unfold Vq; omega)⟩, fun j hj => s j (by unfold Vm12_keeps; omega), fun c h1 h2 => f.gI (by unfold Wm12_keeps; omega)⟩
theorem backG {F : Nat} {σ0 σ : Mem} (h : Tr σ0 σ) (hF : 100 ≤ F) : ∃ σ', m12_laysBack F σ = some σ' ∧ gI σ' 493 = gI σ0 493 ∧ gI σ' 483 27 = w32 0 ∧ Fr Wq σ0 σ' ∧ Sl Vq σ0 σ' ∧ (∀ c, c ≠ 483 → c ≠ 493 → gI σ' c = gI σ c) ∧ (∀ j, j ≠ 27 → gI σ' 483 j = gI σ 483 j) ∧ Tr σ0 σ' := by
  obtain ⟨hk, ht, f, s⟩ := h
  obtain ⟨σ', m, a, b, c⟩ := laysBack_r (F := F) (σ := σ) hF
  have f2 := f12_laysBack m
  have s2 := f12_laysBack_s m
  have e493 : ∀ k, gI σ' 493 k = gI σ0 493 k := fun k => by
    rw [a k]
    by_cases h : k < 98
    · rw [if_pos h]; exact hk k h
    · rw [if_neg h]; exact ht k (by omega)
  have ff : Fr Wq σ0 σ' := f.trans (f2.mono (fun c z => by unfold Wm12_laysBack at z; unfold Wq; omega))
  have ss : Sl Vq σ0 σ' := s.trans (s2.mono (fun c z => by unfold Vm12_laysBack at z; unfold Vq; omega))
  exact ⟨σ', m, funext e493, c, ff, ss, fun c h1 h2 => f2.gI (by unfold Wm12_laysBack; omega), fun j hj => s2 j (by unfold Vm12_laysBack; omega), fun j hj => by rw [b]; exact hk j hj, fun k _ => e493 k, ff, ss⟩
theorem RE.keep {K : Nat → Int} {ro : Option Dat} {P A : Dat} {σ σ' : Mem} (h : RE K ro P A σ) (h0 : A 9 3 = 0) (h1 : gI σ' 493 = gI σ 493) (h2 : gI σ' 483 27 = w32 0) (h3 : ∀ j, j ≠ 27 → gI σ' 483 j = gI σ 483 j) (h4 : Fr Wq σ σ') : RE K ro P A σ' := by
  have h27 : gI σ 483 27 = w32 (A 9 3) := h.1.2.2.2.2.2
  refine h.same h1 (fun j _ _ => ?_) (h4.gI (by unfold Wq; omega)) (h4.gI (by unfold Wq; omega)) (h4.gI (by unfold Wq; omega))
  by_cases hj : j = 27
  · rw [hj, h2, h27, h0]
  · exact h3 j hj
/-- the reference's side holds again behind a look ahead -/
theorem RInv.q {t : Nat} {S : Ab} {σ σ' : Mem} (hR : RInv S σ) (wf : Wf t S) (h1 : gI σ' 493 = gI σ 493) (f : Fr Wq σ σ') (s : ∀ j, j = 1 ∨ j = 2 ∨ (21 ≤ j ∧ j ≤ 28) ∨ j = 34 → gI σ' 483 j = gI σ 483 j) : RInv S σ' := by
  obtain ⟨m5, hm, hm8⟩ := wf.1.1.1.2.1
  obtain ⟨n4, hn, hn3⟩ := wf.1.1.1.2.2.1
  exact hR.same (by omega) (by omega) wf.1.2.2.1.2.1 (fun k _ => by rw [h1]) s (fun c hc => f.gI (by unfold Wq; omega))
/-- READY -/
def rdyA (P : Dat) (K : Nat → Int) (ro : Option Dat) (j : Nat) : Nat → Dat → Dat
  | 0, A => A
  | d + 1, A => if 0 < A 6 j then rdyA P K ro j d (passA P K ro A) else A
theorem ready_c {F c1 j : Nat} {K : Nat → Int} {ro : Option Dat} {P : Dat} (wPl : WfPl P) (bK : BdK K) (hK2 : ∀ p : Nat, (p : Int) ≠ K 2) (hj : j < 8) (hF : 1000 ≤ F) : ∀ (d n' k t : Nat) (σ : Mem) (A : Dat), k + d = 500 → d < n' → CE 46 K ro P A σ → WfI P A t → t + d ≤ 9000 → ∃ σ', m6_readyAt_10 F c1 (w32 (j : Int)) n' (w32 (k : Int)) σ = some (w32 (if 0 < rdyA P K ro j d A 6 j then -2 else rdyA P K ro j d A 7 j), σ') := by
  intro d
  have fin : ∀ (σ : Mem) (A : Dat), CE 46 K ro P A σ → Bd 1000000000 A → m6_readyAt_46 F c1 (w32 (j : Int)) σ = some (w32 (if 0 < A 6 j then -2 else A 7 j), σ) := fun σ A hE bA => by
    have g6 : gI σ 52 j = w32 (A 6 j) := hE.2.1.at 6 j (by decide) (by show j < 8; omega)
    have g7 : gI σ 53 j = w32 (A 7 j) := hE.2.1.at 7 j (by decide) (by show j < 8; omega)
    have b6 := bA 6 j
    unfold m6_readyAt_46
    rw [gd_pos (w_inB (by omega) (by omega) (by omega)), gd_pos (w_inB (by omega) (by omega) (by omega)), w_natk (by omega), g6, g7]
    by_cases h : 0 < A 6 j
    · rw [if_neg (by rw [wl_0, w_le (by omega) (by omega) (by omega) (by omega)]; omega), if_pos h]; rfl
    · rw [if_pos (by rw [wl_0, w_le (by omega) (by omega) (by omega) (by omega)]; omega), if_neg h]
  induction d with
  | zero =>
    intro n' k t σ A h1 h2 hE wI ht
    obtain ⟨n', rfl⟩ : ∃ k, n' = k + 1 := ⟨n' - 1, by omega⟩
    unfold m6_readyAt_10
    rw [if_pos (by rw [wl_500, w_le (by omega) (by omega) (by omega) (by omega)]; omega), fin σ A hE ((wI.bd (by omega)).mono (by decide))]
    exact ⟨σ, rfl⟩
  | succ d ih =>
    intro n' k t σ A h1 h2 hE wI ht
    obtain ⟨n', rfl⟩ : ∃ k, n' = k + 1 := ⟨n' - 1, by omega⟩
    have g6 : gI σ 52 j = w32 (A 6 j) := hE.2.1.at 6 j (by decide) (by show j < 8; omega)
    have b6 := (wI.bd (by omega)) 6 j
    unfold m6_readyAt_10
    rw [if_neg (by rw [wl_500, w_le (by omega) (by omega) (by omega) (by omega)]; omega), gd_pos (w_inB (by omega) (by omega) (by omega)), w_natk (by omega), g6]
    by_cases h : 0 < A 6 j
    · obtain ⟨σ1, m, e, -, -⟩ := ce_go (F := F) hE wPl.1 (wI.bd (by omega)) bK StC46 hF
      rw [if_neg (by rw [wl_0, w_le (by omega) (by omega) (by omega) (by omega)]; omega), m, Option.bind_some, w_succ]
      have := ih n' (k + 1) (t + 1) σ1 _ (by omega) (by omega) e (passA_wf wI wPl.1 wPl.2.1 wPl.2.2.1 hK2) (by omega)
      unfold rdyA
      rw [if_pos h]
      exact this
    · rw [if_pos (by rw [wl_0, w_le (by omega) (by omega) (by omega) (by omega)]; omega), fin σ A hE ((wI.bd (by omega)).mono (by decide))]
      rw [show rdyA P K ro j (d + 1) A = A by unfold rdyA; rw [if_neg h]]
      exact ⟨σ, rfl⟩
theorem ready_l {F j : Nat} {K : Nat → Int} {ro : Option Dat} {P : Dat} {σ0 : Mem} (wPl : WfPl P) (bK : BdK K) (hK2 : ∀ p : Nat, (p : Int) ≠ K 2) (bK3 : -1 ≤ K 3) (hK6 : K 6 = 0) (hj : (j : Int) < P 0 5) (hF : 1000 ≤ F) : ∀ (d n' k t : Nat) (σ : Mem) (A : Dat), k + d = 500 → d < n' → RE K ro P A σ → WfI P A t → t + d ≤ 9000 → Tr σ0 σ → ∃ σ', m12_ready_16 F (w32 (j : Int)) n' (w32 (k : Int)) σ = m12_ready_43 F (w32 (j : Int)) σ' ∧ gI σ' 493 (36 + 8 * j) = w32 (rdyA P K ro j d A 7 j) ∧ (rdyA P K ro j d A 7 j < 0 ↔ 0 < rdyA P K ro j d A 6 j) ∧ Bd 1000000000 (rdyA P K ro j d A) ∧ Tr σ0 σ' := by
  intro d
  obtain ⟨m5, hm, hm8⟩ := wPl.1.2.1
  have fin : ∀ (σ : Mem) (A : Dat) (t : Nat), t ≤ 9000 → RE K ro P A σ → WfI P A t → gI σ 493 (36 + 8 * j) = w32 (A 7 j) ∧ (A 7 j < 0 ↔ 0 < A 6 j) ∧ Bd 1000000000 A := fun σ A t ht hE wI =>
    ⟨hE.1.1 7 j (by decide) hj, (wI.1.1 j hj).1.symm, (wI.bd ht).mono (by decide)⟩
  induction d with
  | zero =>
    intro n' k t σ A h1 h2 hE wI ht tr
    obtain ⟨n', rfl⟩ : ∃ k, n' = k + 1 := ⟨n' - 1, by omega⟩
    unfold m12_ready_16
    rw [if_pos (by rw [wl_500, w_le (by omega) (by omega) (by omega) (by omega)]; omega)]
    obtain ⟨a, b, c⟩ := fin σ A t (by omega) hE wI
    exact ⟨σ, rfl, a, b, c, tr⟩
  | succ d ih =>
    intro n' k t σ A h1 h2 hE wI ht tr
    obtain ⟨n', rfl⟩ : ∃ k, n' = k + 1 := ⟨n' - 1, by omega⟩
    obtain ⟨a, b, c⟩ := fin σ A t (by omega) hE wI
    have c7 := c 7 j
    unfold m12_ready_16
    rw [if_neg (by rw [wl_500, w_le (by omega) (by omega) (by omega) (by omega)]; omega), jo_5 (by omega), Option.bind_some, a]
    unfold rdyA
    by_cases h : 0 < A 6 j
    · obtain ⟨σ1, m, e, -, -, tl, f, s⟩ := re_step (F := F) hE wPl wI (by omega) bK hK2 bK3 hK6 hF
      rw [if_neg (by rw [wl_0, w_le (by omega) (by omega) (by omega) (by omega)]; omega), m, Option.bind_some, w_succ, if_pos h]
      exact ih n' (k + 1) (t + 1) σ1 _ (by omega) (by omega) e (passA_wf wI wPl.1 wPl.2.1 wPl.2.2.1 hK2) (by omega) (tr.pass tl f s)
    · rw [if_pos (by rw [wl_0, w_le (by omega) (by omega) (by omega) (by omega)]; omega), if_neg h]
      exact ⟨σ, rfl, a, b, c, tr⟩
theorem ready_q {F t : Nat} {S : Ab} {σ : Mem} (hC : CInv S σ) (hR : RInv S σ) (wf : Wf t S) (ht : t ≤ 600) (hF : 10000 ≤ F) (x : Int32) : Ans S (m11_ready F x σ) (m12_ready F x) := by
  obtain ⟨a, rfl, a1, a2⟩ := arg x
  have wPl := wf.1.1
  have wI := wf.1.2.1.1
  obtain ⟨m5, hm, hm8⟩ := wPl.1.2.1
  have h17 : RepP 17 σ (wP (sW S)) := hC.1.1
  have hE := hR.E wf
  by_cases v1 : 0 ≤ a ∧ a < wP (sW S) 0 5
  · obtain ⟨j, rfl⟩ : ∃ p : Nat, a = p := ⟨a.toNat, by omega⟩
    obtain ⟨q, τ1, e1, e2, hC1, k1, r1, f1⟩ := begin_c (F := F) hC wf
    obtain ⟨τ2, e3, ce2⟩ := copy46 (F := F) hC1 k1 r1 (by omega)
    obtain ⟨τ3, e4⟩ := ready_c (F := F) (c1 := 26) wPl Kp_bd Kp2 (show j < 8 by omega) (by omega) 500 F 0 t τ2 _ (by omega) (by omega) ce2 wI (by omega)
    have m1 : m11_ready F (w32 (j : Int)) σ = some (w32 (if 0 < rdyA (wP (sW S)) Kp (roOf S) j 500 (wA (sW S)) 6 j then -2 else rdyA (wP (sW S)) Kp (roOf S) j 500 (wA (sW S)) 7 j), τ3) := by
      unfold m11_ready m6_readyAt
      rw [hasJob_c h17 wPl.1 (by omega) (by omega), Option.bind_some, if_pos v1, if_neg (by decide), e1, Option.bind_some, e2, Option.bind_some, e3, Option.bind_some, show (0 : Int32) = w32 ((0 : Nat) : Int) from rfl, e4, Option.bind_some]
    obtain ⟨hC3, hR3⟩ := cls_q hC hR wf (f11_ready m1) (fun c z => by unfold Wm11_ready at z; omega)
    obtain ⟨τ4, e5, re4, tr4⟩ := keep_t (F := F) hR3 wf (by omega)
    obtain ⟨τ5, e6, g7, gi, gb, tr5⟩ := ready_l (F := F) wPl Kp_bd Kp2 (by decide) rfl v1.2 (by omega) 500 F 0 t τ4 _ (by omega) (by omega) re4 wI (by omega) tr4
    obtain ⟨τ6, e7, hR6, hC6, -⟩ := back_t (F := F) hC3 hR3 wf tr5 (by omega)
    refine ⟨_, τ3, τ6, m1, ?_, hC6, hR6⟩
    have b7 := gb 7 j
    have hE3 := hR3.E wf
    unfold m12_ready
    rw [isJob_r hE3.1 wPl.1 (by omega) (by omega), Option.bind_some, if_pos v1, if_neg (by decide), e5, Option.bind_some, show (0 : Int32) = w32 ((0 : Nat) : Int) from rfl, e6]
    unfold m12_ready_43
    rw [jo_5 (by omega), Option.bind_some, e7, Option.bind_some, g7]
    by_cases h : 0 < rdyA (wP (sW S)) Kp (roOf S) j 500 (wA (sW S)) 6 j
    · rw [if_neg (by rw [wl_0, w_le (by omega) (by omega) (by omega) (by omega)]; omega), if_pos h]; rfl
    · rw [if_pos (by rw [wl_0, w_le (by omega) (by omega) (by omega) (by omega)]; omega), if_neg h]
  · refine ⟨-1, σ, σ, ?_, ?_, hC, hR⟩
    · unfold m11_ready
      rw [hasJob_c h17 wPl.1 (by omega) (by omega), Option.bind_some, if_neg v1, if_pos rfl]
    · unfold m12_ready
      rw [isJob_r hE.1 wPl.1 (by omega) (by omega), Option.bind_some, if_neg v1, if_pos rfl]
/-- ALL, and what SECOND asks -/
def allL (A : Dat) : Nat → Nat → Bool
  | 0, _ => true
  | d + 1, j => if A 6 j ≤ 0 then allL A d (j + 1) else false
def allD (P A : Dat) : Bool := allL A (P 0 5).toNat 0
theorem allDone_c {F : Nat} {σ : Mem} {P A : Dat} (hP : RepP 17 σ P) (hS : RepS 46 σ A) (wP : WfP P) (bA : Bd 1000000000 A) (hF : 100 ≤ F) : m7_allDone F 46 17 σ = some (if allD P A then (1 : Int32) else 0) := by
  obtain ⟨m, hm, hm8⟩ := wP.2.1
  have e : gI σ 17 5 = w32 (P 0 5) := hP.at 0 5
  have loop : ∀ (d n j : Nat), j + d = m → d < n → m7_allDone_2 F 46 17 σ n (w32 (j : Int)) = some (if allL A d j then (1 : Int32) else 0) := by
    intro d
    induction d with
    | zero =>
      intro n j h1 h2
      obtain ⟨n, rfl⟩ : ∃ k, n = k + 1 := ⟨n - 1, by omega⟩
      unfold m7_allDone_2 allL
      rw [e, if_pos (by rw [w_le (by omega) (by omega) (by omega) (by omega)]; omega), if_pos rfl]
    | succ d ih =>
      intro n j h1 h2
      obtain ⟨n, rfl⟩ : ∃ k, n = k + 1 := ⟨n - 1, by omega⟩
      have g6 : gI σ (46 + 6) j = w32 (A 6 j) := hS.at 6 j (by decide) (by show j < 8; omega)
      have b6 := bA 6 j
      unfold m7_allDone_2 allL
      rw [e, if_neg (by rw [w_le (by omega) (by omega) (by omega) (by omega)]; omega), gd_pos (w_inB (by omega) (by omega) (by omega)), w_natk (by omega), g6]
      by_cases h : A 6 j ≤ 0
      · rw [if_pos (by rw [wl_0, w_le (by omega) (by omega) (by omega) (by omega)]; exact h), if_pos h, w_succ]
        exact ih n (j + 1) (by omega) (by omega)
      · rw [if_neg (by rw [wl_0, w_le (by omega) (by omega) (by omega) (by omega)]; exact h), if_neg h]; rfl
  unfold m7_allDone allD
  rw [show (P 0 5).toNat = m by omega]
  exact loop m F 0 (by omega) (by omega)
theorem areDone_r {F : Nat} {σ : Mem} {P A : Dat} (hA : RepA σ P A) (wA : WfA P A) (wP : WfP P) (bA : Bd 1000000000 A) (hF : 100 ≤ F) : m12_areDone F σ = some (if allD P A then (1 : Int32) else 0) := by
  obtain ⟨m, hm, hm8⟩ := wP.2.1
  have e : gI σ 493 4 = w32 (P 0 5) := hA.2.1 4 (by decide)
  have loop : ∀ (d n j : Nat), j + d = m → d < n → m12_areDone_2 F σ n (w32 (j : Int)) = some (if allL A d j then (1 : Int32) else 0) := by
    intro d
    induction d with
    | zero =>
      intro n j h1 h2
      obtain ⟨n, rfl⟩ : ∃ k, n = k + 1 := ⟨n - 1, by omega⟩
      unfold m12_areDone_2 allL
      rw [gd_pos (by decide), show (4 : Int32).toNatClampNeg = 4 from rfl, e, if_pos (by rw [w_le (by omega) (by omega) (by omega) (by omega)]; omega), if_pos rfl]
    | succ d ih =>
      intro n j h1 h2
      obtain ⟨n, rfl⟩ : ∃ k, n = k + 1 := ⟨n - 1, by omega⟩
      have g7 : gI σ 493 (36 + 8 * j) = w32 (A 7 j) := hA.1 7 j (by decide) (show (j : Int) < P 0 5 by omega)
      have b7 := bA 7 j
      have wj := wA.1 j (by omega)
      unfold m12_areDone_2 allL
      rw [gd_pos (by decide), show (4 : Int32).toNatClampNeg = 4 from rfl, e, if_neg (by rw [w_le (by omega) (by omega) (by omega) (by omega)]; omega), jo_5 (by omega), Option.bind_some, g7]
      by_cases h : A 6 j ≤ 0
      · rw [if_pos (by rw [wl_0, w_le (by omega) (by omega) (by omega) (by omega)]; omega), if_pos h, w_succ]
        exact ih n (j + 1) (by omega) (by omega)
      · rw [if_neg (by rw [wl_0, w_le (by omega) (by omega) (by omega) (by omega)]; omega), if_neg h]; rfl
  unfold m12_areDone allD
  rw [show (P 0 5).toNat = m by omega]
  exact loop m F 0 (by omega) (by omega)
def untN (P : Dat) (K : Nat → Int) (ro : Option Dat) : Nat → Nat → Dat → Nat
  | 0, k, _ => k
  | d + 1, k, A => if allD P A then k else untN P K ro d (k + 1) (passA P K ro A)
theorem untN_rg {P : Dat} {K : Nat → Int} {ro : Option Dat} : ∀ (d k : Nat) (A : Dat), k ≤ untN P K ro d k A ∧ untN P K ro d k A ≤ k + d
  | 0, k, A => ⟨Nat.le_refl _, Nat.le_refl _⟩
  | d + 1, k, A => by
    unfold untN
    have := untN_rg (P := P) (K := K) (ro := ro) d (k + 1) (passA P K ro A)
    split <;> omega
theorem until_c {F c1 : Nat} {K : Nat → Int} {ro : Option Dat} {P : Dat} (wPl : WfPl P) (bK : BdK K) (hK2 : ∀ p : Nat, (p : Int) ≠ K 2) (hF : 1000 ≤ F) : ∀ (d n' k t : Nat) (σ : Mem) (A : Dat), k + d = 501 → d < n' → CE 46 K ro P A σ → WfI P A t → t + d ≤ 9000 → ∃ σ' A', m6_untilAll_10 F c1 n' (w32 (k : Int)) σ = some (w32 (untN P K ro d k A : Int), σ') ∧ CE 46 K ro P A' σ' := by
  intro d
  induction d with
  | zero =>
    intro n' k t σ A h1 h2 hE wI ht
    obtain ⟨n', rfl⟩ : ∃ k, n' = k + 1 := ⟨n' - 1, by omega⟩
    unfold m6_untilAll_10 untN
    rw [if_pos (by rw [wl_500, w_lt (by omega) (by omega) (by omega) (by omega)]; omega), show k = 501 by omega]
    exact ⟨σ, A, rfl, hE⟩
  | succ d ih =>
    intro n' k t σ A h1 h2 hE wI ht
    obtain ⟨n', rfl⟩ : ∃ k, n' = k + 1 := ⟨n' - 1, by omega⟩
    unfold m6_untilAll_10 untN
    rw [if_neg (by rw [wl_500, w_lt (by omega) (by omega) (by omega) (by omega)]; omega), allDone_c hE.1 hE.2.1 wPl.1 ((wI.bd (by omega)).mono (by decide)) (by omega), Option.bind_some]
    by_cases h : allD P A = true
    · rw [if_pos h, if_neg (by decide), if_pos h]; exact ⟨σ, A, rfl, hE⟩
    · obtain ⟨σ1, m, e, -, -⟩ := ce_go (F := F) hE wPl.1 (wI.bd (by omega)) bK StC46 hF
      rw [if_neg h, if_pos rfl, if_neg h, m, Option.bind_some, w_succ]
      exact ih n' (k + 1) (t + 1) σ1 _ (by omega) (by omega) e (passA_wf wI wPl.1 wPl.2.1 wPl.2.2.1 hK2) (by omega)
theorem left_l {F : Nat} {K : Nat → Int} {ro : Option Dat} {P : Dat} {σ0 : Mem} (wPl : WfPl P) (bK : BdK K) (hK2 : ∀ p : Nat, (p : Int) ≠ K 2) (bK3 : -1 ≤ K 3) (hK6 : K 6 = 0) (hF : 1000 ≤ F) : ∀ (d n' k t : Nat) (σ : Mem) (A : Dat), k + d = 501 → d < n' → RE K ro P A σ → WfI P A t → t + d ≤ 9000 → Tr σ0 σ → ∃ σ', m12_momentsLeft_6 F n' (w32 (k : Int)) σ = m12_momentsLeft_31 F (w32 (untN P K ro d k A : Int)) σ' ∧ Tr σ0 σ' := by
  intro d
  induction d with
  | zero =>
    intro n' k t σ A h1 h2 hE wI ht tr
    obtain ⟨n', rfl⟩ : ∃ k, n' = k + 1 := ⟨n' - 1, by omega⟩
    unfold m12_momentsLeft_6 untN
    rw [if_pos (by rw [wl_500, w_lt (by omega) (by omega) (by omega) (by omega)]; omega)]
    exact ⟨σ, rfl, tr⟩
  | succ d ih =>
    intro n' k t σ A h1 h2 hE wI ht tr
    obtain ⟨n', rfl⟩ : ∃ k, n' = k + 1 := ⟨n' - 1, by omega⟩
    unfold m12_momentsLeft_6 untN
    rw [if_neg (by rw [wl_500, w_lt (by omega) (by omega) (by omega) (by omega)]; omega), areDone_r hE.1 wI.1 wPl.1 ((wI.bd (by omega)).mono (by decide)) (by omega), Option.bind_some]
    by_cases h : allD P A = true
    · rw [if_pos h, if_neg (by decide), if_pos h]; exact ⟨σ, rfl, tr⟩
    · obtain ⟨σ1, m, e, -, -, tl, f, s⟩ := re_step (F := F) hE wPl wI (by omega) bK hK2 bK3 hK6 hF
      rw [if_neg h, if_pos rfl, if_neg h, m, Option.bind_some, w_succ]
      exact ih n' (k + 1) (t + 1) σ1 _ (by omega) (by omega) e (passA_wf wI wPl.1 wPl.2.1 wPl.2.2.1 hK2) (by omega) (tr.pass tl f s)
/-- momentsLeft at any mode -/
theorem left_r {F t : Nat} {K : Nat → Int} {ro : Option Dat} {P A : Dat} {σ : Mem} (hE : RE K ro P A σ) (h93 : A 9 3 = 0) (wPl : WfPl P) (wI : WfI P A t) (ht : t ≤ 8000) (bK : BdK K) (hK2 : ∀ p : Nat, (p : Int) ≠ K 2) (bK3 : -1 ≤ K 3) (hK6 : K 6 = 0) (hF : 1000 ≤ F) : ∃ σ', m12_momentsLeft F σ = some (w32 (untN P K ro 501 0 A : Int), σ') ∧ gI σ' 493 = gI σ 493 ∧ gI σ' 483 27 = w32 0 ∧ Fr Wq σ σ' ∧ Sl Vq σ σ' := by
  obtain ⟨τ1, m1, a1, b1, tr1, s1, -⟩ := keepG (F := F) (σ := σ) (by omega)
  obtain ⟨τ2, m2, tr2⟩ := left_l (F := F) (K := K) (ro := ro) wPl bK hK2 bK3 hK6 hF 501 F 0 t τ1 A (by omega) (by omega) (hE.keep h93 a1 b1 s1 tr1.2.2.1) wI (by omega) tr1
  obtain ⟨τ3, m3, a3, b3, f3, s3, -, -, -⟩ := backG (F := F) tr2 (by omega)
  refine ⟨τ3, ?_, a3, b3, f3, s3⟩
  unfold m12_momentsLeft
  rw [m1, Option.bind_some, show (0 : Int32) = w32 ((0 : Nat) : Int) from rfl, m2]
  unfold m12_momentsLeft_31
  rw [m3, Option.bind_some]
theorem RInv.back {t : Nat} {S : Ab} {σ σ' : Mem} (hR : RInv S σ) (wf : Wf t S) (h1 : gI σ' 493 = gI σ 493) (h27 : gI σ' 483 27 = w32 0) (f : Fr Wq σ σ') (s : Sl Vq σ σ') : RInv S σ' :=
  hR.q wf h1 f (fun j hj => by
    by_cases h : j = 27
    · rw [h, h27, hR.2.1.2.2.2.2.2.2.1]
    · exact s j (by unfold Vq; omega))
theorem all_q {F t : Nat} {S : Ab} {σ : Mem} (hC : CInv S σ) (hR : RInv S σ) (wf : Wf t S) (ht : t ≤ 600) (hF : 10000 ≤ F) : Ans S (m11_all F σ) (m12_all F) := by
  have wPl := wf.1.1
  have wI := wf.1.2.1.1
  have h17 : RepP 17 σ (wP (sW S)) := hC.1.1
  have e0 : gI σ 17 0 = w32 (wP (sW S) 0 0) := h17.at 0 0
  have hE := hR.E wf
  have un := untN_rg (P := wP (sW S)) (K := Kp) (ro := roOf S) 501 0 (wA (sW S))
  rcases wPl.2.2.2.1 with h0 | h0
  · refine ⟨-1, σ, σ, ?_, ?_, hC, hR⟩
    · unfold m11_all
      rw [e0, h0, if_pos (by decide)]
    · unfold m12_all
      rw [isSmithy_r hE.1 wPl, Option.bind_some, if_neg (show ¬ wP (sW S) 0 0 = 1 by omega), if_pos rfl]
  · obtain ⟨q, τ1, e1, e2, hC1, k1, r1, f1⟩ := begin_c (F := F) hC wf
    obtain ⟨τ2, e3, ce2⟩ := copy46 (F := F) hC1 k1 r1 (by omega)
    obtain ⟨τ3, A3, e4, ce3⟩ := until_c (F := F) (c1 := 26) wPl Kp_bd Kp2 (by omega) 501 F 0 t τ2 _ (by omega) (by omega) ce2 wI (by omega)
    have eu : m6_untilAll F 26 τ1 = some (w32 (untN (wP (sW S)) Kp (roOf S) 501 0 (wA (sW S)) : Int), τ3) := by
      unfold m6_untilAll
      rw [e3, Option.bind_some, show (0 : Int32) = w32 ((0 : Nat) : Int) from rfl, e4]
    have hC2 := (cls_q hC hR wf (f1.trans' (f6_untilAll eu)) (fun c z => by unfold Wm6_untilAll at z; omega)).1
    have e26 : gI τ3 26 0 = w32 (wA (sW S) 0 0) := hC2.1.2.1.at 0 0
    have m1 : m11_all F σ = some (w32 (if untN (wP (sW S)) Kp (roOf S) 501 0 (wA (sW S)) ≤ 500 then wA (sW S) 0 0 + (untN (wP (sW S)) Kp (roOf S) 501 0 (wA (sW S)) : Int) else -2), τ3) := by
      unfold m11_all
      rw [e0, h0, if_neg (by decide), e1, Option.bind_some, e2, Option.bind_some, eu, Option.bind_some]
      dsimp only
      rw [e26]
      by_cases h : untN (wP (sW S)) Kp (roOf S) 501 0 (wA (sW S)) ≤ 500
      · rw [if_pos (by rw [wl_500, w_le (by omega) (by omega) (by omega) (by omega)]; omega), if_pos h, w_add]
      · rw [if_neg (by rw [wl_500, w_le (by omega) (by omega) (by omega) (by omega)]; omega), if_neg h]; rfl
    obtain ⟨hC3, hR3⟩ := cls_q hC hR wf (f11_all m1) (fun c z => by unfold Wm11_all at z; omega)
    have hE3 := hR3.E wf
    obtain ⟨τ4, e5, a5, b5, f5, s5⟩ := left_r (F := F) hE3 wf.1.2.1.2.1 wPl wI (by omega) Kp_bd Kp2 (by decide) rfl (by omega)
    refine ⟨_, τ3, τ4, m1, ?_, ref_q hC3 wf f5 (fun c z => by unfold Wq at z; omega), hR3.back wf a5 b5 f5 s5⟩
    have g5 : gI τ4 493 5 = w32 (wA (sW S) 0 0) := by rw [a5]; exact hE3.1.1 0 0 (by decide) rfl
    unfold m12_all
    rw [isSmithy_r hE3.1 wPl, Option.bind_some, if_pos h0, if_neg (by decide), e5, Option.bind_some]
    dsimp only
    rw [gd_pos (by decide), show (5 : Int32).toNatClampNeg = 5 from rfl, g5]
    by_cases h : untN (wP (sW S)) Kp (roOf S) 501 0 (wA (sW S)) ≤ 500
    · rw [if_pos (by rw [wl_500, w_le (by omega) (by omega) (by omega) (by omega)]; omega), if_pos h, w_add]
    · rw [if_neg (by rw [wl_500, w_le (by omega) (by omega) (by omega) (by omega)]; omega), if_neg h]; rfl
theorem mn500 {n : Nat} (h : n ≤ 501) : mnI (500 : Int32) (w32 (n : Int)) = w32 (if n ≤ 500 then (n : Int) else 500) := by
  rw [wl_500, mnI_w (by omega) (by omega) (by omega) (by omega)]
  congr 1
  split <;> omega
def K4 : Nat → Int := upK Kp 4 1
theorem K4_bd : BdK K4 := fun j a b => by
  unfold K4 upK
  split
  · decide
  · exact Kp_bd j a b
theorem second_q {F t : Nat} {S : Ab} {σ : Mem} (hC : CInv S σ) (hR : RInv S σ) (wf : Wf t S) (ht : t ≤ 600) (hF : 10000 ≤ F) : Ans S (m11_second F σ) (m12_second F) := by
  have wPl := wf.1.1
  have wI := wf.1.2.1.1
  have h17 : RepP 17 σ (wP (sW S)) := hC.1.1
  have e0 : gI σ 17 0 = w32 (wP (sW S) 0 0) := h17.at 0 0
  have hE := hR.E wf
  have un := untN_rg (P := wP (sW S)) (K := Kp) (ro := roOf S) 501 0 (wA (sW S))
  have un4 := untN_rg (P := wP (sW S)) (K := K4) (ro := roOf S) 501 0 (wA (sW S))
  rcases wPl.2.2.2.1 with h0 | h0
  · refine ⟨-100000, σ, σ, ?_, ?_, hC, hR⟩
    · unfold m11_second
      rw [e0, h0, if_pos (by decide)]
    · unfold m12_second
      rw [isSmithy_r hE.1 wPl, Option.bind_some, if_neg (show ¬ wP (sW S) 0 0 = 1 by omega), if_pos rfl]
  · obtain ⟨q, τ1, e1, e2, hC1, k1, r1, f1⟩ := begin_c (F := F) hC wf
    obtain ⟨τ2, e3, ce2⟩ := copy46 (F := F) hC1 k1 r1 (by omega)
    obtain ⟨τ3, A3, e4, ce3⟩ := until_c (F := F) (c1 := 26) wPl Kp_bd Kp2 (by omega) 501 F 0 t τ2 _ (by omega) (by omega) ce2 wI (by omega)
    have eu : m6_untilAll F 26 τ1 = some (w32 (untN (wP (sW S)) Kp (roOf S) 501 0 (wA (sW S)) : Int), τ3) := by
      unfold m6_untilAll
      rw [e3, Option.bind_some, show (0 : Int32) = w32 ((0 : Nat) : Int) from rfl, e4]
    have fu := f6_untilAll eu
    have hC2 := (cls_q hC hR wf (f1.trans' fu) (fun c z => by unfold Wm6_untilAll at z; omega)).1
    have hC2' : CInv (S) (sI τ3 40 4 (1 : Int32)) := hC2.fr wf.2.1.1 ((Fr.rf (fun c => c = 40) τ3).sI rfl) (fun c z => by unfold Scr; omega)
    have k2 : RepC (sI τ3 40 4 (1 : Int32)) K4 := fun j hj => by
      unfold K4 upK
      by_cases h : j = 4
      · rw [h, gI_eq, if_pos rfl]; rfl
      · rw [gI_nej h, if_neg h]
        exact ce3.2.2.1 j hj
    have r2 : RepRo (sI τ3 40 4 (1 : Int32)) (roOf S) := ce3.2.2.2.fr ((Fr.rf (fun c => c = 40) τ3).sI rfl) (fun c z => by omega)
    obtain ⟨τ4, e5, ce4⟩ := copy46 (F := F) hC2' k2 r2 (by omega)
    obtain ⟨τ5, A5, e6, ce5⟩ := until_c (F := F) (c1 := 26) wPl K4_bd Kp2 (by omega) 501 F 0 t τ4 _ (by omega) (by omega) ce4 wI (by omega)
    have eu2 : m6_untilAll F 26 (sI τ3 40 4 (1 : Int32)) = some (w32 (untN (wP (sW S)) K4 (roOf S) 501 0 (wA (sW S)) : Int), τ5) := by
      unfold m6_untilAll
      rw [e5, Option.bind_some, show (0 : Int32) = w32 ((0 : Nat) : Int) from rfl, e6]
    have m1 : m11_second F σ = some (w32 ((if untN (wP (sW S)) Kp (roOf S) 501 0 (wA (sW S)) ≤ 500 then (untN (wP (sW S)) Kp (roOf S) 501 0 (wA (sW S)) : Int) else 500) - (if untN (wP (sW S)) K4 (roOf S) 501 0 (wA (sW S)) ≤ 500 then (untN (wP (sW S)) K4 (roOf S) 501 0 (wA (sW S)) : Int) else 500)), τ5) := by
      unfold m11_second
      rw [e0, h0, if_neg (by decide), e1, Option.bind_some, e2, Option.bind_some, eu, Option.bind_some]
      dsimp only
      rw [eu2, Option.bind_some]
      dsimp only
      rw [mn500 (by omega), mn500 (by omega), w_sub]
    obtain ⟨hC3, hR3⟩ := cls_q hC hR wf (f11_second m1) (fun c z => by unfold Wm11_second at z; omega)
    have hE3 := hR3.E wf
    obtain ⟨ρ1, n1, a1, b1, g1, s1⟩ := left_r (F := F) hE3 wf.1.2.1.2.1 wPl wI (by omega) Kp_bd Kp2 (by decide) rfl (by omega)
    have hR4 : RInv S ρ1 := hR3.back wf a1 b1 g1 s1
    have hE4 : RE K4 (roOf S) (wP (sW S)) (wA (sW S)) (sI ρ1 483 26 (1 : Int32)) := by
      obtain ⟨x1, ⟨y1, y2, y3, y4, y5⟩, z1⟩ := hR4.E wf
      refine ⟨x1.same (gI_ne _ _ _ (by decide)) (gI_nej (by decide)), ⟨?_, ?_, ?_, ?_, ?_⟩, ?_⟩
      · rw [gI_nej (by decide)]; exact y1
      · rw [gI_nej (by decide)]; exact y2
      · rw [gI_nej (by decide)]; exact y3
      · rw [gI_eq]; rfl
      · rw [gI_nej (by decide)]; exact y5
      · exact z1.fr (V := fun j => j = 26) ((Fr.rf (fun c => c = 483) ρ1).sI rfl) (fun j hj => gI_nej hj) (by decide) (by decide) (by decide) (by decide)
    obtain ⟨ρ2, n2, a2, b2, g2, s2⟩ := left_r (F := F) hE4 wf.1.2.1.2.1 wPl wI (by omega) K4_bd Kp2 (by decide) rfl (by omega)
    have fin : RInv S (sI ρ2 483 26 (0 : Int32)) := hR4.q wf (by rw [gI_ne _ _ _ (by decide), a2, gI_ne _ _ _ (by decide)]) (((Fr.rf Wq ρ1).sI (Or.inl rfl)).trans (g2.trans ((Fr.rf Wq ρ2).sI (Or.inl rfl)))) (fun j hj => by
      by_cases h : j = 26
      · rw [h, gI_eq, hR4.2.1.2.2.2.2.2.1]; rfl
      · rw [gI_nej h]
        by_cases h' : j = 27
        · rw [h', b2, hR4.2.1.2.2.2.2.2.2.1]
        · rw [s2 j (by unfold Vq; omega), gI_nej h])
    have hC4 : CInv S (sI ρ2 483 26 (0 : Int32)) := ref_q hC3 wf (g1.trans (((Fr.rf Wq ρ1).sI (Or.inl rfl)).trans (g2.trans ((Fr.rf Wq ρ2).sI (Or.inl rfl))))) (fun c z => by unfold Wq at z; omega)
    refine ⟨_, τ5, _, m1, ?_, hC4, fin⟩
    unfold m12_second
    rw [isSmithy_r hE3.1 wPl, Option.bind_some, if_pos h0, if_neg (by decide), n1, Option.bind_some]
    dsimp only
    rw [n2, Option.bind_some]
    dsimp only
    unfold m12_second_45
    by_cases h : untN (wP (sW S)) Kp (roOf S) 501 0 (wA (sW S)) ≤ 500
    · rw [if_pos (by rw [wl_500, w_le (by omega) (by omega) (by omega) (by omega)]; omega), if_pos h]
      by_cases h' : untN (wP (sW S)) K4 (roOf S) 501 0 (wA (sW S)) ≤ 500
      · rw [if_pos (by rw [wl_500, w_le (by omega) (by omega) (by omega) (by omega)]; omega), if_pos h', w_sub]
      · rw [if_neg (by rw [wl_500, w_le (by omega) (by omega) (by omega) (by omega)]; omega), if_neg h', wl_500, w_sub]
    · rw [if_neg (by rw [wl_500, w_le (by omega) (by omega) (by omega) (by omega)]; omega), if_neg h]
      by_cases h' : untN (wP (sW S)) K4 (roOf S) 501 0 (wA (sW S)) ≤ 500
      · rw [if_pos (by rw [wl_500, w_le (by omega) (by omega) (by omega) (by omega)]; omega), if_pos h', wl_500, w_sub]
      · rw [if_neg (by rw [wl_500, w_le (by omega) (by omega) (by omega) (by omega)]; omega), if_neg h', wl_500, w_sub]
