/-! QUERY: round, 3: the class's table; the class's answer -/
def Fil (P A0 : Dat) (ro : Option Dat) (x h : Nat) (σ : Mem) : Prop := ∀ p k, p < 3 → k < 100 → (p < x ∨ (p = x ∧ k < h)) → gI σ 132 (p * 100 + k) = w32 (if Wt P A0 ro p k then 1 else 0)
def Fi0 (P A0 : Dat) (ro : Option Dat) (σ : Mem) : Prop := RepP 17 σ P ∧ RepC σ Kf ∧ RepRo σ ro ∧ (∀ q, q < 3 → gI σ 41 q = w32 (jbs P A0 Kf q)) ∧ RepS 26 σ A0
def Wfi (c : Nat) : Prop := c = 44 ∨ c = 123 ∨ c = 132 ∨ (156 ≤ c ∧ c ≤ 186 ∧ c % 6 = 0)
theorem Fi0.fr {P A0 : Dat} {ro : Option Dat} {σ σ' : Mem} (h : Fi0 P A0 ro σ) (f : Fr Wfi σ σ') : Fi0 P A0 ro σ' := by
  obtain ⟨a, b, c, d, e⟩ := h
  exact ⟨a.fr f (fun i hi => by unfold Wfi; omega), b.fr f (by unfold Wfi; omega), c.fr f (fun c z => by unfold Wfi at z; omega), fun q hq => by rw [f.gI (by unfold Wfi; omega)]; exact d q hq, e.fr f (fun i hi => by unfold Wfi; omega)⟩
theorem fill9 {F x : Nat} {P A0 : Dat} {ro : Option Dat} {k2 : Int32 → Mem → Option Mem} (wPl : WfPl P) (bA : Bd 800000000 A0) (hx : x < 3) (hF : 1000 ≤ F) : ∀ (d n' h : Nat) (v : Int) (σ : Mem), h + d = 100 → d < n' → Fi0 P A0 ro σ → RepS 122 σ (up A0 1 x v) → Fil P A0 ro x h σ →
    ∃ σ', m9_fillStrikes_9 F 26 k2 n' (w32 (x : Int)) (w32 (h : Int)) σ = k2 (w32 ((x + 1 : Nat) : Int)) σ' ∧ Fr Wfi σ σ' ∧ RepS 122 σ' A0 ∧ Fil P A0 ro (x + 1) 0 σ' := by
  obtain ⟨bP, ⟨m, hm, hm8⟩, -, hpt⟩ := id wPl.1
  intro d
  induction d with
  | zero =>
    intro n' h v σ h1 h2 hE hS hf
    obtain ⟨n', rfl⟩ : ∃ q, n' = q + 1 := ⟨n' - 1, by omega⟩
    have e27 : gI σ 27 x = w32 (A0 1 x) := hE.2.2.2.2.at 1 x
    unfold m9_fillStrikes_9
    rw [if_pos (by rw [wl_100, w_le (by omega) (by omega) (by omega) (by omega)]; omega), gd_pos (w_inB (by omega) (by omega) (by omega)), gd_pos (w_inB (by omega) (by omega) (by omega)), w_natk (by omega), e27, w_succ]
    refine ⟨_, rfl, (Fr.rf Wfi σ).sI (by unfold Wfi; omega), ?_, fun p k hp hk hq => ?_⟩
    · have := hS.up 1 x (A0 1 x)
      rw [up_same, up_self rfl] at this
      exact this
    · rw [gI_nec (by decide)]
      exact hf p k hp hk (by omega)
  | succ d ih =>
    intro n' h v σ h1 h2 hE hS hf
    obtain ⟨n', rfl⟩ : ∃ q, n' = q + 1 := ⟨n' - 1, by omega⟩
    have ei : w32 (x : Int) * w32 100 + w32 (h : Int) = w32 ((x * 100 + h : Nat) : Int) := by
      rw [w_mul, w_add]; congr 1 <;> omega
    have f1 : Fr Wfi σ (sI σ 123 x (w32 (h : Int))) := (Fr.rf Wfi σ).sI (by unfold Wfi; omega)
    have E1 := hE.fr f1
    have S1 : RepS 122 (sI σ 123 x (w32 (h : Int))) (up A0 1 x (h : Int)) := by
      have := hS.up 1 x (h : Int)
      rw [up_same] at this
      exact this
    obtain ⟨e17, eC, eR, e41, e26⟩ := id E1
    have next : ∀ (σ2 : Mem) (b : Int32), Fr Wfi (sI σ 123 x (w32 (h : Int))) σ2 → gI σ2 132 = gI σ 132 → RepS 122 σ2 (up A0 1 x (h : Int)) → b = w32 (if Wt P A0 ro x h then 1 else 0) → ∃ σ', m9_fillStrikes_9 F 26 k2 n' (w32 (x : Int)) (w32 ((h + 1 : Nat) : Int)) (sI σ2 132 (x * 100 + h) b) = k2 (w32 ((x + 1 : Nat) : Int)) σ' ∧ Fr Wfi σ σ' ∧ RepS 122 σ' A0 ∧ Fil P A0 ro (x + 1) 0 σ' := by
      intro σ2 b f2 k132 S2 hb
      have f3 : Fr Wfi σ (sI σ2 132 (x * 100 + h) b) := (f1.trans f2).sI (by unfold Wfi; omega)
      obtain ⟨σ', m1, f4, a, c⟩ := ih n' (h + 1) (h : Int) (sI σ2 132 (x * 100 + h) b) (by omega) (by omega) (hE.fr f3) (S2.ne (by omega)) (fun p k hp hk hq => by
        by_cases z : p = x ∧ k = h
        · rw [z.1, z.2, gI_eq, hb]
        · rw [gI_nej (by omega), k132]
          exact hf p k hp hk (by omega))
      exact ⟨σ', m1, f3.trans f4, a, c⟩
    unfold m9_fillStrikes_9
    rw [if_neg (by rw [wl_100, w_le (by omega) (by omega) (by omega) (by omega)]; omega), gd_pos (w_inB (by omega) (by omega) (by omega)), gd_pos (w_inB (by omega) (by omega) (by omega)), w_natk (by omega)]
    dsimp only
    rw [e41 x hx, wl_100, ei, gd_pos (w_inB (by omega) (by omega) (by omega)), w_natk (by omega), w_succ]
    have jr := jbs_rg (P := P) (A := A0) (K := Kf) hm hm8 x
    by_cases hj : jbs P A0 Kf x = -1
    · rw [if_pos (by rw [hj]; rfl)]
      refine next _ _ (Fr.rf _ _) (gI_ne _ _ _ (by decide)) S1 ?_
      unfold Wt wlN
      rw [if_pos hj]; decide
    · rw [if_neg (by rw [wl_m1, w_eq (by omega) (by omega) (by omega) (by omega)]; exact hj)]
      obtain ⟨σ2, m2⟩ := wills_ok (F := F) (c1 := 122) (J := jbs P A0 Kf) (p := x) e17 S1 eC eR bP ((bA.mono (by decide)).up (by omega) (by omega)) (Kf_bd 3 (by decide) (by decide)) (show StC 122 by unfold StC; omega) hx e41 (fun p _ => jbs_rg hm hm8 p) hj hpt hF
      have f2 := f2_willsToStrike m2
      have f2' : Fr Wfi (sI σ 123 x (w32 (h : Int))) σ2 := f2.mono (fun c z => by unfold Wm2_willsToStrike at z; unfold Wfi; omega)
      have S2 : RepS 122 σ2 (up A0 1 x (h : Int)) := S1.fr f2 (fun i hi => by unfold Wm2_willsToStrike; omega)
      have k132 : gI σ2 132 = gI σ 132 := (f2.gI (by unfold Wm2_willsToStrike; omega)).trans (gI_ne _ _ _ (by decide))
      rw [m2, Option.bind_some]
      dsimp only
      simp only [g01]
      have ew : Wt P A0 ro x h = wl P (up A0 1 x (h : Int)) Kf ro (jbs P A0 Kf) x := by
        unfold Wt wlN; rw [if_neg hj]
      by_cases hw : wl P (up A0 1 x (h : Int)) Kf ro (jbs P A0 Kf) x = true
      · rw [if_neg (not_not_intro hw), gd_pos (w_inB (by omega) (by omega) (by omega))]
        exact next σ2 ((1 : Int32) &&& (1 : Int32)) f2' k132 S2 (by rw [ew, if_pos hw]; decide)
      · rw [if_pos hw, gd_pos (w_inB (by omega) (by omega) (by omega))]
        exact next σ2 ((0 : Int32) &&& (1 : Int32)) f2' k132 S2 (by rw [ew, if_neg hw]; decide)
theorem fill_c {F : Nat} {P A0 : Dat} {ro : Option Dat} {σ : Mem} (wPl : WfPl P) (bA : Bd 800000000 A0) (hF : 1000 ≤ F) (hE : Fi0 P A0 ro σ) (hS : RepS 122 σ A0) : ∃ σ', m9_fillStrikes F 26 σ = some σ' ∧ Fr Wfi σ σ' ∧ RepS 122 σ' A0 ∧ Fil P A0 ro 3 0 σ' := by
  have loop : ∀ (d n' x : Nat) (σ : Mem), x + d = 3 → d < n' → Fi0 P A0 ro σ → RepS 122 σ A0 → Fil P A0 ro x 0 σ → ∃ σ', m9_fillStrikes_2 F 26 n' (w32 (x : Int)) σ = some σ' ∧ Fr Wfi σ σ' ∧ RepS 122 σ' A0 ∧ Fil P A0 ro 3 0 σ' := by
    intro d
    induction d with
    | zero =>
      intro n' x σ h1 h2 hE hS hf
      obtain ⟨n', rfl⟩ : ∃ q, n' = q + 1 := ⟨n' - 1, by omega⟩
      unfold m9_fillStrikes_2
      rw [if_pos (by rw [wl_3, w_le (by omega) (by omega) (by omega) (by omega)]; omega)]
      have : x = 3 := by omega
      subst this
      exact ⟨σ, rfl, Fr.rf _ σ, hS, hf⟩
    | succ d ih =>
      intro n' x σ h1 h2 hE hS hf
      obtain ⟨n', rfl⟩ : ∃ q, n' = q + 1 := ⟨n' - 1, by omega⟩
      unfold m9_fillStrikes_2
      rw [if_neg (by rw [wl_3, w_le (by omega) (by omega) (by omega) (by omega)]; omega)]
      obtain ⟨σ1, m1, f1, S1, F1⟩ := fill9 (F := F) (x := x) (k2 := fun x2 σ => m9_fillStrikes_2 F 26 n' x2 σ) wPl bA (by omega) hF 100 F 0 (A0 1 x) σ (by omega) (by omega) hE (by rw [up_self rfl]; exact hS) hf
      obtain ⟨σ', m2, f2, S2, F2⟩ := ih n' (x + 1) σ1 (by omega) (by omega) (hE.fr f1) S1 F1
      have m1' : m9_fillStrikes_9 F 26 (fun x2 σ => m9_fillStrikes_2 F 26 n' x2 σ) F (w32 (x : Int)) (0 : Int32) σ = _ := m1
      exact ⟨σ', by rw [m1']; exact m2, f1.trans f2, S2, F2⟩
  exact loop 3 F 0 σ (by omega) (by omega) hE hS (fun p k _ _ hq => by omega)
def rdAns (b : Int) (r : Nat) (S : Nat → Int) : Int := if b = 0 then (r : Int) else S (b.toNat - 1)
theorem turn_c {F n : Nat} {P A0 : Dat} {ro : Option Dat} {σ : Mem} {b : Int} (wPl : WfPl P) (hn : P 0 4 = (n : Int)) (wA : WfA P A0) (bA : Bd 10000000 A0) (hb : 0 ≤ b ∧ b ≤ 3) (hF : 5000000 ≤ F) (hP : RepP 17 σ P) (hS : RepS 26 σ A0) (hK : RepC σ Kp) (hR : RepRo σ ro) :
    ∃ (σ' : Mem) (q r : Nat), m9_turn F 26 (w32 b) σ = some (w32 (rdAns b r (fun p => SB n P A0 ro p r (itg (gN n P A0 ro) q (encH n (A0 1))))), σ') ∧ Ret (gN n P A0 ro) (itg (gN n P A0 ro) q (encH n (A0 1))) r := by
  obtain ⟨bP, ⟨m, hm, hm8⟩, ⟨n', hn', hn3⟩, hpt⟩ := id wPl.1
  have b99 := wPl.2.2.2.2.2.1
  have rg9 : ∀ p, p < n → 0 ≤ A0 1 p ∧ A0 1 p ≤ 99 := fun p hp => by
    have := wA.2.1 p (by omega)
    omega
  have hde : hd n A0 (encH n (A0 1)) = A0 1 := hd_enc (by omega) rg9 (fun p _ => rfl)
  have gx : Gd n P A0 (encH n (A0 1)) := fun p hp => by
    rw [hde]; exact wA.2.1 p (by omega)
  obtain ⟨σ1, m1, s1⟩ := cpS_ok (F := F) (c0 := 122) (c1 := 26) (by decide) (by omega) hS
  have f1 := f7_copyFrom m1
  have f1' : Fr (fun c => c = 40 ∨ (122 ≤ c ∧ c ≤ 131)) σ (sI σ1 40 6 (1 : Int32)) := (f1.mono (fun c z => by unfold Wm7_copyFrom at z; omega)).sI (Or.inl rfl)
  have P1 : RepP 17 (sI σ1 40 6 (1 : Int32)) P := hP.fr f1' (fun i hi => by omega)
  have S1 : RepS 122 (sI σ1 40 6 (1 : Int32)) A0 := s1.ne (by omega)
  have K1 : RepC (sI σ1 40 6 (1 : Int32)) Kf := fun j hj => by
    unfold Kf upK
    by_cases h6 : j = 6
    · rw [h6, gI_eq, if_pos rfl]; rfl
    · rw [gI_nej h6, if_neg h6, f1.gI (by unfold Wm7_copyFrom; omega)]; exact hK j hj
  have R1 : RepRo (sI σ1 40 6 (1 : Int32)) ro := hR.fr f1' (fun c z => by omega)
  obtain ⟨σ2, m2, g2⟩ := assign_ok (F := F) (c1 := 122) bP (bA.mono (by decide)) (Kf_bd 2 (by decide) (by decide)) (show StC 122 by unfold StC; omega) hm hm8 (by omega) 3 F 0 _ (by omega) (by omega) P1 S1 K1
  have f2 : Fr Wm2_assign (sI σ1 40 6 (1 : Int32)) σ2 := f2_assign (F := F) (c1 := 122) m2
  have f2' : Fr (fun c => c = 40 ∨ c = 41 ∨ (122 ≤ c ∧ c ≤ 131)) σ σ2 := (f1'.mono (fun c z => by omega)).trans (f2.mono (fun c z => by unfold Wm2_assign at z; omega))
  have E2 : Fi0 P A0 ro σ2 := ⟨P1.fr f2 (fun i hi => by unfold Wm2_assign; omega), K1.fr f2 (by unfold Wm2_assign; omega), R1.fr f2 (fun c z => by unfold Wm2_assign at z; omega), fun q hq => by rw [g2 q hq, if_pos (Nat.zero_le _)], hS.fr f2' (fun i hi => by omega)⟩
  obtain ⟨σ3, m3, f3, S3, F3⟩ := fill_c (F := F) wPl (bA.mono (by decide)) (by omega) E2 (S1.fr f2 (fun i hi => by unfold Wm2_assign; omega))
  have E3 := E2.fr f3
  obtain ⟨σ4, m4, a4, b4, f4⟩ := setMark_c (F := F) (σ := σ3) (by omega)
  have T3 : TE n P A0 ro (encH n (A0 1)) 10000000 σ3 := ⟨E3.1, E3.2.1, E3.2.2.2.1, fun p h hp hh => F3 p h hp hh (Or.inl hp), A0, S3, fun q => by rw [hde], fun k => rfl, bA⟩
  have e123 : ∀ p, p < 3 → gI σ3 123 p = w32 (hd n A0 (encH n (A0 1)) p) := fun p hp => by
    rw [hde]; exact S3 1 (by decide) p (by show p < 3; exact hp)
  obtain ⟨σ5, q, r, m5, r5, s5⟩ := turn44 (F := F) (i2 := w32 b) (ro := ro) wPl hn bA gx (by rw [hde]) (enc_lt rg9) (by omega) 2097151 F 0 0 0 σ4 (by omega) (by omega) (by decide) (by decide) (by decide) (T3.fr f4 (fun c z => Or.inr z)) (fun p hp => by rw [a4 p hp]; exact e123 p hp) (fun p hp => b4 p hp) (fun e e1 e2 => by omega)
  refine ⟨σ5, q, r, ?_, r5⟩
  unfold m9_turn
  rw [m1, Option.bind_some]
  have m2' : m2_assign F 122 (sI σ1 40 6 (1 : Int32)) = some σ2 := m2
  dsimp only
  rw [m2', Option.bind_some, m3, Option.bind_some, m4, Option.bind_some]
  have m5' : m9_turn_44 F 26 (w32 b) F (0 : Int32) (1 : Int32) (0 : Int32) σ4 = _ := m5
  rw [m5']
  unfold m9_turn_92 rdAns
  by_cases h0 : b = 0
  · rw [if_pos (by rw [wl_1, w_lt (by omega) (by omega) (by omega) (by omega)]; omega), if_pos h0]
  · rw [if_neg (by rw [wl_1, w_lt (by omega) (by omega) (by omega) (by omega)]; omega), if_neg (by rw [wl_3, w_lt (by omega) (by omega) (by omega) (by omega)]; omega), if_neg h0, show w32 b - (1 : Int32) = w32 ((b.toNat - 1 : Nat) : Int) by rw [wl_1, w_sub]; congr 1; omega, gd_pos (w_inB (by omega) (by omega) (by omega)), w_natk (by omega), s5 _ (by omega)]
