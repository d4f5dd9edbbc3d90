/-! QUERY: round, 2: the class -/
theorem work_ok {F c1 : Nat} {σ : Mem} {P A : Dat} {K J : Nat → Int} {Wl : Nat → Bool} (hP : RepP 17 σ P) (hS : RepS c1 σ A) (hK : RepC σ K) (bP : Bd 1000 P) (bA : Bd 900000000 A) (bK : BdK K) (hc : StC c1) (hF : 100 ≤ F) (hJ1 : ∀ p, p < 3 → J p = -1 ∨ (0 ≤ J p ∧ J p < 8)) (hJ : ∀ q, q < 3 → gI σ 41 q = w32 (J q)) (hW : ∀ q, q < 3 → gI σ 42 q = w32 (if Wl q then 1 else 0)) :
    ∃ σ', m2_work F c1 σ = some σ' ∧ RepS c1 σ' (workS P J Wl 3 0 (A, K0 K, fun _ => -1)).1 ∧ RepK σ' (workS P J Wl 3 0 (A, K0 K, fun _ => -1)).2.1 := by
  obtain ⟨c_1, c_2, c_3⟩ := id hc
  have K3 : RepK (sI (sI (sI σ 40 11 (0 : Int32)) 40 12 (0 : Int32)) 40 13 (0 : Int32)) (K0 K) := fun j hj => by
    unfold K0 upK
    rcases hj with hj | hj
    · rw [if_neg (by omega), if_neg (by omega), if_neg (by omega), gI_nej (by omega), gI_nej (by omega), gI_nej (by omega)]
      exact hK j hj
    · rcases (show j = 11 ∨ j = 12 ∨ j = 13 by omega) with rfl | rfl | rfl
      · rw [gI_nej (by decide), gI_nej (by decide), gI_eq]; rfl
      · rw [gI_nej (by decide), gI_eq]; rfl
      · rw [gI_eq]; rfl
  have f2 : Fr (fun c => c = 40) σ (sI (sI (sI σ 40 11 (0 : Int32)) 40 12 (0 : Int32)) 40 13 (0 : Int32)) := (((Fr.rf (fun c => c = 40) _).sI rfl).sI rfl).sI rfl
  obtain ⟨σ3, m3, f3, g3⟩ := work17_ok (F := F) (c1 := c1) 4 F 0 (sI (sI (sI σ 40 11 (0 : Int32)) 40 12 (0 : Int32)) 40 13 (0 : Int32)) (by omega) (by omega)
  have f4 := (f2.mono (V := fun c => c = 40 ∨ c = 43) (fun c h => Or.inl h)).trans (f3.mono (fun c h => Or.inr h))
  obtain ⟨σ4, m4, S4, K4, T4⟩ := work37_ok (F := F) (c1 := c1) (J := J) (Wl := Wl) bP hc (by omega) hJ1 3 F 0 σ3 (A, K0 K, fun _ => -1) (by omega) (by omega) (hP.fr f4 (fun i hi => by omega)) (hS.fr f4 (fun i hi => by omega)) (K3.fr f3 (by omega)) (fun k hk => by rw [g3 k hk, if_pos (Nat.zero_le _)]) (bA.mono (by omega)) (fun k => by show -1 ≤ (-1 : Int) ∧ (-1 : Int) ≤ 3; omega) (fun j q1 q2 => by
      have : (K0 K) j = K j := by unfold K0; rw [upK_lo (by omega), upK_lo (by omega), upK_lo (by omega)]
      have h2 := bK j q1 q2
      show -1000 ≤ K0 K j ∧ K0 K j ≤ 1000
      rw [this]; exact h2) (fun q hq => by rw [f4.gI (by omega)]; exact hJ q hq) (fun q hq => by rw [f4.gI (by omega)]; exact hW q hq)
  refine ⟨σ4, ?_, S4, K4⟩
  unfold m2_work
  exact m3.trans m4
theorem struck_h {P : Dat} {J : Nat → Int} {Wl : Nat → Bool} {s : WS} (a0 : s.2.1 12 = 0) : (workS P J Wl 3 0 s).2.1 12 = hitS P J Wl 0 s + 2 * hitS P J Wl 1 (workS P J Wl 1 0 s) + 4 * hitS P J Wl 2 (workS P J Wl 2 0 s) := by
  have e : (workS P J Wl 3 0 s).2.1 12 = (stepS P J Wl 2 (stepS P J Wl 1 (stepS P J Wl 0 s))).2.1 12 := rfl
  have e1 : workS P J Wl 1 0 s = stepS P J Wl 0 s := rfl
  have e2 : workS P J Wl 2 0 s = stepS P J Wl 1 (stepS P J Wl 0 s) := rfl
  rw [e, stepS_K12, stepS_K12, stepS_K12, e1, e2, a0]
  have h0 : hitS P J Wl 0 s = 0 ∨ hitS P J Wl 0 s = 1 := hitS_01
  have h1 : hitS P J Wl 1 (stepS P J Wl 0 s) = 0 ∨ hitS P J Wl 1 (stepS P J Wl 0 s) = 1 := hitS_01
  have h2 : hitS P J Wl 2 (stepS P J Wl 1 (stepS P J Wl 0 s)) = 0 ∨ hitS P J Wl 2 (stepS P J Wl 1 (stepS P J Wl 0 s)) = 1 := hitS_01
  rcases h0 with h0 | h0 <;> rcases h1 with h1 | h1 <;> rcases h2 with h2 | h2 <;> rw [h0, h1, h2] <;> decide +kernel
theorem hH_01 {P A0 : Dat} {J : Nat → Int} {Wl : Nat → Bool} {p : Nat} {s : HT} : hH P A0 J Wl p s = 0 ∨ hH P A0 J Wl p s = 1 := by
  unfold hH
  split
  · exact Or.inl rfl
  · split
    · split
      · split
        · exact Or.inl rfl
        · exact Or.inr rfl
      · exact Or.inl rfl
    · exact Or.inl rfl
theorem bit_at {a b c : Int} (ha : a = 0 ∨ a = 1) (hb : b = 0 ∨ b = 1) (hc : c = 0 ∨ c = 1) {p : Nat} (hp : p < 3) : ((w32 (a + 2 * b + 4 * c) >>> (w32 (p : Int) &&& (31 : Int32))) &&& (1 : Int32)) = w32 (if p = 0 then a else if p = 1 then b else c) := by
  rcases (show p = 0 ∨ p = 1 ∨ p = 2 by omega) with rfl | rfl | rfl <;> rcases ha with rfl | rfl <;> rcases hb with rfl | rfl <;> rcases hc with rfl | rfl <;> decide +kernel
theorem stepS_bd1 {B : Int} {P : Dat} {J : Nat → Int} {Wl : Nat → Bool} {p : Nat} {s : WS} (k5 : s.2.1 5 = 0) (k6 : s.2.1 6 = 1) (bA : Bd B s.1) (bP : Bd 1000 P) (hB : 2000 ≤ B) (hr : J p ≠ -1 → 0 ≤ s.1 1 p ∧ s.1 1 p ≤ 99) : Bd (B + 1) (stepS P J Wl p s).1 := by
  have m := bA.mono (show B ≤ B + 1 by omega)
  by_cases hj : J p = -1
  · rw [st_none hj]; exact m
  · have r := hr hj
    have b1 := bP 0 1
    have b2 := bP 1 p
    have b5 := bP 5 (J p).toNat
    have a2 := bA 2 p
    have a4 := bA 4 p
    have a5 := bA 5 p
    by_cases hw : Wl p = true
    · by_cases ho : okT P s.1 s.2.1 s.2.2 (J p).toNat = true
      · rw [st_strike hj hw ho]
        show Bd _ (strikeA P s.1 s.2.1 p (J p).toNat)
        unfold strikeA
        rw [k6]
        simp only []
        split
        · exact ((m.up (by omega) (by omega)).up (by omega) (by omega)).up (by omega) (by omega)
        · rw [if_neg (by decide)]
          exact (m.up (by omega) (by omega)).up (by omega) (by omega)
      · rw [st_wait hj hw (by simpa using ho)]
        exact (m.up (by omega) (by omega)).up (by omega) (by omega)
    · rw [st_heat hj (by simpa using hw)]
      show Bd _ (heatA P s.1 s.2.1 p (J p).toNat)
      unfold heatA
      rw [if_pos k5]
      split
      · exact (m.up (by omega) (by omega)).up (by omega) (by omega)
      · exact ((((m.up (by omega) (by omega)).up (by omega) (by omega)).up (by omega) (by omega)).up (by omega) (by omega)).up (by omega) (by omega)
/-! the wheel -/
def Wt (P A0 : Dat) (ro : Option Dat) (p h : Nat) : Bool := wlN P (up A0 1 p (h : Int)) Kf ro (jbs P A0 Kf) p
def TE (n : Nat) (P A0 : Dat) (ro : Option Dat) (c : Nat) (B : Int) (σ : Mem) : Prop :=
  RepP 17 σ P ∧ RepC σ Kf ∧ (∀ q, q < 3 → gI σ 41 q = w32 (jbs P A0 Kf q)) ∧ (∀ p h, p < 3 → h < 100 → gI σ 132 (p * 100 + h) = w32 (if Wt P A0 ro p h then 1 else 0)) ∧ ∃ A, RepS 122 σ A ∧ (∀ q, A 1 q = hd n A0 c q) ∧ (∀ k, A 9 k = A0 9 k) ∧ Bd B A
theorem TE.fr {n : Nat} {P A0 : Dat} {ro : Option Dat} {c : Nat} {B : Int} {σ σ' : Mem} {W : Nat → Prop} (h : TE n P A0 ro c B σ) (f : Fr W σ σ') (hw : ∀ c, W c → c = 42 ∨ c = 133 ∨ c = 134) : TE n P A0 ro c B σ' := by
  obtain ⟨a, b, d, e, A, h1, h2, h3, h4⟩ := h
  have no : ∀ c, c ≠ 42 → c ≠ 133 → c ≠ 134 → ¬ W c := fun c h1 h2 h3 z => by have := hw c z; omega
  exact ⟨a.fr f (fun i hi => no _ (by omega) (by omega) (by omega)), b.fr f (no _ (by omega) (by omega) (by omega)), fun q hq => by rw [f.gI (no _ (by omega) (by omega) (by omega))]; exact d q hq, fun p h hp hh => by rw [f.gI (no _ (by omega) (by omega) (by omega))]; exact e p h hp hh, A, h1.fr f (fun i hi => no _ (by omega) (by omega) (by omega)), h2, h3, h4⟩
theorem Kf_bd : BdK Kf := fun j a b => by
  unfold Kf upK
  split
  · omega
  · exact Kp_bd j a b
theorem Wt_eq {n : Nat} {P A0 : Dat} {ro : Option Dat} {c p : Nat} (hh : 0 ≤ hd n A0 c p ∧ hd n A0 c p ≤ 99 ∨ jbs P A0 Kf p = -1) : Wt P A0 ro p (max 0 (min 99 (hd n A0 c p))).toNat = Wh P A0 ro (hd n A0 c) p := by
  unfold Wt Wh
  by_cases hj : jbs P A0 Kf p = -1
  · unfold wlN; rw [if_pos hj, if_pos hj]
  · have hh := hh.resolve_right hj
    have e : (((max 0 (min 99 (hd n A0 c p))).toNat : Nat) : Int) = hd n A0 c p := by omega
    rw [e]
    have a := wlN_own (P := P) (A := A0) (B := up A0 1 p (hd n A0 c p)) (K := Kf) (ro := ro) (J := jbs P A0 Kf) (p := p)
    refine wlN_own (fun i k hi => ?_) ?_
    · show up A0 1 p (hd n A0 c p) i k = setH A0 (hd n A0 c) i k
      unfold setH
      rw [up_at, if_neg (fun z => hi z.1), if_neg hi]
    · show up A0 1 p (hd n A0 c p) 1 p = setH A0 (hd n A0 c) 1 p
      unfold setH
      rw [up_eq, if_pos rfl]
theorem spin2 {F n : Nat} {P A0 : Dat} {ro : Option Dat} {c : Nat} {B : Int} (wPl : WfPl P) (hn : P 0 4 = (n : Int)) (hc : Gd n P A0 c) (hB : B ≤ 800000000) : ∀ (d n' p : Nat) (σ : Mem), p + d = 3 → d < n' → TE n P A0 ro c B σ → (∀ q, q < p → gI σ 42 q = w32 (if Wh P A0 ro (hd n A0 c) q then 1 else 0)) →
    ∃ σ1, m9_spinOnce_2 F n' (w32 (p : Int)) σ = Option.bind (m2_work F 122 σ1) (fun p1 => m9_spinOnce_65 F F (0 : Int32) p1) ∧ TE n P A0 ro c B σ1 ∧ (∀ q, q < 3 → gI σ1 42 q = w32 (if Wh P A0 ro (hd n A0 c) q then 1 else 0)) ∧ Fr (fun c => c = 42) σ σ1 := by
  obtain ⟨n', hn', hn3⟩ := wPl.1.2.2.1
  have b99 := wPl.2.2.2.2.2.1
  intro d
  induction d with
  | zero =>
    intro n' p σ h1 h2 hE h42
    obtain ⟨n', rfl⟩ : ∃ q, n' = q + 1 := ⟨n' - 1, by omega⟩
    unfold m9_spinOnce_2
    rw [if_pos (by rw [wl_3, w_le (by omega) (by omega) (by omega) (by omega)]; omega)]
    exact ⟨σ, rfl, hE, fun q hq => h42 q (by omega), Fr.rf _ σ⟩
  | succ d ih =>
    intro n' p σ h1 h2 hE h42
    obtain ⟨n', rfl⟩ : ∃ q, n' = q + 1 := ⟨n' - 1, by omega⟩
    obtain ⟨e17, eC, e41, e132, A, eS, eh, e9, bA⟩ := id hE
    have q1 : gI σ 123 p = w32 (A 1 p) := eS.at 1 p
    have bA1 := bA 1 p
    have cl : (max 0 (min 99 (A 1 p))).toNat < 100 := by omega
    have ei : w32 (p : Int) * w32 100 + w32 (max 0 (min 99 (A 1 p))) = w32 ((p * 100 + (max 0 (min 99 (A 1 p))).toNat : Nat) : Int) := by
      rw [w_mul, w_add]; congr 1; omega
    have hh : 0 ≤ hd n A0 c p ∧ hd n A0 c p ≤ 99 ∨ jbs P A0 Kf p = -1 := by
      by_cases hpn : p < n
      · have := hc p hpn
        exact Or.inl (by omega)
      · exact Or.inr (J_ge wPl.1 wPl.2.1 (by omega))
    have ev : (w32 (if Wt P A0 ro p (max 0 (min 99 (A 1 p))).toNat then 1 else 0) &&& (1 : Int32)) = w32 (if Wh P A0 ro (hd n A0 c) p then 1 else 0) := by
      rw [eh p, Wt_eq hh]
      split <;> decide
    unfold m9_spinOnce_2
    rw [if_neg (by rw [wl_3, w_le (by omega) (by omega) (by omega) (by omega)]; omega), gd_pos (w_inB (by omega) (by omega) (by omega)), w_natk (by omega), q1, wl_99, mnI_w (by omega) (by omega) (by omega) (by omega), wl_0, mxI_w (by omega) (by omega) (by omega) (by omega), wl_100, ei, gd_pos (w_inB (by omega) (by omega) (by omega)), gd_pos (w_inB (by omega) (by omega) (by omega)), w_natk (by omega), e132 p _ (by omega) cl, ev, w_succ]
    have f1 : Fr (fun c => c = 42) σ (sI σ 42 p (w32 (if Wh P A0 ro (hd n A0 c) p then 1 else 0))) := (Fr.rf _ σ).sI rfl
    obtain ⟨σ1, m1, E1, g1, f2⟩ := ih n' (p + 1) _ (by omega) (by omega) (hE.fr f1 (fun c z => Or.inl z)) (fun q hq => by
      by_cases hqp : q = p
      · rw [hqp, gI_eq]
      · rw [gI_nej hqp]; exact h42 q (by omega))
    exact ⟨σ1, m1, E1, g1, f1.trans f2⟩
theorem spin65 {F : Nat} {x : Nat → Int} {v : Nat → Int32} {w12 : Int32} (hx : ∀ p : Nat, p < 3 → ((w12 >>> (w32 (p : Int) &&& (31 : Int32))) &&& (1 : Int32)) = w32 (x p)) : ∀ (d n' p : Nat) (σ : Mem), p + d = 3 → d < n' → gI σ 40 12 = w12 → (∀ q, q < 3 → gI σ 134 q = if q < p then v q + w32 (x q) else v q) →
    ∃ σ', m9_spinOnce_65 F n' (w32 (p : Int)) σ = some σ' ∧ Fr (fun c => c = 134) σ σ' ∧ ∀ q, q < 3 → gI σ' 134 q = v q + w32 (x q) := by
  intro d
  induction d with
  | zero =>
    intro n' p σ h1 h2 e12 h
    obtain ⟨n', rfl⟩ : ∃ q, n' = q + 1 := ⟨n' - 1, by omega⟩
    unfold m9_spinOnce_65
    rw [if_pos (by rw [wl_3, w_le (by omega) (by omega) (by omega) (by omega)]; omega)]
    exact ⟨σ, rfl, Fr.rf _ σ, fun q hq => by rw [h q hq, if_pos (by omega)]⟩
  | succ d ih =>
    intro n' p σ h1 h2 e12 h
    obtain ⟨n', rfl⟩ : ∃ q, n' = q + 1 := ⟨n' - 1, by omega⟩
    unfold m9_spinOnce_65
    rw [if_neg (by rw [wl_3, w_le (by omega) (by omega) (by omega) (by omega)]; omega), gd_pos (w_inB (by omega) (by omega) (by omega)), gd_pos (w_inB (by omega) (by omega) (by omega)), w_natk (by omega), h p (by omega), if_neg (by omega), e12, hx p (by omega), w_succ]
    have f1 : Fr (fun c => c = 134) σ (sI σ 134 p (v p + w32 (x p))) := (Fr.rf _ σ).sI rfl
    obtain ⟨σ', m1, f2, g⟩ := ih n' (p + 1) (sI σ 134 p (v p + w32 (x p))) (by omega) (by omega) (by rw [gI_nec (by decide)]; exact e12) (fun q hq => by
      by_cases hqp : q = p
      · rw [hqp, gI_eq, if_pos (by omega)]
      · rw [gI_nej hqp, h q hq]
        by_cases z : q < p
        · rw [if_pos z, if_pos (by omega)]
        · rw [if_neg z, if_neg (by omega)])
    exact ⟨σ', m1, f1.trans f2, g⟩
theorem spin_c {F n : Nat} {P A0 : Dat} {ro : Option Dat} {c : Nat} {B : Int} {σ : Mem} (wPl : WfPl P) (hn : P 0 4 = (n : Int)) (hc : Gd n P A0 c) (hBd : 2000 ≤ B ∧ B ≤ 700000000) (hE : TE n P A0 ro c B σ) (hF : 1000 ≤ F) :
    ∃ σ', m9_spinOnce F σ = some σ' ∧ TE n P A0 ro (gN n P A0 ro c) (B + 10) σ' ∧ (∀ p, p < 3 → gI σ' 134 p = gI σ 134 p + w32 (hB P A0 ro (hd n A0 c) p)) ∧ gI σ' 133 = gI σ 133 := by
  obtain ⟨bP, ⟨m, hm, hm8⟩, ⟨n', hn', hn3⟩, -⟩ := id wPl.1
  have b99 := wPl.2.2.2.2.2.1
  have hb := wPl.2.2.1
  obtain ⟨σ1, m1, E1, g1, f1⟩ := spin2 (F := F) (B := B) wPl hn hc (by omega) 3 F 0 σ (by omega) (by omega) hE (fun q hq => absurd hq (Nat.not_lt_zero _))
  obtain ⟨e17, eC, e41, e132, A, eS, eh, e9, bA⟩ := id E1
  have hJ1 : ∀ p, p < 3 → jbs P A0 Kf p = -1 ∨ (0 ≤ jbs P A0 Kf p ∧ jbs P A0 Kf p < 8) := fun p _ => jbs_rg hm hm8 p
  obtain ⟨σ2, m2, S2, K2⟩ := work_ok (F := F) (K := Kf) (J := jbs P A0 Kf) (Wl := Wh P A0 ro (hd n A0 c)) e17 eS eC bP (bA.mono (by omega)) Kf_bd (show StC 122 by unfold StC; omega) (by omega) hJ1 e41 g1
  have f2 := f2_work m2
  have cw0 : Cw A0 (A, K0 Kf, fun _ => -1) (hd n A0 c, fun _ => -1) := ⟨eh, e9, rfl, rfl, rfl, rfl⟩
  have cw := fun d => cw0.work (P := P) (J := jbs P A0 Kf) (Wl := Wh P A0 ro (hd n A0 c)) d 0
  have jn : ∀ p, jbs P A0 Kf p ≠ -1 → (p : Int) < P 0 4 := fun p hj => by
    rcases Int.lt_or_le (p : Int) (P 0 4) with z | z
    · exact z
    · exact absurd (J_ge wPl.1 wPl.2.1 z) hj
  have rg : ∀ d p, jbs P A0 Kf p ≠ -1 → 0 ≤ (workS P (jbs P A0 Kf) (Wh P A0 ro (hd n A0 c)) d 0 (A, K0 Kf, fun _ => -1)).1 1 p ∧ (workS P (jbs P A0 Kf) (Wh P A0 ro (hd n A0 c)) d 0 (A, K0 Kf, fun _ => -1)).1 1 p ≤ 99 := fun d p hj => by
    rw [(cw d).1 p]
    have := hW_rg (P := P) (A0 := A0) (J := jbs P A0 Kf) (Wl := Wh P A0 ro (hd n A0 c)) (q := p) hb.2.2.1 hb.2.2.2 (fun q hj => hb.2.1 q (jn q hj)) d 0 (hd n A0 c, fun _ => -1) (hc p (by have := jn p hj; omega))
    omega
  have bW : ∀ d : Nat, d ≤ 3 → Bd (B + d) (workS P (jbs P A0 Kf) (Wh P A0 ro (hd n A0 c)) d 0 (A, K0 Kf, fun _ => -1)).1 := by
    intro d
    induction d with
    | zero => intro _; exact bA.mono (by omega)
    | succ d ih =>
      intro hd3
      rw [workS_succ, Nat.zero_add]
      exact (stepS_bd1 (cw d).2.2.2.2.1 (cw d).2.2.2.2.2 (ih (by omega)) bP (by omega) (rg d d)).mono (by omega)
  have e12 : gI σ2 40 12 = w32 (hB P A0 ro (hd n A0 c) 0 + 2 * hB P A0 ro (hd n A0 c) 1 + 4 * hB P A0 ro (hd n A0 c) 2) := by
    rw [K2 12 (by decide), struck_h rfl, cw0.step.2.1, (cw 1).step.2.1, (cw 2).step.2.1]
    rfl
  have b134 : ∀ q, q < 3 → gI σ2 134 q = gI σ 134 q := fun q _ => by rw [f2.gI (by unfold Wm2_work; omega), f1.gI (by decide)]
  obtain ⟨σ3, m3, f3, g3⟩ := spin65 (F := F) (x := fun p => if p = 0 then hB P A0 ro (hd n A0 c) 0 else if p = 1 then hB P A0 ro (hd n A0 c) 1 else hB P A0 ro (hd n A0 c) 2) (v := fun q => gI σ 134 q) (w12 := w32 (hB P A0 ro (hd n A0 c) 0 + 2 * hB P A0 ro (hd n A0 c) 1 + 4 * hB P A0 ro (hd n A0 c) 2)) (fun p hp => bit_at hH_01 hH_01 hH_01 hp) 3 F 0 σ2 (by omega) (by omega) e12 (fun q hq => by rw [if_neg (by omega)]; exact b134 q hq)
  have f4 : Fr (fun c => Wm2_work 122 c ∨ c = 134) σ1 σ3 := f2.trans' f3
  refine ⟨σ3, ?_, ⟨e17.fr f4 (fun i hi => by unfold Wm2_work; omega), fun j hj => ?_, fun q hq => ?_, fun p h hp hh => ?_, _, S2.fr f3 (fun i hi => by omega), fun q => ?_, fun k => (cw 3).2.1 k, (bW 3 (by decide)).mono (by omega)⟩, fun p hp => ?_, ?_⟩
  · unfold m9_spinOnce
    have m1' : m9_spinOnce_2 F F (0 : Int32) σ = _ := m1
    rw [m1', m2, Option.bind_some]
    exact m3
  · rw [f3.gI (by decide), K2 j (Or.inl hj), workS_K (by omega)]
    show w32 (K0 Kf j) = _
    unfold K0
    rw [upK_lo (by omega), upK_lo (by omega), upK_lo (by omega)]
  · rw [f4.gI (by unfold Wm2_work; omega)]; exact e41 q hq
  · rw [f4.gI (by unfold Wm2_work; omega)]; exact e132 p h hp hh
  · rw [(cw 3).1 q, (gN_ok wPl hn hc).1]; rfl
  · rw [g3 p hp]
    rcases (show p = 0 ∨ p = 1 ∨ p = 2 by omega) with rfl | rfl | rfl <;> rfl
  · rw [f4.gI (by unfold Wm2_work; omega), f1.gI (by decide)]
theorem setMark_c {F : Nat} {σ : Mem} (hF : 100 ≤ F) : ∃ σ', m9_setMark F σ = some σ' ∧ (∀ q, q < 3 → gI σ' 133 q = gI σ 123 q) ∧ (∀ q, q < 3 → gI σ' 134 q = w32 0) ∧ Fr (fun c => c = 133 ∨ c = 134) σ σ' := by
  have loop : ∀ (d n p : Nat) (τ : Mem), p + d = 3 → d < n → Fr (fun c => c = 133 ∨ c = 134) σ τ → (∀ q, q < p → gI τ 133 q = gI σ 123 q ∧ gI τ 134 q = w32 0) → ∃ σ', m9_setMark_2 F n (w32 (p : Int)) τ = some σ' ∧ (∀ q, q < 3 → gI σ' 133 q = gI σ 123 q) ∧ (∀ q, q < 3 → gI σ' 134 q = w32 0) ∧ Fr (fun c => c = 133 ∨ c = 134) σ σ' := by
    intro d
    induction d with
    | zero =>
      intro n p τ h1 h2 f h3
      obtain ⟨n, rfl⟩ : ∃ k, n = k + 1 := ⟨n - 1, by omega⟩
      unfold m9_setMark_2
      rw [if_pos (by rw [wl_3, w_le (by omega) (by omega) (by omega) (by omega)]; omega)]
      exact ⟨τ, rfl, fun q hq => (h3 q (by omega)).1, fun q hq => (h3 q (by omega)).2, f⟩
    | succ d ih =>
      intro n p τ h1 h2 f h3
      obtain ⟨n, rfl⟩ : ∃ k, n = k + 1 := ⟨n - 1, by omega⟩
      unfold m9_setMark_2
      rw [if_neg (by rw [wl_3, w_le (by omega) (by omega) (by omega) (by omega)]; omega), gd_pos (w_inB (by omega) (by omega) (by omega)), gd_pos (w_inB (by omega) (by omega) (by omega)), gd_pos (w_inB (by omega) (by omega) (by omega)), w_natk (by omega), w_succ]
      refine ih n (p + 1) _ (by omega) (by omega) ((f.sI (Or.inl rfl)).sI (Or.inr rfl)) (fun q hq => ?_)
      by_cases h : q = p
      · rw [h, gI_nec (by decide), gI_eq, gI_eq]
        exact ⟨by rw [f.gI (by decide)], rfl⟩
      · rw [gI_nec (by decide), gI_nej h, gI_nej h, gI_nec (by decide)]; exact h3 q (by omega)
  exact loop 3 F 0 σ (by omega) (by omega) (Fr.rf _ σ) (fun q hq => by omega)
theorem atMark_c {F : Nat} {σ : Mem} {a b : Nat → Int} (ha : ∀ p, p < 3 → gI σ 133 p = w32 (a p)) (hb : ∀ p, p < 3 → gI σ 123 p = w32 (b p)) (ra : ∀ p, -2000000000 ≤ a p ∧ a p ≤ 2000000000) (rb : ∀ p, -2000000000 ≤ b p ∧ b p ≤ 2000000000) (hF : 100 ≤ F) : m9_isAtMark F σ = some (if a 0 = b 0 ∧ a 1 = b 1 ∧ a 2 = b 2 then (1 : Int32) else 0) := by
  have one : ∀ (n p : Nat), p < 3 → m9_isAtMark_2 F σ (n + 1) (w32 (p : Int)) = if a p = b p then m9_isAtMark_2 F σ n (w32 ((p + 1 : Nat) : Int)) else some (0 : Int32) := by
    intro n p hp
    have r1 := ra p
    have r2 := rb p
    rw [m9_isAtMark_2, if_neg (by rw [wl_3, w_le (by omega) (by omega) (by omega) (by omega)]; omega), gd_pos (w_inB (by omega) (by omega) (by omega)), gd_pos (w_inB (by omega) (by omega) (by omega)), w_natk (by omega), ha p hp, hb p hp, w_succ]
    by_cases h : a p = b p
    · rw [if_pos (by rw [h]), if_pos h]
    · rw [if_neg (by rw [w_eq (by omega) (by omega) (by omega) (by omega)]; exact h), if_neg h]
  have last : ∀ n, m9_isAtMark_2 F σ (n + 1) (w32 ((3 : Nat) : Int)) = some (1 : Int32) := fun n => by
    rw [m9_isAtMark_2, if_pos (by decide)]
  obtain ⟨n, rfl⟩ : ∃ q, F = q + 4 := ⟨F - 4, by omega⟩
  unfold m9_isAtMark
  rw [show (0 : Int32) = w32 ((0 : Nat) : Int) from rfl, one (n + 3) 0 (by omega), one (n + 2) 1 (by omega), one (n + 1) 2 (by omega), last n]
  by_cases h0 : a 0 = b 0
  · by_cases h1 : a 1 = b 1
    · by_cases h2 : a 2 = b 2
      · rw [if_pos h0, if_pos h1, if_pos h2, if_pos ⟨h0, h1, h2⟩]
      · rw [if_pos h0, if_pos h1, if_neg h2, if_neg (fun z => h2 z.2.2)]; rfl
    · rw [if_pos h0, if_neg h1, if_neg (fun z => h1 z.2.1)]; rfl
  · rw [if_neg h0, if_neg (fun z => h0 z.1)]; rfl
theorem hd_inj {n c c' : Nat} {A0 : Dat} (hc : encH n (hd n A0 c) = c) (hc' : encH n (hd n A0 c') = c') (h0 : hd n A0 c 0 = hd n A0 c' 0) (h1 : hd n A0 c 1 = hd n A0 c' 1) (h2 : hd n A0 c 2 = hd n A0 c' 2) : c = c' := by
  rw [← hc, ← hc']
  unfold encH
  rw [h0, h1, h2]
/-- all numbers that come, from a good one on -/
theorem orb_ok {n : Nat} {P A0 : Dat} {ro : Option Dat} {x : Nat} (wPl : WfPl P) (hn : P 0 4 = (n : Int)) (hx : Gd n P A0 x) (he : encH n (hd n A0 x) = x) (hl : x < 1000000) : ∀ k, Gd n P A0 (itg (gN n P A0 ro) k x) ∧ encH n (hd n A0 (itg (gN n P A0 ro) k x)) = itg (gN n P A0 ro) k x ∧ itg (gN n P A0 ro) k x < 1000000
  | 0 => ⟨hx, he, hl⟩
  | k + 1 => by
    obtain ⟨a, -, -⟩ := orb_ok (ro := ro) wPl hn hx he hl k
    obtain ⟨e1, e2, e3⟩ := gN_ok (ro := ro) wPl hn a
    rw [itg_succ]
    exact ⟨e2, by rw [e1]; rfl, e3⟩
theorem cyc_go {n : Nat} {P A0 : Dat} {ro : Option Dat} {x : Nat} (wPl : WfPl P) (hn : P 0 4 = (n : Int)) (hx : Gd n P A0 x) (he : encH n (hd n A0 x) = x) (hl : x < 1000000) : ∃ i p, 0 < p ∧ i + p ≤ 1000000 ∧ ∀ k, i ≤ k → itg (gN n P A0 ro) (k + p) x = itg (gN n P A0 ro) k x := by
  obtain ⟨i, j, h1, h2, h3⟩ := php 1000000 (fun k => itg (gN n P A0 ro) k x) (fun k _ => (orb_ok wPl hn hx he hl k).2.2)
  refine ⟨i, j - i, by omega, by omega, fun k hk => ?_⟩
  have h3 : itg (gN n P A0 ro) i x = itg (gN n P A0 ro) j x := h3
  rw [show k + (j - i) = k - i + j by omega, itg_add, ← h3, ← itg_add, show k - i + i = k by omega]
def SB (n : Nat) (P A0 : Dat) (ro : Option Dat) (p d c : Nat) : Int := sumg (fun c => hB P A0 ro (hd n A0 c) p) (gN n P A0 ro) d c
theorem turn44 {F n : Nat} {P A0 : Dat} {ro : Option Dat} {x : Nat} {i2 : Int32} (wPl : WfPl P) (hn : P 0 4 = (n : Int)) (bA0 : Bd 10000000 A0) (hx : Gd n P A0 x) (he : encH n (hd n A0 x) = x) (hl : x < 1000000) (hF : 1000 ≤ F) : ∀ (d n' q s j : Nat) (σ : Mem), q + s + d = 2097151 → d < n' → q + 1 = 2 ^ j → j ≤ 20 → s < q + 1 → TE n P A0 ro (itg (gN n P A0 ro) (q + s) x) (10000000 + 10 * ((q + s : Nat) : Int)) σ → (∀ p, p < 3 → gI σ 133 p = w32 (hd n A0 (itg (gN n P A0 ro) q x) p)) → (∀ p, p < 3 → gI σ 134 p = w32 (SB n P A0 ro p s (itg (gN n P A0 ro) q x))) → (∀ e, 0 < e → e ≤ s → itg (gN n P A0 ro) (q + e) x ≠ itg (gN n P A0 ro) q x) →
    ∃ (σ' : Mem) (q' r : Nat), m9_turn_44 F 26 i2 n' (w32 (s : Int)) (w32 ((q + 1 : Nat) : Int)) (w32 ((q + s : Nat) : Int)) σ = m9_turn_92 F 26 i2 (w32 (r : Int)) σ' ∧ Ret (gN n P A0 ro) (itg (gN n P A0 ro) q' x) r ∧ ∀ p, p < 3 → gI σ' 134 p = w32 (SB n P A0 ro p r (itg (gN n P A0 ro) q' x)) := by
  obtain ⟨i, per, c1, c2, c3⟩ := cyc_go (ro := ro) wPl hn hx he hl
  have p20 : ∀ j, j ≤ 20 → 2 ^ j ≤ 1048576 := fun j hj => Nat.le_trans (Nat.pow_le_pow_right (by decide) hj) (by decide)
  have hdb : ∀ c p, -2000000000 ≤ hd n A0 c p ∧ hd n A0 c p ≤ 2000000000 := fun c p => by
    have := bA0 1 p
    unfold hd dg
    split
    · split
      · omega
      · split <;> omega
    · omega
  intro d
  induction d with
  | zero =>
    intro n' q s j σ h1 h2 h3 h4 h5
    have := p20 j h4
    omega
  | succ d ih =>
    intro n' q s j σ h1 h2 h3 h4 h5 hE e133 e134 hne
    have pj := p20 j h4
    obtain ⟨n', rfl⟩ : ∃ q, n' = q + 1 := ⟨n' - 1, by omega⟩
    obtain ⟨og, oe, ol⟩ := orb_ok (ro := ro) wPl hn hx he hl (q + s)
    obtain ⟨σ1, m1, E1, g1, k1⟩ := spin_c (F := F) wPl hn og (by omega) hE hF
    rw [← itg_succ (g := gN n P A0 ro)] at E1
    have E1' : TE n P A0 ro (itg (gN n P A0 ro) (q + (s + 1)) x) (10000000 + 10 * ((q + (s + 1) : Nat) : Int)) σ1 := by
      obtain ⟨a, b, c, d, A, e, f, g, h⟩ := E1
      exact ⟨a, b, c, d, A, e, f, g, h.mono (by omega)⟩
    obtain ⟨-, -, -, -, A, eS, eh, -, -⟩ := id E1'
    have e123 : ∀ p, p < 3 → gI σ1 123 p = w32 (hd n A0 (itg (gN n P A0 ro) (q + (s + 1)) x) p) := fun p hp => by
      rw [← eh p]; exact eS 1 (by decide) p (by show p < 3; exact hp)
    have e133' : ∀ p, p < 3 → gI σ1 133 p = w32 (hd n A0 (itg (gN n P A0 ro) q x) p) := fun p hp => by rw [k1]; exact e133 p hp
    have e134' : ∀ p, p < 3 → gI σ1 134 p = w32 (SB n P A0 ro p (s + 1) (itg (gN n P A0 ro) q x)) := fun p hp => by
      rw [g1 p hp, e134 p hp, w_add]
      unfold SB
      rw [sumg_succ, ← itg_add, Nat.add_comm s q]
    have am := atMark_c (F := F) e133' e123 (hdb _) (hdb _) (by omega)
    unfold m9_turn_44
    rw [if_neg (by rw [wl_4000000, w_le (by omega) (by omega) (by omega) (by omega)]; omega), m1, Option.bind_some, am, Option.bind_some]
    simp only [g01]
    rw [w_succ, w_succ, Nat.add_assoc q s 1]
    by_cases hret : itg (gN n P A0 ro) (q + (s + 1)) x = itg (gN n P A0 ro) q x
    · rw [if_neg (not_not_intro (by rw [hret]; exact ⟨rfl, rfl, rfl⟩))]
      refine ⟨σ1, q, s + 1, rfl, ⟨Nat.succ_pos _, ?_, fun e e1 e2 => ?_⟩, e134'⟩
      · rw [← itg_add, Nat.add_comm (s + 1) q]; exact hret
      · rw [← itg_add, Nat.add_comm e q]; exact hne e e1 (by omega)
    · rw [if_pos (fun z => hret (hd_inj (orb_ok wPl hn hx he hl _).2.1 (orb_ok wPl hn hx he hl _).2.1 z.1.symm z.2.1.symm z.2.2.symm))]
      have hne' : ∀ e, 0 < e → e ≤ s + 1 → itg (gN n P A0 ro) (q + e) x ≠ itg (gN n P A0 ro) q x := fun e e1 e2 => by
        by_cases z : e = s + 1
        · rw [z]; exact hret
        · exact hne e e1 (by omega)
      by_cases hsz : s + 1 = q + 1
      · have j20 : j < 20 := by
          rcases Nat.lt_or_ge j 20 with z | z
          · exact z
          · exfalso
            have : j = 20 := by omega
            subst this
            have e20 : (2 : Nat) ^ 20 = 1048576 := by decide
            exact hne' per c1 (by omega) (c3 q (by omega))
        rw [if_pos (by rw [hsz])]
        obtain ⟨σ2, m2, a2, b2, f2⟩ := setMark_c (F := F) (σ := σ1) (by omega)
        rw [m2, Option.bind_some, wl_2, w_mul, wl_0]
        have pp : 2 ^ (j + 1) = 2 ^ j * 2 := Nat.pow_succ ..
        obtain ⟨σ', q', r, m3, r3, s3⟩ := ih n' (q + (s + 1)) 0 (j + 1) σ2 (by omega) (by omega) (by omega) (by omega) (by omega) (by rw [Nat.add_zero]; exact E1'.fr f2 (fun c z => Or.inr z)) (fun p hp => by rw [a2 p hp]; exact e123 p hp) (fun p hp => by rw [b2 p hp]; rfl) (fun e e1 e2 => by omega)
        refine ⟨σ', q', r, ?_, r3, s3⟩
        rw [← m3]
        have e1 : ((q + 1 : Nat) : Int) * 2 = ((q + (s + 1) + 1 : Nat) : Int) := by omega
        rw [e1]; rfl
      · rw [if_neg (by rw [w_eq (by omega) (by omega) (by omega) (by omega)]; omega)]
        exact ih n' q (s + 1) j σ1 (by omega) (by omega) h3 h4 (by omega) E1' e133' e134' hne'
