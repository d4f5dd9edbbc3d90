/-! QUERY: round, 4: the reference's MOMENT of a ROUND -/
theorem setH_up {A : Dat} {h : Nat → Int} {p : Nat} {v : Int} : up (setH A h) 1 p v = setH A (upK h p v) := by
  funext i j
  unfold setH upK
  rw [up_at]
  by_cases hi : i = 1
  · by_cases hj : j = p
    · rw [if_pos ⟨hi, hj⟩, if_pos hi, if_pos hj]
    · rw [if_neg (fun z => hj z.2), if_pos hi, if_pos hi, if_neg hj]
  · rw [if_neg (fun z => hi z.1), if_neg hi, if_neg hi]
theorem setH_own {A : Dat} {h : Nat → Int} (e : ∀ q, h q = A 1 q) : setH A h = A := by
  funext i j
  unfold setH
  by_cases hi : i = 1
  · rw [if_pos hi, e, hi]
  · rw [if_neg hi]
theorem upK_self {h : Nat → Int} {p : Nat} : upK h p (h p) = h := by
  funext q
  unfold upK
  split
  · rename_i z; rw [z]
  · rfl
theorem jbs_setH {P A : Dat} {h : Nat → Int} {p : Nat} : jbs P (setH A h) Kf p = jbs P A Kf p :=
  jbs_congr (fun j _ => if_neg (by decide)) (fun j => if_neg (by decide))
theorem WfA_setH {P A : Dat} {h : Nat → Int} (w : WfA P A) (hh : ∀ p : Nat, (p : Int) < P 0 4 → 0 ≤ h p ∧ h p ≤ P 0 2) : WfA P (setH A h) := by
  obtain ⟨a, b, c⟩ := w
  exact ⟨fun j hj => a j hj, fun q hq => hh q hq, fun k hk => c k hk⟩
theorem goesF {F p : Nat} {σ : Mem} {P A0 : Dat} {Wl : Nat → Bool} {t : HT} (hA : RepA σ P (setH A0 t.1)) (hQ : RepQ σ Kf) (wA : WfA P (setH A0 t.1)) (wP : WfP P) (wJ : WfJ P) (bA : Bd 900000000 (setH A0 t.1)) (hp : (p : Int) < P 0 4) (hq : 0 ≤ P 1 p) (ht : gI σ 494 p = w32 (hTu P A0 (jbs P A0 Kf) Wl p t)) (h0 : gI σ 496 p = w32 0) (hF : 100 ≤ F) :
    ∃ σ', m12_goesOn F (w32 (p : Int)) σ = some σ' ∧ RepA σ' P (setH A0 (hS P A0 (jbs P A0 Kf) Wl p t).1) ∧ gI σ' 496 p = w32 (hH P A0 (jbs P A0 Kf) Wl p t) ∧ (∀ q, q ≠ p → gI σ' 496 q = gI σ 496 q) ∧ Tl σ σ' := by
  obtain ⟨bP, ⟨m, hm, hm8⟩, ⟨n, hn, hn3⟩, -⟩ := id wP
  have bA9 : Bd 1000000000 (setH A0 t.1) := bA.mono (by decide)
  have hp3 : p < 3 := by omega
  have n3 : P 0 4 ≤ 3 := by omega
  have n8 : P 0 5 ≤ 8 := by omega
  have jr := jbs_lt (A := setH A0 t.1) (K := Kf) wP p
  rw [jbs_setH] at jr
  have e25 : gI σ 483 25 = w32 1 := hQ.2.2.1
  have e28 : gI σ 483 28 = w32 0 := hQ.2.2.2.2
  have i0 : (w32 10 + (w32 7 * w32 (p : Int))) = w32 ((10 + 7 * p : Nat) : Int) := by rw [w_mul, w_add]; congr 1
  have i5 : w32 ((10 + 7 * p : Nat) : Int) + w32 5 = w32 ((15 + 7 * p : Nat) : Int) := by rw [w_add]; congr 1; omega
  have a1 : gI σ 493 (10 + 7 * p) = w32 (t.1 p) := hA.1 1 p (by decide) hp
  have aq : gI σ 493 (15 + 7 * p) = w32 (P 1 p) := hA.2.2.1 p hp
  have ab : gI σ 493 1 = w32 (P 0 2) := hA.2.1 1 (by decide)
  have b1 : -900000000 ≤ t.1 p ∧ t.1 p ≤ 900000000 := bA 1 p
  have b01 := bP 0 1
  have b02 := bP 0 2
  have b1p := bP 1 p
  have up1 : ∀ v : Int, RepA (sI σ 493 (10 + 7 * p) (w32 v)) P (setH A0 (upK t.1 p v)) := fun v => by
    have := hA.upd n3 n8 1 p v (by decide) hp
    rw [setH_up] at this
    exact this
  unfold m12_goesOn
  rw [jobNow_r hA hQ wA wP bA9 (by decide) hp3 hF, Option.bind_some, jbs_setH, e25, if_neg (by decide), wl_10, wl_7, i0]
  by_cases hj : jbs P A0 Kf p = -1
  · unfold m12_goesOn_56 hS hH
    rw [hj, if_neg (by decide), if_pos rfl, if_pos rfl]
    exact ⟨σ, rfl, hA, h0, fun _ _ => rfl, Tl.rf σ⟩
  · have jr := jr.resolve_left hj
    obtain ⟨j, hjj⟩ : ∃ j : Nat, jbs P A0 Kf p = j := ⟨(jbs P A0 Kf p).toNat, by omega⟩
    have hjn : (jbs P A0 Kf p).toNat = j := by omega
    have hjm : (j : Int) < P 0 5 := by omega
    have hbr := (wJ j hjm).1
    have ebits : bitsN P A0 Kf t.2 j = P 4 j := if_pos rfl
    have hb4 : 0 < P 4 j ∧ P 4 j < 16 := by unfold bitrel at hbr; omega
    have jj : jbs P (setH A0 t.1) Kf p = (j : Int) := by rw [jbs_setH, hjj]
    by_cases hw : Wl p = true
    · -- has a will to strike
      have hit : (hS P A0 (jbs P A0 Kf) Wl p t).1 = upK t.1 p (max 0 (t.1 p - P 0 1)) := by
        unfold hS; rw [if_neg hj, if_pos hw]
      have e1 : (setH A0 t.1) 1 p = t.1 p := rfl
      by_cases ho : okT P A0 Kf t.2 j = true
      · have htu : hTu P A0 (jbs P A0 Kf) Wl p t = P 4 j := by
          unfold hTu; rw [if_neg hj, if_pos hw, hjn, if_pos ho, ebits]
        have hhit : hH P A0 (jbs P A0 Kf) Wl p t = if t.1 p < P 6 j then 0 else 1 := by
          unfold hH; rw [if_neg hj, if_pos hw, hjn, if_pos ho]
        rw [htu] at ht
        rw [hit, hhit, hjj, goes56_r hA hQ wA wP bA9 Kf_bd hp jj ht (by omega) (by omega) hF]
        unfold m12_goesOn_123 m12_strikes m12_strikes_23
        rw [e1, gd_pos (w_inB (by omega) (by omega) (by omega)), w_natk (by omega), gd_pos (w_inB (by omega) (by omega) (by omega)), w_natk (k := p) (by omega)]
        try dsimp only
        rw [gI_nec (show (494 : Nat) ≠ 493 by decide), ht, if_neg (by rw [wl_0, w_eq (by omega) (by omega) (by omega) (by omega)]; omega)]
        by_cases hh : P 6 j ≤ t.1 p
        · rw [if_pos (show decide (P 6 j ≤ t.1 p) = true from decide_eq_true hh), if_neg (show ¬ t.1 p < P 6 j by omega), if_neg (by decide), gd_pos (w_inB (by omega) (by omega) (by omega)), gd_pos (w_inB (by omega) (by omega) (by omega))]
          rw [gI_nec (show (483 : Nat) ≠ 496 by decide), gI_nec (show (483 : Nat) ≠ 493 by decide), e25, if_neg (by decide), Option.bind_some, gI_nec (show (496 : Nat) ≠ 493 by decide), h0]
          refine ⟨_, rfl, ?_, by rw [gI_eq]; rfl, fun q hq => by rw [gI_nej hq, gI_nec (by decide)], ((Tl.rf σ).at (by omega)).ne (by decide)⟩
          exact (up1 _).same (gI_ne _ _ _ (by decide)) (gI_nec (by decide))
        · rw [if_neg (show ¬ decide (P 6 j ≤ t.1 p) = true by rw [decide_eq_true_eq]; exact hh), if_pos (show t.1 p < P 6 j by omega), if_pos (show w32 0 = (0 : Int32) from rfl)]
          rw [gI_nec (show (483 : Nat) ≠ 493 by decide), e25, if_neg (by decide), Option.bind_some]
          exact ⟨_, rfl, up1 _, by rw [gI_nec (by decide)]; exact h0, fun q hq => by rw [gI_nec (by decide)], (Tl.rf σ).at (by omega)⟩
      · have htu : hTu P A0 (jbs P A0 Kf) Wl p t = 0 := by
          unfold hTu; rw [if_neg hj, if_pos hw, hjn, if_neg ho]
        have hhit : hH P A0 (jbs P A0 Kf) Wl p t = 0 := by
          unfold hH; rw [if_neg hj, if_pos hw, hjn, if_neg ho]
        rw [htu] at ht
        rw [hit, hhit, hjj, goes56_r hA hQ wA wP bA9 Kf_bd hp jj ht (by decide) (by decide) hF]
        unfold m12_goesOn_123
        rw [e1, gd_pos (w_inB (by omega) (by omega) (by omega)), w_natk (by omega), gd_pos (w_inB (by omega) (by omega) (by omega)), w_natk (k := p) (by omega)]
        try dsimp only
        rw [gI_nec (show (494 : Nat) ≠ 493 by decide), ht, if_pos (show w32 0 = (0 : Int32) from rfl)]
        exact ⟨_, rfl, up1 _, by rw [gI_nec (by decide)]; exact h0, fun q hq => by rw [gI_nec (by decide)], (Tl.rf σ).at (by omega)⟩
    · have htu : hTu P A0 (jbs P A0 Kf) Wl p t = 16 := by
        unfold hTu; rw [if_neg hj, if_neg hw]
      have hhit : hH P A0 (jbs P A0 Kf) Wl p t = 0 := by
        unfold hH; rw [if_neg hj, if_neg hw]
      have hit : (hS P A0 (jbs P A0 Kf) Wl p t).1 = upK t.1 p (if t.1 p + P 1 p ≤ P 0 2 then t.1 p + P 1 p else 0) := by
        unfold hS; rw [if_neg hj, if_neg hw]
      rw [htu] at ht
      rw [hit, hhit, hjj]
      unfold m12_goesOn_56 m12_heats
      rw [if_pos (by rw [wl_0, w_le (by omega) (by omega) (by omega) (by omega)]; omega), gd_pos (w_inB (by omega) (by omega) (by omega)), w_natk (k := p) (by omega), ht, if_pos (by rfl), e28, if_pos (show w32 0 = (0 : Int32) from rfl), wl_10, wl_7, i0, wl_5, i5, gd_pos (w_inB (by omega) (by omega) (by omega)), gd_pos (w_inB (by omega) (by omega) (by omega)), gd_pos (w_inB (by omega) (by omega) (by omega)), w_natk (by omega), w_natk (by omega), a1, aq, w_add]
      try dsimp only
      rw [gd_pos (w_inB (by omega) (by omega) (by omega)), gd_pos (by decide), show (1 : Int32).toNatClampNeg = 1 from rfl, gI_nej (show 1 ≠ 10 + 7 * p by omega), ab, gI_eq]
      by_cases hc : t.1 p + P 1 p ≤ P 0 2
      · rw [if_neg (by rw [w_lt (by omega) (by omega) (by omega) (by omega)]; omega), if_pos hc, Option.bind_some]
        exact ⟨_, rfl, up1 _, by rw [gI_nec (by decide)]; exact h0, fun q hq => by rw [gI_nec (by decide)], (Tl.rf σ).at (by omega)⟩
      · rw [if_pos (by rw [w_lt (by omega) (by omega) (by omega) (by omega)]; omega), if_neg hc, gd_pos (w_inB (by omega) (by omega) (by omega)), gI_nec (show (483 : Nat) ≠ 493 by decide), gI_nec (show (483 : Nat) ≠ 493 by decide), e25, if_neg (by decide), Option.bind_some]
        refine ⟨_, rfl, ?_, by rw [gI_nec (by decide), gI_nec (by decide)]; exact h0, fun q hq => by rw [gI_nec (by decide), gI_nec (by decide)], ((Tl.rf σ).at (by omega)).at (by omega)⟩
        have := (up1 (t.1 p + P 1 p)).upd n3 n8 1 p 0 (by decide) hp
        rw [setH_up] at this
        have e : upK (upK t.1 p (t.1 p + P 1 p)) p 0 = upK t.1 p 0 := by
          funext q
          unfold upK
          split <;> rfl
        rw [e] at this
        exact this
theorem hW_end {P A0 : Dat} {J : Nat → Int} {Wl : Nat → Bool} : ∀ (d p : Nat) (s : HT), (∀ q, p ≤ q → J q = -1) → hW P A0 J Wl d p s = s
  | 0, _, _, _ => rfl
  | d + 1, p, s, h => by
    have e : hS P A0 J Wl p s = s := by unfold hS; rw [if_pos (h p (Nat.le_refl _))]
    show hW P A0 J Wl d (p + 1) (hS P A0 J Wl p s) = s
    rw [e]
    exact hW_end d (p + 1) s (fun q hq => h q (by omega))
theorem pass8F {F n : Nat} {P A0 : Dat} {Wl : Nat → Bool} (wPl : WfPl P) (hn : P 0 4 = (n : Int)) (wA : WfA P A0) (bA : Bd 10000000 A0) (hF : 100 ≤ F) : ∀ (d n' p : Nat) (σ : Mem) (t : HT) (tot : Int), p + d = 3 → d < n' → RepA σ P (setH A0 t.1) → RepQ σ Kf → (∀ q, q < n → 0 ≤ t.1 q ∧ t.1 q ≤ P 0 2) → (∀ q, n ≤ q → t.1 q = A0 1 q) → (∀ q, p ≤ q → q < n → gI σ 494 q = w32 (hTu P A0 (jbs P A0 Kf) Wl q (hW P A0 (jbs P A0 Kf) Wl (q - p) p t))) →
    ∃ (σ' : Mem) (tot' : Int), m12_passes_8 F n' (w32 tot) (w32 (p : Int)) σ = some (w32 tot', σ') ∧ RepA σ' P (setH A0 (hW P A0 (jbs P A0 Kf) Wl d p t).1) ∧ RepQ σ' Kf ∧ (∀ q, p ≤ q → q < n → gI σ' 496 q = w32 (hH P A0 (jbs P A0 Kf) Wl q (hW P A0 (jbs P A0 Kf) Wl (q - p) p t))) ∧ (∀ q, q < p → gI σ' 496 q = gI σ 496 q) ∧ Tl σ σ' := by
  obtain ⟨n', hn', hn3⟩ := wPl.1.2.2.1
  have hb := wPl.2.2.1
  have b99 := wPl.2.2.2.2.2.1
  have fin : ∀ (n' p : Nat) (σ : Mem) (t : HT) (tot : Int), n ≤ p → p ≤ 1000 → RepA σ P (setH A0 t.1) → RepQ σ Kf → m12_passes_8 F (n' + 1) (w32 tot) (w32 (p : Int)) σ = some (w32 tot, σ) := by
    intro n' p σ t tot h1 h2 hA hQ
    rw [pass_end hA wPl.1 (by omega) (by omega)]
    unfold passEnd
    have e25 : gI σ 483 25 = w32 1 := hQ.2.2.1
    rw [e25, if_neg (by decide)]
  intro d
  induction d with
  | zero =>
    intro n' p σ t tot h1 h2 hA hQ hr ho hT
    obtain ⟨n', rfl⟩ : ∃ k, n' = k + 1 := ⟨n' - 1, by omega⟩
    exact ⟨σ, tot, fin n' p σ t tot (by omega) (by omega) hA hQ, hA, hQ, fun q a b => by omega, fun q _ => rfl, Tl.rf σ⟩
  | succ d ih =>
    intro n' p σ t tot h1 h2 hA hQ hr ho hT
    obtain ⟨n', rfl⟩ : ∃ k, n' = k + 1 := ⟨n' - 1, by omega⟩
    by_cases hpn : p < n
    · have e3 : gI σ 493 3 = w32 (P 0 4) := hA.2.1 3 (by decide)
      have hpI : (p : Int) < P 0 4 := by omega
      have bt : Bd 900000000 (setH A0 t.1) := fun i j => by
        unfold setH
        by_cases hi : i = 1
        · rw [if_pos hi]
          by_cases hj : j < n
          · have := hr j hj; omega
          · rw [ho j (by omega)]; have := bA 1 j; omega
        · rw [if_neg hi]; have := bA i j; omega
      have A1 : RepA (sI σ 496 p (0 : Int32)) P (setH A0 t.1) := hA.same (gI_ne _ _ _ (by decide)) (gI_nec (by decide))
      have Q1 : RepQ (sI σ 496 p (0 : Int32)) Kf := hQ.sl (V := fun _ => False) (fun j _ => gI_nec (by decide)) (fun j _ _ _ z => z.elim)
      have T1 := hT p (Nat.le_refl _) hpn
      rw [Nat.sub_self] at T1
      obtain ⟨σ1, m1, A2, g1, g2, tl1⟩ := goesF (F := F) (Wl := Wl) A1 Q1 (WfA_setH wA (fun q hq => hr q (by omega))) wPl.1 wPl.2.1 bt hpI (hb.2.1 p hpI) (by rw [gI_nec (by decide)]; exact T1) (by rw [gI_eq]; rfl) hF
      have f1 := f12_goesOn m1
      have s1 := f12_goesOn_s m1
      have Q2 : RepQ σ1 Kf := Q1.sl s1 (fun j _ _ _ z => by unfold Vm12_goesOn at z; exact z)
      obtain ⟨σ2, tot', m2, A3, Q3, k1, k2, tl2⟩ := ih n' (p + 1) σ1 (hS P A0 (jbs P A0 Kf) Wl p t) (tot + hH P A0 (jbs P A0 Kf) Wl p t) (by omega) (by omega) A2 Q2 (fun q hq => hS_rg hb.2.2.1 hb.2.2.2 (fun _ => hb.2.1 p hpI) (hr q hq)) (fun q hq => by rw [hS_oth (Or.inl (by omega))]; exact ho q hq) (fun q hq hqn => by
        have := hT q (by omega) hqn
        rw [f1.gI (by unfold Wm12_goesOn; omega), gI_nec (by decide), this]
        rw [show q - p = (q - (p + 1)) + 1 by omega]; rfl)
      refine ⟨σ2, tot', ?_, A3, Q3, fun q hq hqn => ?_, fun q hq => ?_, ((Tl.rf σ).ne (by decide)).trans (tl1.trans tl2)⟩
      · unfold m12_passes_8
        rw [gd_pos (by decide), show (3 : Int32).toNatClampNeg = 3 from rfl, e3, hn, if_neg (by rw [w_le (by omega) (by omega) (by omega) (by omega)]; omega), gd_pos (w_inB (by omega) (by omega) (by omega)), w_natk (by omega)]
        try dsimp only
        rw [m1, Option.bind_some, gd_pos (w_inB (by omega) (by omega) (by omega)), g1, w_add, w_succ]
        exact m2
      · by_cases hqp : q = p
        · rw [hqp, k2 p (by omega), g1, Nat.sub_self]; rfl
        · rw [k1 q (by omega) hqn, show q - p = (q - (p + 1)) + 1 by omega]; rfl
      · rw [k2 q (by omega), g2 q (by omega), gI_nej (by omega)]
    · rw [hW_end (d + 1) p t (fun q hq => J_ge wPl.1 wPl.2.1 (by omega))]
      exact ⟨σ, tot, fin n' p σ t tot (by omega) (by omega) hA hQ, hA, hQ, fun q a b => by omega, fun q _ => rfl, Tl.rf σ⟩
theorem passesF {F n : Nat} {P A0 : Dat} {ro : Option Dat} {h : Nat → Int} {σ : Mem} (wPl : WfPl P) (hn : P 0 4 = (n : Int)) (wA : WfA P A0) (bA : Bd 10000000 A0) (hA : RepA σ P (setH A0 h)) (hQ : RepQ σ Kf) (hR : RepFo σ ro) (hr : ∀ q, q < n → 0 ≤ h q ∧ h q ≤ P 0 2) (ho : ∀ q, n ≤ q → h q = A0 1 q) (hF : 1000 ≤ F) :
    ∃ (σ' : Mem) (tot : Int), m12_passes F σ = some (w32 tot, σ') ∧ RepA σ' P (setH A0 (hN P A0 ro h)) ∧ RepQ σ' Kf ∧ RepFo σ' ro ∧ (∀ q, q < n → gI σ' 496 q = w32 (hB P A0 ro h q)) ∧ Tl σ σ' := by
  obtain ⟨n', hn', hn3⟩ := wPl.1.2.2.1
  have b99 := wPl.2.2.2.2.2.1
  have bt : Bd 900000000 (setH A0 h) := fun i j => by
    unfold setH
    by_cases hi : i = 1
    · rw [if_pos hi]
      by_cases hj : j < n
      · have := hr j hj; omega
      · rw [ho j (by omega)]; have := bA 1 j; omega
    · rw [if_neg hi]; have := bA i j; omega
  obtain ⟨σ1, t1, t2, -⟩ := turns_r (F := F) hA hQ hR (WfA_setH wA (fun q hq => hr q (by omega))) wPl.1 wPl.2.1 (bt.mono (by decide)) Kf_bd (show -1 ≤ Kf 3 by decide) hF
  have f1 := f12_takesTurns t1
  have l1 := f12_takesTurns_s t1
  have A1 : RepA σ1 P (setH A0 h) := hA.same (f1.gI (by unfold Wm12_takesTurns; omega)) (l1 27 (by unfold Vm12_takesTurns; omega))
  have Q1 : RepQ σ1 Kf := hQ.sl l1 (fun j a b c => by unfold Vm12_takesTurns; omega)
  have eJ : jbs P (setH A0 h) Kf = jbs P A0 Kf := funext fun q => jbs_setH
  have cw0 : Cw A0 (setH A0 h, K0 Kf, fun _ => -1) (h, fun _ => -1) := ⟨fun q => rfl, fun k => rfl, rfl, rfl, rfl, rfl⟩
  obtain ⟨σ2, tot, m2, A2, Q2, k1, -, tl2⟩ := pass8F (F := F) (Wl := Wh P A0 ro h) wPl hn wA bA (by omega) 3 F 0 σ1 (h, fun _ => -1) 0 (by omega) (by omega) A1 Q1 hr ho (fun q _ hq => by
    rw [t2 q (by omega), eJ, Nat.sub_zero]
    have cw := (cw0.work (P := P) (J := jbs P A0 Kf) (Wl := Wh P A0 ro h) q 0).step (P := P) (J := jbs P A0 Kf) (Wl := Wh P A0 ro h) (p := q)
    rw [← cw.2.2]; rfl)
  have m : m12_passes F σ = some (w32 tot, σ2) := by
    unfold m12_passes
    rw [t1, Option.bind_some]
    exact m2
  have f3 := f12_passes m
  have s3 := f12_passes_s m
  exact ⟨σ2, tot, m, A2, Q2, hR.fr f3 s3 (by unfold Wm12_passes; omega) (by unfold Wm12_passes; omega) (by unfold Wm12_passes; omega) (by unfold Vm12_passes; omega), fun q hq => k1 q (Nat.zero_le _) hq, (Tl.fr f1 (by unfold Wm12_takesTurns; omega)).trans tl2⟩
