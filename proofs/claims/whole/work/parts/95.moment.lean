/-! ACT: moment -/
theorem earnL_plus {P A : Dat} {p x : Int} : ∀ (d j : Nat) (s : Int), earnL P A p d j (s + x) = earnL P A p d j s + x
  | 0, _, _ => rfl
  | d + 1, j, s => by
    unfold earnL
    by_cases e : P 2 j = p ∧ A 6 j = 0
    · rw [if_pos e, if_pos e, Int.add_right_comm, earnL_plus d (j + 1)]
    · rw [if_neg e, if_neg e, earnL_plus d (j + 1)]
theorem earnL_done {P A B : Dat} {p : Int} {j : Nat} (h : ∀ k, k ≠ j → (B 6 k = 0 ↔ A 6 k = 0)) (ha : A 6 j ≠ 0) (hb : B 6 j = 0) : ∀ (d i : Nat) (s : Int), earnL P B p d i s = earnL P A p d i s + (if P 2 j = p ∧ i ≤ j ∧ j < i + d then P 7 j else 0)
  | 0, i, s => by
    rw [if_neg (by omega), Int.add_zero]; rfl
  | d + 1, i, s => by
    unfold earnL
    by_cases hi : i = j
    · subst hi
      rw [if_neg (fun z : P 2 i = p ∧ A 6 i = 0 => ha z.2)]
      by_cases hp : P 2 i = p
      · rw [if_pos ⟨hp, hb⟩, if_pos ⟨hp, by omega, by omega⟩, earnL_plus, earnL_done h ha hb d (i + 1), if_neg (by omega), Int.add_zero]
      · rw [if_neg (fun z => hp z.1), if_neg (fun z => hp z.1), earnL_done h ha hb d (i + 1), if_neg (by omega)]
    · have hh := h i hi
      have e2 : (if P 2 i = p ∧ B 6 i = 0 then s + P 7 i else s) = if P 2 i = p ∧ A 6 i = 0 then s + P 7 i else s := by
        by_cases e : P 2 i = p ∧ A 6 i = 0
        · rw [if_pos e, if_pos ⟨e.1, hh.mpr e.2⟩]
        · rw [if_neg e, if_neg (fun z => e ⟨z.1, hh.mp z.2⟩)]
      rw [e2, earnL_done h ha hb d (i + 1)]
      congr 1
      by_cases e : P 2 j = p ∧ i ≤ j ∧ j < i + (d + 1)
      · rw [if_pos e, if_pos ⟨e.1, by omega, by omega⟩]
      · rw [if_neg e, if_neg (fun z => e ⟨z.1, by omega, by omega⟩)]
def Ern (P A : Dat) : Prop := ∀ p : Nat, (p : Int) < P 0 4 → A 10 p = earnN P A p
theorem Ern.same {P A B : Dat} (h : Ern P A) (h6 : ∀ k, (B 6 k = 0 ↔ A 6 k = 0)) (h10 : ∀ q, B 10 q = A 10 q) : Ern P B := fun p hp => by
  rw [h10, h p hp]
  unfold earnN
  exact (earnL_congr h6 _ _ _).symm
theorem stepS_ern {P : Dat} {J : Nat → Int} {Wl : Nat → Bool} {p : Nat} {s : WS} (wB : WfB P) (hJ : J p = -1 ∨ (0 ≤ J p ∧ J p < P 0 5 ∧ P 2 (J p).toNat = p ∧ 0 < s.1 6 (J p).toNat)) (h : Ern P s.1) : Ern P (stepS P J Wl p s).1 := by
  by_cases hj : J p = -1
  · unfold stepS
    rw [if_pos hj]; exact h
  · obtain ⟨j0, j1, j2, j3⟩ := hJ.resolve_left hj
    obtain ⟨j, hjj⟩ : ∃ j : Nat, J p = j := ⟨(J p).toNat, by omega⟩
    rw [hjj, Int.toNat_natCast] at j2 j3
    have hb := wB.1 j (by omega)
    unfold stepS
    rw [if_neg hj, hjj, Int.toNat_natCast]
    split
    · split
      · show Ern P (strikeA P s.1 s.2.1 p j)
        unfold strikeA
        simp only []
        split
        · exact h.same (fun k => by rw [up_ne (Or.inl (by decide)), up_ne (Or.inl (by decide)), up_ne (Or.inl (by decide))]) (fun q => by rw [up_ne (Or.inl (by decide)), up_ne (Or.inl (by decide)), up_ne (Or.inl (by decide))])
        · split
          · split
            · rename_i hz
              intro q hq
              have e10 : up (up (up (up (up (up (up s.1 2 p 0) 1 p (max 0 (s.1 1 p - P 0 1))) 6 j (s.1 6 j - 1)) 1 p 0) 3 p (s.1 3 p + 1)) 7 j (min 9999 (s.1 0 0 + 1))) 10 p (s.1 10 p + P 7 j) 10 q = if q = p then s.1 10 p + P 7 j else s.1 10 q := by
                rw [up_at]
                by_cases e : q = p
                · rw [if_pos ⟨rfl, e⟩, if_pos e]
                · rw [if_neg (fun z => e z.2), if_neg e, up_ne (Or.inl (by decide)), up_ne (Or.inl (by decide)), up_ne (Or.inl (by decide)), up_ne (Or.inl (by decide)), up_ne (Or.inl (by decide)), up_ne (Or.inl (by decide))]
              have e6 : ∀ k, up (up (up (up (up (up (up s.1 2 p 0) 1 p (max 0 (s.1 1 p - P 0 1))) 6 j (s.1 6 j - 1)) 1 p 0) 3 p (s.1 3 p + 1)) 7 j (min 9999 (s.1 0 0 + 1))) 10 p (s.1 10 p + P 7 j) 6 k = if k = j then 0 else s.1 6 k := by
                intro k
                rw [up_ne (Or.inl (by decide)), up_ne (Or.inl (by decide)), up_ne (Or.inl (by decide)), up_ne (Or.inl (by decide)), up_at]
                by_cases e : k = j
                · rw [if_pos ⟨rfl, e⟩, if_pos e, hz]
                · rw [if_neg (fun z => e z.2), if_neg e, up_ne (Or.inl (by decide)), up_ne (Or.inl (by decide))]
              rw [e10]
              unfold earnN
              rw [earnL_done (A := s.1) (j := j) (fun k hk => by rw [e6, if_neg hk]) (by omega) (by rw [e6, if_pos rfl]) _ 0 0]
              by_cases e : q = p
              · rw [if_pos e, if_pos ⟨by omega, by omega, by omega⟩, e, h p (by omega)]; rfl
              · rw [if_neg e, if_neg (by omega), Int.add_zero]
                exact h q hq
            · rename_i hz
              refine h.same (fun k => ?_) (fun q => by rw [up_ne (Or.inl (by decide)), up_ne (Or.inl (by decide)), up_ne (Or.inl (by decide))])
              rw [up_at]
              by_cases e : k = j
              · rw [if_pos ⟨rfl, e⟩, e]; omega
              · rw [if_neg (fun z => e z.2), up_ne (Or.inl (by decide)), up_ne (Or.inl (by decide))]
          · exact h.same (fun k => by rw [up_ne (Or.inl (by decide)), up_ne (Or.inl (by decide))]) (fun q => by rw [up_ne (Or.inl (by decide)), up_ne (Or.inl (by decide))])
      · show Ern P (waitA P s.1 p)
        exact h.same (fun k => by unfold waitA; rw [up_ne (Or.inl (by decide)), up_ne (Or.inl (by decide))]) (fun q => by unfold waitA; rw [up_ne (Or.inl (by decide)), up_ne (Or.inl (by decide))])
    · have key : ∀ k, ((heatA P s.1 s.2.1 p j) 6 k = s.1 6 k ∨ (k = j ∧ (heatA P s.1 s.2.1 p j) 6 k = P 5 j)) ∧ (heatA P s.1 s.2.1 p j) 10 k = s.1 10 k := by
        intro k
        by_cases e : k = j
        · subst e
          unfold heatA
          split <;> split <;> simp [up_at]
        · unfold heatA
          split <;> split <;> simp [up_at, e]
      refine h.same (fun k => ?_) (fun q => (key q).2)
      rcases (key k).1 with e | ⟨e1, e2⟩
      · show heatA P s.1 s.2.1 p j 6 k = 0 ↔ _
        rw [e]
      · show heatA P s.1 s.2.1 p j 6 k = 0 ↔ _
        rw [e2, e1]; omega
theorem workS_ern {P : Dat} {J : Nat → Int} {Wl : Nat → Bool} (wB : WfB P) : ∀ (d p : Nat) (s : WS), Ern P s.1 → (∀ q : Nat, p ≤ q → J q = -1 ∨ (0 ≤ J q ∧ J q < P 0 5 ∧ P 2 (J q).toNat = q ∧ 0 < s.1 6 (J q).toNat)) → Ern P (workS P J Wl d p s).1
  | 0, _, _, h, _ => h
  | d + 1, p, s, h, hJ => workS_ern wB d (p + 1) (stepS P J Wl p s) (stepS_ern wB (hJ p (Nat.le_refl _)) h) (fun q hq => by
      by_cases hj : J q = -1
      · exact Or.inl hj
      · have a := (hJ q (by omega)).resolve_left hj
        refine Or.inr ⟨a.1, a.2.1, a.2.2.1, ?_⟩
        rw [stepS_6]
        · exact a.2.2.2
        · by_cases hp : J p = -1
          · exact Or.inl hp
          · refine Or.inr (fun e => ?_)
            have b := ((hJ p (Nat.le_refl _)).resolve_left hp).2.2.1
            rw [← e, a.2.2.1] at b
            omega)
theorem bit3 {a b : Int} (h : bitrel a b) : bitI b 3 = false := by
  rcases h with ⟨-, h⟩ | ⟨-, h⟩ | ⟨-, h⟩ | ⟨-, h⟩ <;> rw [h] <;> decide
theorem stepS_T3 {P : Dat} {J : Nat → Int} {Wl : Nat → Bool} {p : Nat} {s : WS} (wJ : WfJ P) (hJ : J p = -1 ∨ (0 ≤ J p ∧ J p < P 0 5)) (h4 : s.2.1 4 = 0) (h : s.2.2 3 = -1) : (stepS P J Wl p s).2.2 3 = -1 := by
  unfold stepS
  by_cases hj : J p = -1
  · rw [if_pos hj]; exact h
  · obtain ⟨j0, j1⟩ := hJ.resolve_left hj
    rw [if_neg hj]
    split
    · split
      · show tkT s.2.2 (bitsN P s.1 s.2.1 s.2.2 (J p).toNat) p 3 = -1
        unfold tkT bitsN
        rw [if_pos h4, bit3 (wJ (J p).toNat (by omega)).1]
        exact h
      · exact h
    · exact h
theorem workS_T3 {P : Dat} {J : Nat → Int} {Wl : Nat → Bool} (wJ : WfJ P) (hJ : ∀ q : Nat, J q = -1 ∨ (0 ≤ J q ∧ J q < P 0 5)) : ∀ (d p : Nat) (s : WS), s.2.1 4 = 0 → s.2.2 3 = -1 → (workS P J Wl d p s).2.2 3 = -1
  | 0, _, _, _, h => h
  | d + 1, p, s, h4, h => workS_T3 wJ hJ d (p + 1) (stepS P J Wl p s) (by rw [stepS_K (by decide)]; exact h4) (stepS_T3 wJ (hJ p) h4 h)
theorem passA_st {P A : Dat} {ro : Option Dat} {t : Nat} (wPl : WfPl P) (h : WfSt P A t) : WfSt P (passA P Kp ro A) (t + 1) := by
  obtain ⟨wP, wJ, wB, -⟩ := wPl
  obtain ⟨wI, h93, h10, h8⟩ := h
  have hj : ∀ q : Nat, jbs P A Kp q = -1 ∨ (0 ≤ jbs P A Kp q ∧ jbs P A Kp q < P 0 5 ∧ P 2 (jbs P A Kp q).toNat = q ∧ 0 < A 6 (jbs P A Kp q).toNat) := fun q => jbs_lt wP q
  have hT : (passW P Kp ro A).2.2 3 = -1 := workS_T3 wJ (fun q => (hj q).imp id (fun z => ⟨z.1, z.2.1⟩)) 3 0 (A, K0 Kp, fun _ => -1) rfl rfl
  refine ⟨passA_wf wI wP wJ wB Kp2, ?_, fun p hp => ?_, fun j => ?_⟩
  · unfold passA
    try dsimp only
    rw [up_ne (Or.inl (by decide)), wearL_add 3 1 0]
    show (if (passW P Kp ro A).2.2 3 = -1 then wearL (passW P Kp ro A).2.2 3 0 (passW P Kp ro A).1 else _) 9 3 = 0
    rw [if_pos hT, wearL_lo 3 0 _ (by omega)]
    unfold passW
    rw [workS_9]; exact h93
  · have he : Ern P (passW P Kp ro A).1 := workS_ern wB 3 0 (A, K0 Kp, fun _ => -1) h10 (fun q _ => hj q)
    rw [passA_row (Or.inl (by decide)) (by decide), he p hp]
    unfold earnN
    exact (earnL_congr (fun j => by rw [passA_row (Or.inl (by decide)) (by decide)]) _ _ _).symm
  · rw [passA_row (Or.inl (by decide)) (by decide)]
    unfold passW
    rw [workS_8]
    have := h8 j
    show 0 ≤ A 8 j ∧ A 8 j ≤ _
    omega
theorem moment_q {F t : Nat} {S : Ab} {σ : Mem} (hC : CInv S σ) (hR : RInv S σ) (wfx : Wfx t S) (ht : t ≤ 600) (hF : 10000 ≤ F) : Acts (t + 1) (m11_moment F σ) (m12_moment F) := by
  have wf := wfx.1
  have wPl := wf.1.1
  have wI := wf.1.2.1.1
  have rc6 := wf.2.1.1
  have e17 : gI σ 17 0 = w32 (wP (sW S) 0 0) := hC.1.1.at 0 0
  have hr : ∀ σ1, RInv S σ1 → m12_isSmithy F σ1 = _ := fun σ1 h => isSmithy_r (F := F) (h.E wf).1 wPl
  by_cases h1 : wP (sW S) 0 0 = 1
  · have e26 : gI σ 26 0 = w32 (wA (sW S) 0 0) := hC.1.2.1.at 0 0
    have t0 := wI.2.1
    have t1 := wI.2.2.1
    obtain ⟨σa, ma, hCa⟩ := remember_c (F := F) hC wf (by omega)
    obtain ⟨p, σp, mr, mp, hCp, hK, hRo, fp⟩ := begin_c (F := F) hCa (pushS_wf wf)
    obtain ⟨σ1, mg, gS, gK, -⟩ := go_ok (F := F) (c1 := 26) hCp.1.1 hCp.1.2.1 hK hRo wPl.1 ((wI.bd (by omega)).mono (by decide)) Kp_bd (by unfold StC; omega) (by omega)
    have gS : RepS 26 σ1 (passA (wP (sW S)) Kp (roOf S) (wA (sW S))) := gS
    have fg := f2_go (F := F) (c1 := 26) mg
    have hC1 : CInv (wS S (passA (wP (sW S)) Kp (roOf S) (wA (sW S)))) σ1 := act_c hCp rc6 fg (fun c z => by unfold Wm2_go at z; omega) gS
    have e11 : gI σ1 40 11 = w32 (hitN (wP (sW S)) Kp (roOf S) (wA (sW S))) := by
      rw [← passW_11]
      exact gK 11 (by omega)
    have m1 : m11_moment F σ = some (w32 (hitN (wP (sW S)) Kp (roOf S) (wA (sW S))), σ1) := by
      unfold m11_moment
      rw [e17, h1, if_neg (by decide), e26, if_pos (by rw [wl_9999, w_lt (by omega) (by omega) (by omega) (by omega)]; omega), ma, Option.bind_some, mr, Option.bind_some, mp, Option.bind_some, mg, Option.bind_some, e11]
    have f1 := f11_moment m1
    have hR1 := hR.cls wf f1 (fun c z => by unfold Wm11_moment at z; omega)
    obtain ⟨σb, mb, hRb⟩ := keepsAct_r (F := F) hR1 wf hF
    have hEb := hRb.E (pushS_wf wf)
    obtain ⟨σ2, mq, hE2, -, -, tl, fq, sl⟩ := re_step (F := F) hEb wPl wI (by omega) Kp_bd Kp2 (by decide) (by decide) (by omega)
    have hA2 : RepA σ2 (wP (sW S)) (passA (wP (sW S)) Kp (roOf S) (wA (sW S))) := hE2.1
    have hr := hr _ hR1
    rw [if_pos h1] at hr
    have e5 : gI σ1 493 5 = w32 (wA (sW S) 0 0) := (hR1.E wf).1.1 0 0 (by decide) rfl
    have m2 : m12_moment F σ1 = some (w32 (hitN (wP (sW S)) Kp (roOf S) (wA (sW S))), σ2) := by
      unfold m12_moment
      rw [hr, Option.bind_some, if_neg (by decide), gd_pos (by decide), show (5 : Int32).toNatClampNeg = 5 from rfl, e5, if_neg (by rw [wl_9999, w_eq (by omega) (by omega) (by omega) (by omega)]; omega), mb, Option.bind_some, mq]; rfl
    have f2 := f12_moment m2
    have wSt := passA_st (ro := roOf S) wPl wf.1.2.1
    refine ⟨wS S (passA (wP (sW S)) Kp (roOf S) (wA (sW S))), act_wf wfx (by omega) wSt, _, _, _, m1, m2, ?_, ?_⟩
    · exact hC1.fr rc6 f2 (fun c z => by unfold Wm12_moment at z; unfold Scr; omega)
    · refine act_r hRb wf.1.2.2.1.2.1 hA2 fq (fun c z => z) (fun j hj => ?_) (fun k h1 h2 => tl k (by omega))
      by_cases h27 : j = 27
      · have a := hA2.2.2.2.2.2
        have b := hRb.2.1.2.2.2.2.2.2.1
        rw [h27, b, a, wSt.2.1]
      · exact sl j (by omega)
  · refine ⟨S, wfx.mono (by omega), -1, σ, σ, ?_, ?_, hC, hR⟩
    · have := wPl.2.2.2.1
      unfold m11_moment
      rw [e17, show wP (sW S) 0 0 = 0 by omega, if_pos (by decide)]
    · have hr := hr σ hR
      rw [if_neg h1] at hr
      unfold m12_moment
      rw [hr, Option.bind_some, if_pos rfl]
