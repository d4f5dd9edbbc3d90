/-! TEXTS, 16: smithy, on both sides -/
def nxS (B : Nat → Int) (L d i : Nat) (z : Tq) : Int × Dat :=
  if z.2.1 = 0 ∧ ch B L (sk B L z.1) = -1 then (0, z.2.2)
  else if z.2.1 = 0 ∧ ch B L (sk B L z.1) = 59 then smR B L d (i + 1) (sk B L z.1 + 1) z.2.2
  else (ff z.2.1 (sk B L z.1) 0, z.2.2)
theorem smR_s {B : Nat → Int} {L d i p : Nat} {P : Dat} : smR B L (d + 1) i p P = nxS B L d i (smK B L i p P) := rfl
def OZ3 (x : Int × Dat) (y : Int32) (σ : Mem) : Prop := gI σ 483 1 = w32 0 ∧ if x.1 = 0 then y = 1 ∧ RQ 1 x.2 (gI σ 489) ∧ SW 1 x.2 else y = 0 ∧ gI σ 483 9 = w32 x.1
theorem oz3_good {x : Int × Dat} {y : Int32} {σ : Mem} (h : gI σ 483 1 = w32 0) (hz : x.1 = 0) (g : y = 1 ∧ RQ 1 x.2 (gI σ 489) ∧ SW 1 x.2) : OZ3 x y σ := ⟨h, by rw [if_pos hz]; exact g⟩
theorem oz3_bad {x : Int × Dat} {y : Int32} {σ : Mem} {f : Int} (h : gI σ 483 1 = w32 0) (hz : x.1 = f) (h0 : f ≠ 0) (g : y = 0 ∧ gI σ 483 9 = w32 f) : OZ3 x y σ := ⟨h, by rw [if_neg (by rw [hz]; exact h0), hz]; exact g⟩
theorem RQ.one {i : Nat} {P : Dat} {f : Nat → Int32} (h : RQ (i + 1) P f) : RQ 1 P f := ⟨fun _ => h.1 (Nat.succ_pos i), fun z => absurd z (by decide), h.2.2⟩
theorem SW.one {i : Nat} {P : Dat} (h : SW (i + 1) P) : SW 1 P := ⟨h.1, fun _ => h.2.1 (Nat.succ_pos i), h.2.2⟩
def V1 (j : Nat) : Prop := V14 j ∨ j = 1
def Frt (σ σ' : Mem) : Prop := Fr (fun c => c = 483 ∨ c = 489) σ σ' ∧ Sl V1 σ σ'
theorem Frt.trans {σ σ1 σ2 : Mem} (h : Frt σ σ1) (g : Frt σ1 σ2) : Frt σ σ2 := ⟨h.1.trans g.1, h.2.trans g.2⟩
theorem Frs.t {σ σ1 : Mem} (h : Frs σ σ1) : Frt σ σ1 := ⟨h.1, h.2.mono (fun j z => Or.inl z)⟩
theorem Qs.t {σ σ1 : Mem} (h : Qs σ σ1) : Frt σ σ1 := h.q.s14.t
theorem r88_3 {F : Nat} {σ : Mem} {f : Int} (h : gI σ 483 9 = w32 f) (hf : f ≠ 0 ∧ -1000000 ≤ f ∧ f ≤ 1000000) : ∃ σ', m12_readsAll_88 F σ = some (0, σ') ∧ Frt σ σ' ∧ gI σ' 483 1 = w32 0 ∧ gI σ' 483 9 = w32 f := by
  unfold m12_readsAll_88
  dsimp only
  rw [gI_nej (by decide), h, if_neg (by rw [wl_0, w_eq (by omega) (by omega) (by omega) (by omega)]; omega)]
  exact ⟨_, rfl, ⟨(Fr.rf _ σ).sI (Or.inl rfl), (Sl.rf _ σ).at (Or.inr rfl)⟩, gI_eq .., by rw [gI_nej (by decide)]; exact h⟩
theorem nmF_eb {B : Nat → Int} {L p : Nat} {lo hi f : Int} (hf : 0 ≤ f ∧ f ≤ 1 + 8 * (L : Int) + 10) (hp : p ≤ L) : 0 ≤ nmF B L lo hi p f ∧ nmF B L lo hi p f ≤ 1 + 8 * (L : Int) + 10 := by
  have q := sk_rg (B := B) (L := L) (p := p)
  unfold nmF nfa ff
  repeat' split
  all_goals omega
theorem nmP_le {B : Nat → Int} {L p : Nat} (h : p ≤ L) : nmP B L p ≤ L := by
  have := nmP_rg (B := B) (L := L) (p := p)
  omega
theorem smK_eb {B : Nat → Int} {L i p : Nat} {P : Dat} (hp : p ≤ L) : 0 ≤ (smK B L i p P).2.1 ∧ (smK B L i p P).2.1 ≤ 1 + 8 * (L : Int) + 10 ∧ (smK B L i p P).1 ≤ L := by
  have q := sk_rg (B := B) (L := L) (p := p)
  have rr := (rn_rg (B := B) (L := L) (p := sk B L p) (lo := 97) (hi := 122)).1
  have e0 : (0 : Int) ≤ 0 ∧ (0 : Int) ≤ 1 + 8 * (L : Int) + 10 := ⟨Int.le_refl _, by omega⟩
  have f0 : ∀ c : Int, 0 ≤ c → c ≤ 10 → 0 ≤ ff 0 (sk B L p) c ∧ ff 0 (sk B L p) c ≤ 1 + 8 * (L : Int) + 10 := fun c h1 h2 => by
    unfold ff
    rw [if_pos rfl]
    omega
  have hp1 : sk B L p + rn B L 97 122 (sk B L p) ≤ L := by omega
  unfold smK
  dsimp only
  generalize wdx B (sk B L p) (rn B L 97 122 (sk B L p)) (tws 0) 0 = k
  generalize sk B L p + rn B L 97 122 (sk B L p) = p1 at *
  have P1 := nmP_le (B := B) hp1
  have P2 := nmP_le (B := B) P1
  have P3 := nmP_le (B := B) P2
  split
  · exact ⟨(f0 0 (by decide) (by decide)).1, (f0 0 (by decide) (by decide)).2, by show sk B L p ≤ L; omega⟩
  · split
    · exact ⟨(f0 4 (by decide) (by decide)).1, (f0 4 (by decide) (by decide)).2, by show sk B L p ≤ L; omega⟩
    · split
      · have A := nmF_eb (B := B) (lo := 1) (hi := 999) (nmF_eb (B := B) (lo := 20) (hi := 99) (nmF_eb (B := B) (lo := 1) (hi := 9) e0 hp1) P1) P2
        exact ⟨A.1, A.2, P3⟩
      · split
        · have A := nmF_eb (B := B) (lo := 1) (hi := 20) e0 hp1
          exact ⟨A.1, A.2, P1⟩
        · split
          · unfold smJ
            dsimp only
            have A := nmF_eb (B := B) (lo := 0) (hi := P 0 4 - 1) e0 hp1
            have q2 := sk_rg (B := B) (L := L) (p := nmP B L p1)
            have rr2 := (rn_rg (B := B) (L := L) (p := sk B L (nmP B L p1)) (lo := 97) (hi := 122)).1
            have hp3 : sk B L (nmP B L p1) + rn B L 97 122 (sk B L (nmP B L p1)) ≤ L := by omega
            have hq3 : sk B L (nmP B L p1) ≤ L := by omega
            generalize sk B L (nmP B L p1) + rn B L 97 122 (sk B L (nmP B L p1)) = p3 at *
            have P4 := nmP_le (B := B) hp3
            have P5 := nmP_le (B := B) P4
            have P6 := nmP_le (B := B) P5
            split
            · refine ⟨?_, ?_, hq3⟩
              · show 0 ≤ ff _ _ 0
                unfold ff
                split <;> omega
              · show ff _ _ 0 ≤ _
                unfold ff
                split <;> omega
            · have C := nmF_eb (B := B) (lo := 0) (hi := 50) (nmF_eb (B := B) (lo := 1) (hi := 50) (nmF_eb (B := B) (lo := 1) (hi := 30) A hp3) P4) P5
              exact ⟨C.1, C.2, P6⟩
          · have A := nmF_eb (B := B) (lo := 0) (hi := 999) (nmF_eb (B := B) (lo := 0) (hi := 2) e0 hp1) P1
            exact ⟨A.1, A.2, P2⟩
theorem rd35_3 {F : Nat} {B : Nat → Int} {L : Nat} (hT : Txt B L) (hF : 1000 ≤ F) : ∀ (d i n : Nat) (z : Tq) (σ : Mem), i ≤ 40 → 41 - i ≤ d + 1 → 42 - i < n → z.2.1 = 0 → (i = 40 → z.2.1 ≠ 0) → z.1 ≤ L → RT B L z.1 0 σ → RQ (i + 1) z.2.2 (gI σ 489) → SW (i + 1) z.2.2 → DC z.2.2 → DP z.2.2 → gI σ 483 11 = w32 6 → gI σ 483 14 = w32 ((i + 1 : Nat) : Int) → ∃ y σ', m12_readsAll_35 F n (1 : Int32) σ = some (y, σ') ∧ Frt σ σ' ∧ OZ3 (nxS B L d i z) y σ' := by
  have hL := hT.1
  intro d
  induction d with
  | zero =>
    intro i n z σ hi hd hn h0 h40
    exact absurd h0 (h40 (by omega))
  | succ d ih =>
    intro i n z σ hi hd hn h0 h40 hz hS hR hW hC hD h11 h14
    obtain ⟨n, rfl⟩ : ∃ k, n = k + 1 := ⟨n - 1, by omega⟩
    have q := sk_rg (B := B) (L := L) (p := z.1)
    obtain ⟨σ1, m1, t1, q1⟩ := see_r (F := F) hT hS (by omega) hF
    have hch := ch_rg (p := sk B L z.1) hT
    unfold m12_readsAll_35 nxS
    rw [if_neg (by decide), m1, Option.bind_some]
    dsimp only
    by_cases z59 : ch B L (sk B L z.1) = 59
    · have hlt : sk B L z.1 < L := ch_lt (B := B) (L := L) (by omega)
      have hi40 : i ≠ 40 := fun y => h40 y h0
      rw [if_pos (by rw [z59]; rfl), if_neg (fun y => by have := y.2; omega), if_pos ⟨h0, z59⟩, t1.2.2.1, w_succ]
      have Q2 : Qs σ1 (sI σ1 483 8 (w32 ((sk B L z.1 + 1 : Nat) : Int))) := (Qs.rf σ1).s (by unfold V8; omega)
      have QQ := q1.trans Q2
      obtain ⟨y3, σ3, hh⟩ := clause3_r (F := F) (i := i + 1) (P := z.2.2) hT hF (t1.at (sk B L z.1 + 1)) hlt (by omega) hC hD hW (by rw [QQ.c (by decide)]; exact hR) (by rw [QQ.j (by unfold V8; omega)]; exact h11) (by rw [QQ.j (by unfold V8; omega)]; exact h14)
      have K3 := QQ.t.trans hh.2.1.t
      have eb := smK_eb (B := B) (L := L) (i := i + 1) (p := sk B L z.1 + 1) (P := z.2.2) hlt
      have c11 : gI σ3 483 11 = w32 6 := by rw [K3.2 11 (by unfold V1 V14 V8; omega)]; exact h11
      rw [hh.1, Option.bind_some, smR_s]
      dsimp only
      have hsm40 : i + 1 = 40 → (smK B L (i + 1) (sk B L z.1 + 1) z.2.2).2.1 ≠ 0 := fun y => by rw [y]; exact smK_40
      have hok : (smK B L (i + 1) (sk B L z.1 + 1) z.2.2).2.1 = 0 → SW (i + 1 + 1) (smK B L (i + 1) (sk B L z.1 + 1) z.2.2).2.2 := smK_ok hC hW
      have hdc := smK_dc (B := B) (L := L) (i := i + 1) (p := sk B L z.1 + 1) hC
      have hdp := smK_dp (B := B) (L := L) (i := i + 1) (p := sk B L z.1 + 1) hT hD hC
      have o3 := hh.2.2.1
      have c3 := hh.2.2.2
      generalize smK B L (i + 1) (sk B L z.1 + 1) z.2.2 = z2 at *
      by_cases zf : z2.2.1 = 0
      · unfold OK3 at o3
        rw [if_pos zf] at o3
        obtain ⟨e1, S4, R4⟩ := o3
        have c4 := c3 e1
        subst e1
        obtain ⟨y5, σ5, h5⟩ := ih (i + 1) n z2 σ3 (by omega) (by omega) (by omega) zf hsm40 eb.2.2 S4 R4 (hok zf) hdc hdp c11 c4
        exact ⟨y5, σ5, h5.1, K3.trans h5.2.1, h5.2.2⟩
      · unfold OK3 at o3
        rw [if_neg zf] at o3
        obtain ⟨e1, e2⟩ := o3
        subst e1
        obtain ⟨σ4, m4, f4, g1, g9⟩ := r88_3 (F := F) e2 (by omega)
        obtain ⟨n, rfl⟩ : ∃ q, n = q + 1 := ⟨n - 1, by omega⟩
        refine ⟨0, σ4, ?_, K3.trans f4, oz3_bad g1 ?_ zf ⟨rfl, g9⟩⟩
        · show (if (0 : Int32) = 0 then m12_readsAll_66 F 0 σ3 else _) = _
          rw [if_pos rfl]
          unfold m12_readsAll_66
          rw [if_pos rfl]
          exact m4
        · unfold nxS
          rw [if_neg (fun y => zf y.1), if_neg (fun y => zf y.1)]
          exact ff_bad zf
    · rw [if_neg (by rw [wl_59, w_eq (by omega) (by omega) (by omega) (by omega)]; exact z59)]
      obtain ⟨σ2, m2, t2, q2⟩ := see_r (F := F) hT t1 (by omega) hF
      rw [sk_sk] at m2 t2
      unfold m12_readsAll_66
      rw [if_neg (by decide), m2, Option.bind_some]
      dsimp only
      by_cases zm : ch B L (sk B L z.1) = -1
      · rw [if_pos (by rw [zm]; rfl), if_pos ⟨h0, zm⟩]
        unfold m12_readsAll_88
        dsimp only
        rw [gI_nej (by decide), t2.2.2.2, if_pos (show w32 0 = (0 : Int32) from rfl)]
        refine ⟨1, _, rfl, (q1.trans q2).t.trans ⟨(Fr.rf _ σ2).sI (Or.inl rfl), (Sl.rf _ σ2).at (Or.inr rfl)⟩, oz3_good (gI_eq ..) rfl ⟨rfl, ?_, hW.one⟩⟩
        rw [gI_ne _ _ _ (by decide), (q1.trans q2).c (by decide)]
        exact hR.one
      · rw [if_neg (by rw [wl_m1, w_eq (by omega) (by omega) (by omega) (by omega)]; exact zm), if_neg (fun y => zm y.2), if_neg (fun y => z59 y.2), t2.2.2.1]
        obtain ⟨σ3, m3, e3, q3⟩ := fails_r (F := F) (a := sk B L z.1) (c := 0) t2 (by decide)
        have m3 : m12_fails F (0 : Int32) (w32 (sk B L z.1 : Int)) σ2 = _ := m3
        rw [m3, Option.bind_some]
        dsimp only
        obtain ⟨σ4, m4, f4, g1, g9⟩ := r88_3 (F := F) e3 (by omega)
        have eff : ff z.2.1 (sk B L z.1) 0 = 1 + 8 * (sk B L z.1 : Int) + 0 := by rw [h0]; exact if_pos rfl
        exact ⟨0, σ4, m4, ((q1.trans q2).trans q3).t.trans f4, oz3_bad g1 eff (by omega) ⟨rfl, g9⟩⟩
theorem readsAll3_r {F : Nat} {B : Nat → Int} {L : Nat} {P : Dat} {σ : Mem} (hT : Txt B L) (hF : 1000 ≤ F) (hD : DP P) (h1 : gI σ 483 1 = w32 (L : Int)) (h2 : ∀ i, i < L → gI σ 484 i = (w32 (B i)).toInt8.toInt32) (h3 : gI σ 483 11 = w32 6) (hR : RQ 0 (p0 P) (gI σ 489)) : ∃ y σ', m12_readsAll F σ = some (y, σ') ∧ OZ3 (smS B L P) y σ' ∧ Fr (fun c => c = 483 ∨ c = 486 ∨ c = 489) σ σ' := by
  have hD0 : DP (p0 P) := (((((hD.up (by decide) (by decide) (by decide)).up (by decide) (by decide) (by decide)).up (by decide) (by decide) (by decide)).up (by decide) (by decide) (by decide)).up (by decide) (by decide) (by decide)).up (by decide) (by decide) (by decide)
  have hC0 : DC (p0 P) := ⟨Int.le_refl _, show (0 : Int) ≤ 3 by decide, Int.le_refl _, show (0 : Int) ≤ 8 by decide⟩
  have hW0 : SW 0 (p0 P) := ⟨rfl, fun z => absurd z (by decide), fun j hj => by have : (j : Int) < 0 := hj; omega, fun p hp => by have : (p : Int) < 0 := hp; omega, fun k hk => by
    rcases (show k = 0 ∨ k = 1 ∨ k = 2 by omega) with rfl | rfl | rfl <;> exact Int.le_refl _⟩
  unfold m12_readsAll
  rw [h3, gd_pos (by decide)]
  dsimp only
  have S0 : RT B L 0 0 (sI (sI (sI (sI (sI σ 486 (w32 6).toNatClampNeg (0 : Int32)) 483 14 (0 : Int32)) 483 8 (0 : Int32)) 483 9 (0 : Int32)) 483 12 (0 : Int32)) := by
    refine ⟨?_, fun i hi => ?_, ?_, ?_⟩
    · rw [gI_nej (by decide), gI_nej (by decide), gI_nej (by decide), gI_nej (by decide), gI_nec (by decide)]; exact h1
    · rw [gI_nec (by decide), gI_nec (by decide), gI_nec (by decide), gI_nec (by decide), gI_nec (by decide)]; exact h2 i hi
    · rw [gI_nej (by decide), gI_nej (by decide), gI_eq]; rfl
    · rw [gI_nej (by decide), gI_eq]; rfl
  have R0 : RQ 0 (p0 P) (gI (sI (sI (sI (sI (sI σ 486 (w32 6).toNatClampNeg (0 : Int32)) 483 14 (0 : Int32)) 483 8 (0 : Int32)) 483 9 (0 : Int32)) 483 12 (0 : Int32)) 489) := by
    rw [gI_ne _ _ _ (by decide), gI_ne _ _ _ (by decide), gI_ne _ _ _ (by decide), gI_ne _ _ _ (by decide), gI_ne _ _ _ (by decide)]; exact hR
  have c11 : gI (sI (sI (sI (sI (sI σ 486 (w32 6).toNatClampNeg (0 : Int32)) 483 14 (0 : Int32)) 483 8 (0 : Int32)) 483 9 (0 : Int32)) 483 12 (0 : Int32)) 483 11 = w32 6 := by
    rw [gI_nej (by decide), gI_nej (by decide), gI_nej (by decide), gI_nej (by decide), gI_nec (by decide)]; exact h3
  have c14 : gI (sI (sI (sI (sI (sI σ 486 (w32 6).toNatClampNeg (0 : Int32)) 483 14 (0 : Int32)) 483 8 (0 : Int32)) 483 9 (0 : Int32)) 483 12 (0 : Int32)) 483 14 = w32 ((0 : Nat) : Int) := by
    rw [gI_nej (by decide), gI_nej (by decide), gI_nej (by decide), gI_eq]; rfl
  have F0 : Fr (fun c => c = 483 ∨ c = 486 ∨ c = 489) σ (sI (sI (sI (sI (sI σ 486 (w32 6).toNatClampNeg (0 : Int32)) 483 14 (0 : Int32)) 483 8 (0 : Int32)) 483 9 (0 : Int32)) 483 12 (0 : Int32)) := (((((Fr.rf _ σ).sI (Or.inr (Or.inl rfl))).sI (Or.inl rfl)).sI (Or.inl rfl)).sI (Or.inl rfl)).sI (Or.inl rfl)
  generalize (sI (sI (sI (sI (sI σ 486 (w32 6).toNatClampNeg (0 : Int32)) 483 14 (0 : Int32)) 483 8 (0 : Int32)) 483 9 (0 : Int32)) 483 12 (0 : Int32)) = σ0 at *
  have frt : ∀ {τ τ' : Mem}, Frt τ τ' → Fr (fun c => c = 483 ∨ c = 486 ∨ c = 489) τ τ' := fun h => h.1.mono (fun c z => by omega)
  obtain ⟨y1, σ1, hh⟩ := clause3_r (F := F) hT hF S0 (Nat.zero_le _) (Nat.zero_le _) hC0 hD0 hW0 R0 c11 c14
  have eb := smK_eb (B := B) (L := L) (i := 0) (p := 0) (P := p0 P) (Nat.zero_le _)
  have hok : (smK B L 0 0 (p0 P)).2.1 = 0 → SW 1 (smK B L 0 0 (p0 P)).2.2 := smK_ok hC0 hW0
  have hdc := smK_dc (B := B) (L := L) (i := 0) (p := 0) hC0
  have hdp := smK_dp (B := B) (L := L) (i := 0) (p := 0) hT hD0 hC0
  have o3 := hh.2.2.1
  have c3 := hh.2.2.2
  have hL := hT.1
  rw [hh.1, Option.bind_some]
  dsimp only
  unfold smS
  rw [smR_s]
  generalize smK B L 0 0 (p0 P) = z at *
  unfold OK3 at o3
  by_cases zf : z.2.1 = 0
  · rw [if_pos zf] at o3
    obtain ⟨e1, S4, R4⟩ := o3
    have c4 := c3 e1
    subst e1
    obtain ⟨y2, σ2, h5⟩ := rd35_3 (F := F) hT hF 40 0 F z σ1 (by decide) (by decide) (by omega) zf (fun y => absurd y (by decide)) eb.2.2 S4 R4 (hok zf) hdc hdp (by rw [hh.2.1.2 11 (by unfold V14 V8; omega)]; exact c11) c4
    exact ⟨y2, σ2, h5.1, h5.2.2, (F0.trans (frt hh.2.1.t)).trans (frt h5.2.1)⟩
  · rw [if_neg zf] at o3
    obtain ⟨e1, e2⟩ := o3
    subst e1
    obtain ⟨σ4, m4, f4, g1, g9⟩ := r88_3 (F := F) e2 (by omega)
    obtain ⟨G, rfl⟩ : ∃ q, F = q + 1 := ⟨F - 1, by omega⟩
    refine ⟨0, σ4, ?_, oz3_bad g1 ?_ zf ⟨rfl, g9⟩, (F0.trans (frt hh.2.1.t)).trans (frt f4)⟩
    · show (if (0 : Int32) = 0 then m12_readsAll_66 (G + 1) 0 σ1 else _) = _
      rw [if_pos rfl]
      unfold m12_readsAll_66
      rw [if_pos rfl]
      exact m4
    · unfold nxS
      rw [if_neg (fun y => zf y.1), if_neg (fun y => zf y.1)]
      exact ff_bad zf
