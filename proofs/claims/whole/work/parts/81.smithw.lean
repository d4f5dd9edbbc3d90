/-! TEXTS, 12: the class reads a whole SMITHY; it is well formed -/
theorem smK_40 {B : Nat → Int} {L p : Nat} {P : Dat} : (smK B L 40 p P).2.1 ≠ 0 := by
  unfold smK
  dsimp only
  split
  · show ff 0 (sk B L p) 0 ≠ 0
    exact ff_ne (by decide)
  · rw [if_pos (Or.inl (Nat.le_refl 40))]
    show ff 0 (sk B L p) 4 ≠ 0
    exact ff_ne (by decide)
theorem rd41_c {F : Nat} {B : Nat → Int} {L : Nat} (hT : Txt B L) (hF : 1000 ≤ F) : ∀ (d i n p : Nat) (P : Dat) (σ : Mem), i + d = 41 → 0 < d → d < n → p ≤ L → MC B L (p, 0, P) σ → ∃ σ', m4_read_41 F 3 n (w32 (i : Int)) σ = some (w32 (smR B L d i p P).1, σ') ∧ RepP 3 σ' (smR B L d i p P).2 ∧ DP (smR B L d i p P).2 ∧ DC (smR B L d i p P).2 ∧ 0 ≤ (smR B L d i p P).1 ∧ (smR B L d i p P).1 ≤ 100000 := by
  have hL := hT.1
  intro d
  induction d with
  | zero => intro i n p P σ h1 h2; omega
  | succ d ih =>
    intro i n p P σ h1 h2 h3 hpL hM
    obtain ⟨n, rfl⟩ : ∃ k, n = k + 1 := ⟨n - 1, by omega⟩
    obtain ⟨σ1, m1, M1⟩ := clause_c (F := F) (i := i) hT hF (by omega) hM
    have h40 : i = 40 → (smK B L i p P).2.1 ≠ 0 := fun z => by rw [z]; exact smK_40
    obtain ⟨T1, R1, D1, C1, b1, b2, b3⟩ := M1
    obtain ⟨σ2, m2, T2, f2⟩ := next_c (F := F) hT T1 (by omega) hF
    have R2 := R1.fr f2 (fun i hi => by omega)
    have q := sk_rg (B := B) (L := L) (p := (smK B L i p P).1)
    have hch := ch_rg (p := sk B L (smK B L i p P).1) hT
    have hft : gI σ 1 3 = 0 := hM.1.2.2.2
    unfold m4_read_41 smR
    rw [if_neg (by rw [wl_40, w_lt (by omega) (by omega) (by omega) (by omega)]; omega), hft, if_pos rfl, m1, Option.bind_some, m2, Option.bind_some]
    dsimp only
    rw [T2.2.2.2]
    generalize smK B L i p P = z at *
    -- once a FAULT is there
    have stop : ∀ (n : Nat) (x : Int32) (f : Int) (σ3 : Mem), 0 < n → gI σ3 1 3 = w32 f → f ≠ 0 → 0 ≤ f → f ≤ 100000 → m4_read_41 F 3 n x σ3 = some (w32 f, σ3) := by
      intro n x f σ3 hn hf h0 h1 h2
      obtain ⟨n, rfl⟩ : ∃ k, n = k + 1 := ⟨n - 1, by omega⟩
      unfold m4_read_41
      rw [hf]
      by_cases zx : 40 < x
      · rw [if_pos zx]
      · rw [if_neg zx, if_neg (by rw [wl_0, w_eq (by omega) (by omega) (by omega) (by omega)]; exact h0)]
    have n0 : 0 < n := by omega
    have r94 : ∀ (f : Int) (σ3 : Mem), TC B L (sk B L z.1) f σ3 → RepP 3 σ3 z.2.2 → f ≠ 0 → 0 ≤ f → f ≤ 100000 → ∃ σ', m4_read_94 F 3 (fun x2 σ => (fun x2 σ => m4_read_41 F 3 n x2 σ) x2 σ) (w32 (i : Int)) σ3 = some (w32 f, σ') ∧ RepP 3 σ' z.2.2 := by
      intro f σ3 t3 r3 h0 h1 h2
      unfold m4_read_94
      dsimp only
      rw [t3.2.2.1, w_succ, w_succ]
      have t4 := t3.at (sk B L z.1 + 1)
      rw [stop n _ f _ n0 t4.2.2.2 h0 h1 h2]
      exact ⟨_, rfl, r3.fr ((Fr.rf (fun c => c = 1) σ3).sI rfl) (fun i hi => by omega)⟩
    by_cases z0 : z.2.1 = 0
    · rw [if_pos (by rw [z0]; rfl)]
      by_cases zm : ch B L (sk B L z.1) = -1
      · rw [if_pos (by rw [zm]; rfl), if_pos ⟨z0, zm⟩]
        exact ⟨σ2, rfl, R2, D1, C1, Int.le_refl _, show (0 : Int) ≤ 100000 by decide⟩
      · rw [if_neg (by rw [wl_m1, w_eq (by omega) (by omega) (by omega) (by omega)]; exact zm), if_neg (fun y => zm y.2)]
        unfold m4_read_79
        by_cases z59 : ch B L (sk B L z.1) = 59
        · have hlt : sk B L z.1 < L := ch_lt (B := B) (L := L) (by omega)
          have hi : i ≠ 40 := fun y => h40 y z0
          rw [if_pos (by rw [z59]; rfl), if_pos ⟨z0, z59⟩]
          unfold m4_read_94
          dsimp only
          rw [T2.2.2.1, w_succ, w_succ]
          rw [z0] at T2
          exact ih (i + 1) n (sk B L z.1 + 1) z.2.2 _ (by omega) (by omega) (by omega) (by omega) ⟨T2.at _, R2.fr ((Fr.rf (fun c => c = 1) σ2).sI rfl) (fun i hi => by omega), D1, C1, show sk B L z.1 + 1 ≤ 1000 by omega, Int.le_refl _, show (0 : Int) ≤ 100000 by decide⟩
        · rw [if_neg (by rw [wl_59, w_eq (by omega) (by omega) (by omega) (by omega)]; exact z59), if_neg (fun y => z59 y.2), T2.2.2.1]
          obtain ⟨σ3, m3, t3, f3⟩ := fail_c (F := F) (a := sk B L z.1) (c := 0) T2 (by omega) (by omega)
          have m3 : m8_fail F (w32 (sk B L z.1 : Int)) (0 : Int32) σ2 = _ := m3
          have G := ff_rg2 (f := z.2.1) (q := sk B L z.1) (c := 0) ⟨b2, b3⟩ (by omega) (by decide)
          rw [m3, Option.bind_some]
          obtain ⟨σ4, m4, r4⟩ := r94 _ σ3 t3 (R2.fr f3 (fun i hi => by omega)) (ff_ne (by decide)) G.1 G.2
          exact ⟨σ4, m4, r4, D1, C1, G.1, G.2⟩
    · rw [if_neg (by rw [wl_0, w_eq (by omega) (by omega) (by omega) (by omega)]; exact z0), if_neg (fun y => z0 y.1), if_neg (fun y => z0 y.1)]
      have ef : ff z.2.1 (sk B L z.1) 0 = z.2.1 := ff_bad z0
      rw [ef]
      unfold m4_read_79
      by_cases z59 : w32 (ch B L (sk B L z.1)) = 59
      · rw [if_pos z59]
        obtain ⟨σ4, m4, r4⟩ := r94 _ σ2 T2 R2 z0 b2 b3
        exact ⟨σ4, m4, r4, D1, C1, b2, b3⟩
      · rw [if_neg z59, T2.2.2.1]
        obtain ⟨σ3, m3, t3, f3⟩ := fail_c (F := F) (a := sk B L z.1) (c := 0) T2 (by omega) (by omega)
        have m3 : m8_fail F (w32 (sk B L z.1 : Int)) (0 : Int32) σ2 = _ := m3
        rw [ef] at t3
        rw [m3, Option.bind_some]
        obtain ⟨σ4, m4, r4⟩ := r94 _ σ3 t3 (R2.fr f3 (fun i hi => by omega)) z0 b2 b3
        exact ⟨σ4, m4, r4, D1, C1, b2, b3⟩
/-- what the reading begins with, out of what was there -/
def p0 (P : Dat) : Dat := up (up (up (up (up (up P 0 0 1) 0 4 0) 0 5 0) 8 0 0) 8 1 0) 8 2 0
def smS (B : Nat → Int) (L : Nat) (P : Dat) : Int × Dat := smR B L 41 0 0 (p0 P)
def DInv (σ : Mem) : Prop := ∃ P, RepP 3 σ P ∧ DP P
theorem readP_c {F : Nat} {B : Nat → Int} {L : Nat} {P : Dat} {σ : Mem} (hT : Txt B L) (hF : 1000 ≤ F) (h1 : gI σ 1 1 = w32 (L : Int)) (h2 : ∀ i, i < L → gI σ 2 i = w32 (B i)) (hP : RepP 3 σ P) (hD : DP P) : ∃ σ', m4_read F 3 σ = some (w32 (smS B L P).1, σ') ∧ RepP 3 σ' (smS B L P).2 ∧ DP (smS B L P).2 ∧ DC (smS B L P).2 ∧ 0 ≤ (smS B L P).1 ∧ (smS B L P).1 ≤ 100000 := by
  have R1 := (((((hP.up 0 0 1).up 0 4 0).up 0 5 0).up 8 0 0).up 8 1 0).up 8 2 0
  have D1 : DP (p0 P) := (((((hD.up (by decide) (by decide) (by decide)).up (by decide) (by decide) (by decide)).up (by decide) (by decide) (by decide)).up (by decide) (by decide) (by decide)).up (by decide) (by decide) (by decide)).up (by decide) (by decide) (by decide)
  have C1 : DC (p0 P) := ⟨Int.le_refl _, show (0 : Int) ≤ 3 by decide, Int.le_refl _, show (0 : Int) ≤ 8 by decide⟩
  have key : ∀ (n : Nat) (σ3 : Mem), 4 ≤ n → m4_read_17 F 3 n (0 : Int32) σ3 = m4_read_41 F 3 F (0 : Int32) (sI (sI (sI (sI (sI σ3 11 0 (0 : Int32)) 11 1 (0 : Int32)) 11 2 (0 : Int32)) 1 2 (0 : Int32)) 1 3 (0 : Int32)) := by
    intro n σ3 hn
    obtain ⟨n, rfl⟩ : ∃ q, n = q + 1 + 1 + 1 + 1 := ⟨n - 4, by omega⟩
    unfold m4_read_17
    rw [if_neg (by decide), gd_pos (by decide)]
    unfold m4_read_17
    rw [if_neg (by decide), gd_pos (by decide)]
    unfold m4_read_17
    rw [if_neg (by decide), gd_pos (by decide)]
    unfold m4_read_17
    rw [if_pos (by decide)]
    rfl
  unfold m4_read
  dsimp only
  rw [key F _ (by omega)]
  have R2 : RepP 3 (sI (sI (sI (sI (sI (sI (sI (sI σ 3 0 (1 : Int32)) 3 4 (0 : Int32)) 3 5 (0 : Int32)) 11 0 (0 : Int32)) 11 1 (0 : Int32)) 11 2 (0 : Int32)) 1 2 (0 : Int32)) 1 3 (0 : Int32)) (p0 P) := (RepP.ne (RepP.ne R1 (c' := 1) (j := 2) (v := (0 : Int32)) (by decide)) (c' := 1) (j := 3) (v := (0 : Int32)) (by decide))
  have T2 : TC B L 0 0 (sI (sI (sI (sI (sI (sI (sI (sI σ 3 0 (1 : Int32)) 3 4 (0 : Int32)) 3 5 (0 : Int32)) 11 0 (0 : Int32)) 11 1 (0 : Int32)) 11 2 (0 : Int32)) 1 2 (0 : Int32)) 1 3 (0 : Int32)) := by
    refine ⟨?_, fun i hi => ?_, ?_, ?_⟩
    · rw [gI_nej (by decide), gI_nej (by decide), gI_nec (by decide), gI_nec (by decide), gI_nec (by decide), gI_nec (by decide), gI_nec (by decide), gI_nec (by decide)]; exact h1
    · rw [gI_nec (by decide), gI_nec (by decide), gI_nec (by decide), gI_nec (by decide), gI_nec (by decide), gI_nec (by decide), gI_nec (by decide), gI_nec (by decide)]; exact h2 i hi
    · rw [gI_nej (by decide), gI_eq]; rfl
    · rw [gI_eq]; rfl
  exact rd41_c hT hF 41 0 F 0 (p0 P) _ (by decide) (by decide) (by omega) (Nat.zero_le _) ⟨T2, R2, D1, C1, Nat.zero_le _, Int.le_refl _, show (0 : Int) ≤ 100000 by decide⟩
/-! well formed -/
theorem nmR_ok {B : Nat → Int} {L p : Nat} {lo hi f : Int} (h : nmF B L lo hi p f = 0) : lo ≤ nmR B L lo hi p f ∧ nmR B L lo hi p f ≤ hi ∧ f = 0 := by
  have hf : f = 0 := by
    by_cases z : f = 0
    · exact z
    · rw [nmF_bad z] at h; exact h
  unfold nmR
  rw [if_pos h]
  unfold nmF nfa at h
  by_cases z0 : rn B L 48 57 (sk B L p) = 0
  · rw [if_pos z0] at h
    exact absurd h (ff_ne (by decide))
  · rw [if_neg z0] at h
    by_cases z1 : 5 < rn B L 48 57 (sk B L p) ∨ nmV B L p < lo ∨ hi < nmV B L p
    · rw [if_pos z1] at h
      exact absurd h (ff_ne (by decide))
    · exact ⟨by omega, by omega, hf⟩
def JG (P : Dat) (j : Nat) : Prop := bitrel (P 3 j) (P 4 j) ∧ 0 ≤ P 2 j ∧ P 2 j < P 0 4 ∧ 1 ≤ P 5 j ∧ 0 ≤ P 7 j ∧ P 7 j ≤ 50
def SW (i : Nat) (P : Dat) : Prop := P 0 0 = 1 ∧ (0 < i → 1 ≤ P 0 1 ∧ 20 ≤ P 0 2 ∧ P 0 2 ≤ 99 ∧ 1 ≤ P 0 3) ∧ (∀ j : Nat, (j : Int) < P 0 5 → JG P j) ∧ (∀ p : Nat, (p : Int) < P 0 4 → 1 ≤ P 1 p) ∧ ∀ k, k < 3 → 0 ≤ P 8 k
theorem JG.up {P : Dat} {j : Nat} (h : JG P j) {a b : Nat} {v : Int} (hne : (a = 0 ∧ b ≠ 4) ∨ a = 1 ∨ a = 6 ∨ 8 ≤ a ∨ (1 ≤ a ∧ b ≠ j)) : JG (up P a b v) j := by
  obtain ⟨h1, h2, h3, h4, h5, h6⟩ := h
  unfold JG
  rw [up_ne (by omega), up_ne (by omega), up_ne (by omega), up_ne (by omega), up_ne (by omega), up_ne (by omega)]
  exact ⟨h1, h2, h3, h4, h5, h6⟩
theorem smK_ok {B : Nat → Int} {L i p : Nat} {P : Dat} (hC : DC P) (hW : SW i P) (h : (smK B L i p P).2.1 = 0) : SW (i + 1) (smK B L i p P).2.2 := by
  obtain ⟨w1, w2, w3, w4, w5⟩ := hW
  obtain ⟨c1, c2, c3, c4⟩ := hC
  unfold smK at h ⊢
  dsimp only at h ⊢
  generalize hk : wdx B (sk B L p) (rn B L 97 122 (sk B L p)) (tws 0) 0 = k at *
  generalize sk B L p + rn B L 97 122 (sk B L p) = p1 at *
  by_cases zk : k = -1
  · rw [if_pos zk] at h
    exact absurd (show ff 0 (sk B L p) 0 = 0 from h) (ff_ne (by decide))
  · rw [if_neg zk] at h ⊢
    by_cases zb : 40 ≤ i ∨ (k = 1 ∧ 3 ≤ P 0 4) ∨ (k = 2 ∧ 8 ≤ P 0 5) ∨ ¬ (k = 0 ↔ i = 0)
    · rw [if_pos zb] at h
      exact absurd (show ff 0 (sk B L p) 4 = 0 from h) (ff_ne (by decide))
    · rw [if_neg zb] at h ⊢
      by_cases k0 : k = 0
      · rw [if_pos k0] at h ⊢
        dsimp only at h ⊢
        have r3 := nmR_ok h
        have r2 := nmR_ok r3.2.2
        have r1 := nmR_ok r2.2.2
        refine ⟨?_, fun _ => ?_, fun j hj => ?_, fun q hq => ?_, fun q hq => ?_⟩
        · rw [up_ne (by omega), up_ne (by omega), up_ne (by omega)]; exact w1
        · refine ⟨?_, ?_, ?_, ?_⟩
          · rw [up_ne (by omega), up_ne (by omega), up_eq]; exact r1.1
          · rw [up_ne (by omega), up_eq]; exact r2.1
          · rw [up_ne (by omega), up_eq]; exact r2.2.1
          · rw [up_eq]; exact r3.1
        · rw [up_ne (by omega), up_ne (by omega), up_ne (by omega)] at hj
          exact (((w3 j hj).up (by omega)).up (by omega)).up (by omega)
        · rw [up_ne (by omega), up_ne (by omega), up_ne (by omega)] at hq
          rw [up_ne (by omega), up_ne (by omega), up_ne (by omega)]; exact w4 q hq
        · rw [up_ne (by omega), up_ne (by omega), up_ne (by omega)]; exact w5 q hq
      · have hi : 0 < i := by
          rcases Nat.eq_zero_or_pos i with z | z
          · exact absurd (Or.inr (Or.inr (Or.inr (fun y => k0 (y.mpr z))))) zb
          · exact z
        have w2 := w2 hi
        rw [if_neg k0] at h ⊢
        by_cases k1 : k = 1
        · rw [if_pos k1] at h ⊢
          dsimp only at h ⊢
          have r1 := nmR_ok h
          have h3 : P 0 4 < 3 := by omega
          refine ⟨?_, fun _ => ?_, fun j hj => ?_, fun q hq => ?_, fun q hq => ?_⟩
          · rw [up_ne (by omega), up_ne (by omega)]; exact w1
          · rw [up_ne (by omega), up_ne (by omega), up_ne (by omega), up_ne (by omega), up_ne (by omega), up_ne (by omega)]; exact w2
          · rw [up_ne (by omega), up_ne (by omega)] at hj
            obtain ⟨g1, g2, g3, g4, g5, g6⟩ := w3 j hj
            unfold JG
            rw [up_ne (by omega), up_ne (by omega), up_ne (by omega), up_ne (by omega), up_ne (by omega), up_ne (by omega), up_eq, up_ne (by omega), up_ne (by omega), up_ne (by omega), up_ne (by omega)]
            exact ⟨g1, g2, by omega, g4, g5, g6⟩
          · rw [up_eq] at hq
            rw [up_ne (by omega)]
            by_cases zq : q = (P 0 4).toNat
            · rw [zq, up_eq]; exact r1.1
            · rw [up_ne (by omega)]; exact w4 q (by omega)
          · rw [up_ne (by omega), up_ne (by omega)]; exact w5 q hq
        · rw [if_neg k1] at h ⊢
          by_cases k2 : k = 2
          · rw [if_pos k2] at h ⊢
            have h8 : P 0 5 < 8 := by omega
            unfold smJ at h ⊢
            dsimp only at h ⊢
            generalize hw : wdx B (sk B L (nmP B L p1)) (rn B L 97 122 (sk B L (nmP B L p1))) (tws 1) 0 = w at *
            have wr := wdx_rg (B := B) (p := sk B L (nmP B L p1)) (n := rn B L 97 122 (sk B L (nmP B L p1))) (tws 1) 0 (by decide)
            have l1 : (tws 1).length = 4 := rfl
            rw [hw] at wr
            by_cases zw : w = -1
            · rw [if_pos zw] at h
              exact absurd (show ff (nmF B L 0 (P 0 4 - 1) p1 0) (sk B L (nmP B L p1)) 0 = 0 from h) (ff_ne (by decide))
            · rw [if_neg zw] at h ⊢
              dsimp only at h ⊢
              have r4 := nmR_ok h
              have r3 := nmR_ok r4.2.2
              have r2 := nmR_ok r3.2.2
              have r1 := nmR_ok r2.2.2
              have hbit : bitrel w (if w = 3 then 3 else if w = 2 then 4 else if w = 1 then 2 else 1) := by
                unfold bitrel
                rcases (show w = 0 ∨ w = 1 ∨ w = 2 ∨ w = 3 by omega) with e | e | e | e <;> rw [e] <;> decide
              generalize (if w = 3 then (3 : Int) else if w = 2 then 4 else if w = 1 then 2 else 1) = bb at *
              have u0 : ∀ (a b : Nat), ((a = 0 ∧ b ≠ 5) ∨ a = 1 ∨ a = 8) → up (up (up (up (up (up (up P 2 (P 0 5).toNat (nmR B L 0 (P 0 4 - 1) p1 0)) 3 (P 0 5).toNat w) 4 (P 0 5).toNat bb) 5 (P 0 5).toNat (nmR B L 1 30 (sk B L (nmP B L p1) + rn B L 97 122 (sk B L (nmP B L p1))) (nmF B L 0 (P 0 4 - 1) p1 0))) 6 (P 0 5).toNat (nmR B L 1 50 (nmP B L (sk B L (nmP B L p1) + rn B L 97 122 (sk B L (nmP B L p1)))) (nmF B L 1 30 (sk B L (nmP B L p1) + rn B L 97 122 (sk B L (nmP B L p1))) (nmF B L 0 (P 0 4 - 1) p1 0)))) 7 (P 0 5).toNat (nmR B L 0 50 (nmP B L (nmP B L (sk B L (nmP B L p1) + rn B L 97 122 (sk B L (nmP B L p1))))) (nmF B L 1 50 (nmP B L (sk B L (nmP B L p1) + rn B L 97 122 (sk B L (nmP B L p1)))) (nmF B L 1 30 (sk B L (nmP B L p1) + rn B L 97 122 (sk B L (nmP B L p1))) (nmF B L 0 (P 0 4 - 1) p1 0))))) 0 5 (P 0 5 + 1) a b = P a b := fun a b hab => by
                rw [up_ne (by omega), up_ne (by omega), up_ne (by omega), up_ne (by omega), up_ne (by omega), up_ne (by omega), up_ne (by omega)]
              refine ⟨?_, fun _ => ?_, fun j hj => ?_, fun q hq => ?_, fun q hq => ?_⟩
              · rw [u0 0 0 (by omega)]; exact w1
              · rw [u0 0 1 (by omega), u0 0 2 (by omega), u0 0 3 (by omega)]; exact w2
              · rw [up_eq] at hj
                by_cases zj : j = (P 0 5).toNat
                · unfold JG
                  rw [u0 0 4 (by omega)]
                  rw [zj]
                  refine ⟨?_, ?_, ?_, ?_, ?_, ?_⟩
                  · rw [up_ne (by omega), up_ne (by omega), up_ne (by omega), up_ne (by omega), up_ne (by omega), up_eq, up_ne (by omega), up_ne (by omega), up_ne (by omega), up_ne (by omega), up_eq]; exact hbit
                  · rw [up_ne (by omega), up_ne (by omega), up_ne (by omega), up_ne (by omega), up_ne (by omega), up_ne (by omega), up_eq]; exact r1.1
                  · rw [up_ne (by omega), up_ne (by omega), up_ne (by omega), up_ne (by omega), up_ne (by omega), up_ne (by omega), up_eq]; have := r1.2.1; omega
                  · rw [up_ne (by omega), up_ne (by omega), up_ne (by omega), up_eq]; exact r2.1
                  · rw [up_ne (by omega), up_eq]; exact r4.1
                  · rw [up_ne (by omega), up_eq]; exact r4.2.1
                · exact (((((((w3 j (by omega)).up (by omega)).up (by omega)).up (by omega)).up (by omega)).up (by omega)).up (by omega)).up (by omega)
              · rw [u0 0 4 (by omega)] at hq
                rw [u0 1 q (by omega)]; exact w4 q hq
              · rw [u0 8 q (by omega)]; exact w5 q hq
          · rw [if_neg k2] at h ⊢
            dsimp only at h ⊢
            have r2 := nmR_ok h
            have r1 := nmR_ok r2.2.2
            refine ⟨?_, fun _ => ?_, fun j hj => ?_, fun q hq => ?_, fun q hq => ?_⟩
            · rw [up_ne (by omega)]; exact w1
            · rw [up_ne (by omega), up_ne (by omega), up_ne (by omega)]; exact w2
            · rw [up_ne (by omega)] at hj
              exact (w3 j hj).up (by omega)
            · rw [up_ne (by omega)] at hq
              rw [up_ne (by omega)]; exact w4 q hq
            · by_cases zq : q = (nmR B L 0 2 p1 0).toNat
              · rw [zq, up_eq]; exact r2.1
              · rw [up_ne (by omega)]; exact w5 q hq
