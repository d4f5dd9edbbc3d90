/-! QUERY: beside -/
def dig9 (s n k : Nat) : Int := ((n / 9 ^ (s - 1 - k) % 9 : Nat) : Int) - 1
abbrev Y3 : Type := Int32 × Int32 × Int32
def besX (P A : Dat) (i : Nat) (g : Int) (x : Y3) : Option Y3 :=
  if g = -1 then some x else if g < P 0 5 ∧ opn P A i g.toNat = true ∧ w32 (P 4 g.toNat) &&& x.1 = 0 then some (x.1 ||| w32 (P 4 g.toNat), x.2.1 + 1, x.2.2 + w32 (P 7 g.toNat)) else none
def besP (P A : Dat) (s n : Nat) : Nat → Option Y3
  | 0 => some (0, 0, 0)
  | i + 1 => (besP P A s n i).bind (besX P A i (dig9 s n i))
abbrev BT : Type := Int32 × Int32 × (Nat → Int32)
def besU (s n : Nat) (B : BT) : Option Y3 → BT
  | none => B
  | some x => if B.1 < x.2.1 ∨ (x.2.1 = B.1 ∧ B.2.1 < x.2.2) then (x.2.1, x.2.2, fun k => w32 (dig9 s n k)) else B
def besS (P A : Dat) (s n : Nat) (B : BT) : BT := besU s n B (besP P A s n s)
def fld (f : Nat → BT → BT) : Nat → Nat → BT → BT
  | 0, _, B => B
  | d + 1, a, B => fld f d (a + 1) (f a B)
theorem fld_add {f : Nat → BT → BT} : ∀ (d e a : Nat) (B : BT), fld f (d + e) a B = fld f e (a + d) (fld f d a B)
  | 0, e, a, B => by rw [Nat.zero_add]; rfl
  | d + 1, e, a, B => by
    rw [show d + 1 + e = (d + e) + 1 by omega]
    show fld f (d + e) (a + 1) _ = fld f e (a + (d + 1)) (fld f d (a + 1) _)
    rw [fld_add d e (a + 1), show a + 1 + d = a + (d + 1) by omega]
theorem fld_id {f : Nat → BT → BT} : ∀ (d a : Nat) (B : BT), (∀ r, r < d → ∀ B, f (a + r) B = B) → fld f d a B = B
  | 0, _, _, _ => rfl
  | d + 1, a, B, h => by
    have h0 := h 0 (by omega) B
    rw [Nat.add_zero] at h0
    show fld f d (a + 1) (f a B) = B
    rw [h0]
    exact fld_id d (a + 1) B (fun r hr B => by have := h (r + 1) (by omega) B; rw [show a + 1 + r = a + (r + 1) by omega]; exact this)
theorem dig9_lo {s i d n g r k : Nat} (hs : s ≤ 3) (h : i + (d + 1) = s) (hk : k < i) (hn : n % 9 ^ (d + 1) = 0) (hg : g < 9) (hr : r < 9 ^ d) : dig9 s (n + 9 ^ d * g + r) k = dig9 s n k := by
  have p0 : (9 : Nat) ^ 0 = 1 := rfl
  have p1 : (9 : Nat) ^ 1 = 9 := rfl
  have p2 : (9 : Nat) ^ 2 = 81 := rfl
  have q1 : (9 : Nat) ^ (0 + 1) = 9 := rfl
  have q2 : (9 : Nat) ^ (1 + 1) = 81 := rfl
  unfold dig9
  obtain ⟨e, he⟩ : ∃ e, s - 1 - k = e := ⟨_, rfl⟩
  rw [he]
  rcases (show (d = 0 ∧ e = 1) ∨ (d = 0 ∧ e = 2) ∨ (d = 1 ∧ e = 2) by omega) with ⟨rfl, rfl⟩ | ⟨rfl, rfl⟩ | ⟨rfl, rfl⟩ <;> simp only [p0, p1, p2, q1, q2] at hn hr ⊢ <;> omega
theorem dig9_hi {s i d n g r : Nat} (hs : s ≤ 3) (h : i + (d + 1) = s) (hn : n % 9 ^ (d + 1) = 0) (hg : g < 9) (hr : r < 9 ^ d) : dig9 s (n + 9 ^ d * g + r) i = (g : Int) - 1 := by
  have p0 : (9 : Nat) ^ 0 = 1 := rfl
  have p1 : (9 : Nat) ^ 1 = 9 := rfl
  have p2 : (9 : Nat) ^ 2 = 81 := rfl
  have q1 : (9 : Nat) ^ (0 + 1) = 9 := rfl
  have q2 : (9 : Nat) ^ (1 + 1) = 81 := rfl
  have q3 : (9 : Nat) ^ (2 + 1) = 729 := rfl
  unfold dig9
  rw [show s - 1 - i = d by omega]
  rcases (show d = 0 ∨ d = 1 ∨ d = 2 by omega) with rfl | rfl | rfl <;> simp only [p0, p1, p2, q1, q2, q3] at hn hr ⊢ <;> omega
theorem besP_eq {P A : Dat} {s n n' : Nat} : ∀ i : Nat, (∀ k, k < i → dig9 s n' k = dig9 s n k) → besP P A s n' i = besP P A s n i
  | 0, _ => rfl
  | i + 1, h => by
    unfold besP
    rw [besP_eq i (fun k hk => h k (by omega)), h i (by omega)]
theorem besP_no {P A : Dat} {s n i : Nat} (h : besP P A s n i = none) : ∀ e : Nat, besP P A s n (i + e) = none
  | 0 => h
  | e + 1 => by
    show (besP P A s n (i + e)).bind _ = none
    rw [besP_no h e]; rfl
/-- one block of rows: the next digit -/
theorem blk {P A : Dat} {s i d n g r : Nat} {x : Y3} (hs : s ≤ 3) (h : i + (d + 1) = s) (hn : n % 9 ^ (d + 1) = 0) (hg : g < 9) (hr : r < 9 ^ d) (hp : besP P A s n i = some x) : besP P A s (n + 9 ^ d * g + r) (i + 1) = besX P A i ((g : Int) - 1) x := by
  show (besP P A s (n + 9 ^ d * g + r) i).bind (besX P A i (dig9 s (n + 9 ^ d * g + r) i)) = _
  rw [besP_eq i (fun k hk => dig9_lo hs h hk hn hg hr), hp, dig9_hi hs h hn hg hr]; rfl
theorem blk_no {P A : Dat} {s i d n g : Nat} {x : Y3} (hs : s ≤ 3) (h : i + (d + 1) = s) (hn : n % 9 ^ (d + 1) = 0) (hg : g < 9) (hp : besP P A s n i = some x) (hx : besX P A i ((g : Int) - 1) x = none) (B : BT) : fld (besS P A s) (9 ^ d) (n + 9 ^ d * g) B = B := by
  refine fld_id _ _ B (fun r hr B => ?_)
  have := besP_no ((blk hs h hn hg hr hp).trans hx) d
  rw [show i + 1 + d = s by omega] at this
  unfold besS
  rw [this]; rfl
theorem blk_tail {P A : Dat} {s i d n : Nat} {x : Y3} (hs : s ≤ 3) (h : i + (d + 1) = s) (hn : n % 9 ^ (d + 1) = 0) (hp : besP P A s n i = some x) : ∀ (e g : Nat) (B : BT), g + e = 9 → P 0 5 < g → 1 ≤ g → fld (besS P A s) (9 ^ d * e) (n + 9 ^ d * g) B = B
  | 0, g, B, _, _, _ => by rw [Nat.mul_zero]; rfl
  | e + 1, g, B, h1, h2, h3 => by
    rw [show 9 ^ d * (e + 1) = 9 ^ d + 9 ^ d * e by rw [Nat.mul_add, Nat.mul_one, Nat.add_comm], fld_add, blk_no hs h hn (by omega) hp (by unfold besX; rw [if_neg (by omega), if_neg (fun z => by omega)]), show n + 9 ^ d * g + 9 ^ d = n + 9 ^ d * (g + 1) by rw [Nat.mul_add, Nat.mul_one]; omega]
    exact blk_tail hs h hn hp e (g + 1) B (by omega) (by omega) (by omega)
/-! the class -/
def RBc (s : Nat) (B : BT) (σ : Mem) : Prop := gI σ 56 7 = B.1 ∧ gI σ 56 8 = B.2.1 ∧ ∀ k, k < s → gI σ 59 k = B.2.2 k
theorem bes36 {F s n : Nat} {rec : Int32 → Int32 → Int32 → Int32 → Mem → Option (Mem)} {i1 i2 c p : Int32} {σ : Mem} (hF : 100 ≤ F) (hs : s ≤ 3) (hr : ∀ k, k < s → gI σ 58 k = w32 (dig9 s n k)) : ∃ σ', m0_chooseBeside_36 F rec i1 i2 c p σ = some σ' ∧ RBc s (c, p, fun k => w32 (dig9 s n k)) σ' ∧ ∀ k, gI σ' 58 k = gI σ 58 k := by
  obtain ⟨σ', m, e, f⟩ := keepRow_ok (F := F) (σ := sI (sI σ 56 7 c) 56 8 p) hF
  refine ⟨σ', ?_, ⟨?_, ?_, fun k hk => ?_⟩, fun k => ?_⟩
  · unfold m0_chooseBeside_36
    show Option.bind (m0_keepRow F (sI (sI σ 56 7 c) 56 8 p)) _ = _
    rw [m]; rfl
  · rw [f.gI (by decide), gI_nej (by decide), gI_eq]
  · rw [f.gI (by decide), gI_eq]
  · rw [e k (by omega), gI_nec (by decide), gI_nec (by decide)]; exact hr k hk
  · rw [f.gI (by decide), gI_nec (by decide), gI_nec (by decide)]
theorem besB {P A : Dat} {F s m : Nat} (hF : 1000 ≤ F) (hs : s ≤ 3) (hs4 : P 0 4 = (s : Int)) (hm : P 0 5 = (m : Int)) (hm8 : m ≤ 8) (bP : Bd 1000000000 P) (bA : Bd 1000000000 A) : ∀ (d i D n : Nat) (x : Y3) (B : BT) (σ : Mem), i + d = s → d < D → n % 9 ^ d = 0 → besP P A s n i = some x → RepP 17 σ P → RepS 61 σ A → RBc s B σ → (∀ k, k < i → gI σ 58 k = w32 (dig9 s n k)) → ∃ σ', m0_chooseBeside F D (w32 (i : Int)) x.1 x.2.1 x.2.2 σ = some σ' ∧ RBc s (fld (besS P A s) (9 ^ d) n B) σ' ∧ ∀ k, k < i → gI σ' 58 k = gI σ 58 k := by
  intro d
  induction d with
  | zero =>
    intro i D n x B σ h1 h2 hn hp hP hS hB hr
    obtain ⟨D, rfl⟩ : ∃ k, D = k + 1 := ⟨D - 1, by omega⟩
    have e4 : gI σ 17 4 = w32 (s : Int) := by rw [← hs4]; exact hP.at 0 4
    have ei : i = s := by omega
    subst ei
    have hf : fld (besS P A i) (9 ^ 0) n B = if B.1 < x.2.1 ∨ (x.2.1 = B.1 ∧ B.2.1 < x.2.2) then (x.2.1, x.2.2, fun k => w32 (dig9 i n k)) else B := by
      show besS P A i n B = _
      unfold besS
      rw [hp]; rfl
    rw [hf]
    show ∃ σ', m0_chooseBeside_e F (m0_chooseBeside F D) (w32 (i : Int)) x.1 x.2.1 x.2.2 σ = some σ' ∧ _ ∧ _
    unfold m0_chooseBeside_e
    rw [e4, if_neg (by rw [w_lt (by omega) (by omega) (by omega) (by omega)]; omega), hB.1, hB.2.1]
    obtain ⟨σ', m1, b1, r1⟩ := bes36 (F := F) (rec := m0_chooseBeside F D) (i1 := w32 (i : Int)) (i2 := x.1) (c := x.2.1) (p := x.2.2) (by omega) hs hr
    by_cases c1 : B.1 < x.2.1
    · rw [if_pos c1, if_pos (Or.inl c1)]
      exact ⟨σ', m1, b1, fun k _ => r1 k⟩
    · rw [if_neg c1]
      by_cases c2 : x.2.1 = B.1
      · rw [if_pos c2]
        by_cases c3 : x.2.2 ≤ B.2.1
        · rw [if_pos c3, if_neg (fun z => z.elim c1 (fun z => Int32.not_lt.mpr c3 z.2))]
          exact ⟨σ, rfl, hB, fun _ _ => rfl⟩
        · rw [if_neg c3, if_pos (Or.inr ⟨c2, Int32.not_le.mp c3⟩)]
          exact ⟨σ', m1, b1, fun k _ => r1 k⟩
      · rw [if_neg c2, if_neg (fun z => z.elim c1 (fun z => c2 z.1))]
        exact ⟨σ, rfl, hB, fun _ _ => rfl⟩
  | succ d ih =>
    intro i D n x B σ h1 h2 hn hp hP hS hB hr
    obtain ⟨D, rfl⟩ : ∃ k, D = k + 1 := ⟨D - 1, by omega⟩
    have e4 : gI σ 17 4 = w32 (s : Int) := by rw [← hs4]; exact hP.at 0 4
    have pw : (9 : Nat) ^ (d + 1) = 9 ^ d * 9 := Nat.pow_succ _ _
    have pp : 0 < (9 : Nat) ^ d := Nat.pow_pos (by decide)
    have hmod : ∀ g, (n + 9 ^ d * g) % 9 ^ d = 0 := by
      intro g
      rw [Nat.add_mul_mod_self_left]
      have : n % (9 ^ d * 9) % 9 ^ d = n % 9 ^ d := Nat.mod_mul_right_mod _ _ _
      rw [pw] at hn
      rw [hn, Nat.zero_mod] at this
      exact this.symm
    have hdl : ∀ g k, g < 9 → k < i → dig9 s (n + 9 ^ d * g) k = dig9 s n k := fun g k hg hk => dig9_lo (r := 0) hs (by omega) hk hn hg pp
    have hdh : ∀ g, g < 9 → dig9 s (n + 9 ^ d * g) i = (g : Int) - 1 := fun g hg => dig9_hi (r := 0) hs (by omega) hn hg pp
    have hpg : ∀ g, g < 9 → besP P A s (n + 9 ^ d * g) (i + 1) = besX P A i ((g : Int) - 1) x := fun g hg => blk (r := 0) hs (by omega) hn hg pp hp
    have loop : ∀ (e n' j : Nat) (B : BT) (σ : Mem), j + e = m → e < n' → RepP 17 σ P → RepS 61 σ A → RBc s B σ → (∀ k, k < i → gI σ 58 k = w32 (dig9 s n k)) → ∃ σ', m0_chooseBeside_73 F (m0_chooseBeside F D) (w32 (i : Int)) x.1 x.2.1 x.2.2 n' (w32 (j : Int)) σ = some σ' ∧ RBc s (fld (besS P A s) (9 ^ d * e) (n + 9 ^ d * (j + 1)) B) σ' ∧ ∀ k, k < i → gI σ' 58 k = gI σ 58 k := by
      intro e
      induction e with
      | zero =>
        intro n' j B σ g1 g2 hP hS hB hr
        obtain ⟨n', rfl⟩ : ∃ k, n' = k + 1 := ⟨n' - 1, by omega⟩
        have e5 : gI σ 17 5 = w32 (m : Int) := by rw [← hm]; exact hP.at 0 5
        unfold m0_chooseBeside_73
        rw [e5, if_pos (by rw [w_le (by omega) (by omega) (by omega) (by omega)]; omega)]
        exact ⟨σ, rfl, hB, fun _ _ => rfl⟩
      | succ e ie =>
        intro n' j B σ g1 g2 hP hS hB hr
        obtain ⟨n', rfl⟩ : ∃ k, n' = k + 1 := ⟨n' - 1, by omega⟩
        have e5 : gI σ 17 5 = w32 (m : Int) := by rw [← hm]; exact hP.at 0 5
        have e21 : gI σ 21 j = w32 (P 4 j) := hP.at 4 j
        have esp : fld (besS P A s) (9 ^ d * (e + 1)) (n + 9 ^ d * (j + 1)) B = fld (besS P A s) (9 ^ d * e) (n + 9 ^ d * (j + 1 + 1)) (fld (besS P A s) (9 ^ d) (n + 9 ^ d * (j + 1)) B) := by
          rw [show 9 ^ d * (e + 1) = 9 ^ d + 9 ^ d * e by rw [Nat.mul_add, Nat.mul_one, Nat.add_comm], fld_add, show n + 9 ^ d * (j + 1) + 9 ^ d = n + 9 ^ d * (j + 1 + 1) by rw [Nat.mul_add _ (j + 1), Nat.mul_one]; omega]
        have ej : (((j + 1 : Nat) : Int) - 1) = (j : Int) := by omega
        unfold m0_chooseBeside_73
        rw [e5, if_neg (by rw [w_le (by omega) (by omega) (by omega) (by omega)]; omega), gd_pos (by decide), show (61 + 10 * (0 : Int32).toNatClampNeg) = 61 from rfl, isToDo_ok hP hS bP bA (by omega) (by omega), Option.bind_some, w_succ, esp]
        by_cases ho : opn P A (i : Int) j = true
        · rw [if_pos ho, if_neg (by decide), gd_pos (w_inB (by omega) (by omega) (by omega)), w_natk (by omega), e21]
          by_cases hb : w32 (P 4 j) &&& x.1 = 0
          · have hbx : besX P A i (((j + 1 : Nat) : Int) - 1) x = some (x.1 ||| w32 (P 4 j), x.2.1 + 1, x.2.2 + w32 (P 7 j)) := by
              unfold besX
              rw [ej, if_neg (by omega), Int.toNat_natCast, if_pos ⟨by omega, ho, hb⟩]
            have f1 : Fr (fun c => c = 58) σ (sI σ 58 i (w32 (j : Int))) := (Fr.rf (fun c => c = 58) σ).sI rfl
            have q21 : gI (sI σ 58 i (w32 (j : Int))) 21 j = w32 (P 4 j) := by rw [gI_nec (by decide)]; exact e21
            have q24 : gI (sI σ 58 i (w32 (j : Int))) 24 j = w32 (P 7 j) := by rw [gI_nec (by decide)]; exact hP.at 7 j
            obtain ⟨σ2, m2, b2, r2⟩ := ih (i + 1) D (n + 9 ^ d * (j + 1)) (x.1 ||| w32 (P 4 j), x.2.1 + 1, x.2.2 + w32 (P 7 j)) B (sI σ 58 i (w32 (j : Int))) (by omega) (by omega) (hmod _) ((hpg _ (by omega)).trans hbx) (hP.fr f1 (fun k hk => by omega)) (hS.fr f1 (fun k hk => by omega)) ⟨by rw [gI_nec (by decide)]; exact hB.1, by rw [gI_nec (by decide)]; exact hB.2.1, fun k hk => by rw [gI_nec (by decide)]; exact hB.2.2 k hk⟩ (fun k hk => by
              by_cases hki : k = i
              · rw [hki, gI_eq, hdh _ (by omega), ej]
              · rw [gI_nej (by omega), hdl _ _ (by omega) (by omega)]; exact hr k (by omega))
            have f2 := f1.mono (V := fun c => c = 56 ∨ (58 ≤ c ∧ c ≤ 59)) (fun c h => by omega) |>.trans ((f0_chooseBeside F D _ _ _ _ _ m2).mono (fun c h => h))
            rw [if_pos hb, gd_pos (w_inB (by omega) (by omega) (by omega)), w_natk (by omega)]
            show ∃ σ', gd (inB (w32 (j : Int)) 8 = true) (gd (inB (w32 (j : Int)) 8 = true) (Option.bind (m0_chooseBeside F D (w32 (i : Int) + (1 : Int32)) (x.1 ||| gI (sI σ 58 i (w32 (j : Int))) 21 j) (x.2.1 + 1) (x.2.2 + gI (sI σ 58 i (w32 (j : Int))) 24 j) (sI σ 58 i (w32 (j : Int)))) _)) = _ ∧ _
            rw [gd_pos (w_inB (by omega) (by omega) (by omega)), gd_pos (w_inB (by omega) (by omega) (by omega)), q21, q24, w_succ, m2, Option.bind_some]
            obtain ⟨σ3, m3, b3, r3⟩ := ie n' (j + 1) _ σ2 (by omega) (by omega) (hP.fr f2 (fun k hk => by omega)) (hS.fr f2 (fun k hk => by omega)) b2 (fun k hk => by rw [r2 k (by omega), gI_nej (by omega)]; exact hr k hk)
            exact ⟨σ3, m3, b3, fun k hk => by rw [r3 k hk, r2 k (by omega), gI_nej (by omega)]⟩
          · rw [if_neg hb, blk_no hs (by omega) hn (by omega) hp (by unfold besX; rw [ej, if_neg (by omega), Int.toNat_natCast, if_neg (fun z => hb z.2.2)])]
            exact ie n' (j + 1) B σ (by omega) (by omega) hP hS hB hr
        · rw [if_neg ho, if_pos rfl, blk_no hs (by omega) hn (by omega) hp (by unfold besX; rw [ej, if_neg (by omega), Int.toNat_natCast, if_neg (fun z => ho z.2.1)])]
          exact ie n' (j + 1) B σ (by omega) (by omega) hP hS hB hr
    have f1 : Fr (fun c => c = 58) σ (sI σ 58 i (-1 : Int32)) := (Fr.rf (fun c => c = 58) σ).sI rfl
    have hp0 := hpg 0 (by omega)
    have hd0 := hdh 0 (by omega)
    have hl0 := fun k => hdl 0 k (by omega)
    rw [Nat.mul_zero, Nat.add_zero] at hp0 hd0
    obtain ⟨σ1, m1, b1, r1⟩ := ih (i + 1) D n x B (sI σ 58 i (-1 : Int32)) (by omega) (by omega) (by have := hmod 0; rw [Nat.mul_zero, Nat.add_zero] at this; exact this) (hp0.trans (by unfold besX; rw [if_pos (by omega)])) (hP.fr f1 (fun k hk => by omega)) (hS.fr f1 (fun k hk => by omega)) ⟨by rw [gI_nec (by decide)]; exact hB.1, by rw [gI_nec (by decide)]; exact hB.2.1, fun k hk => by rw [gI_nec (by decide)]; exact hB.2.2 k hk⟩ (fun k hk => by
      by_cases hki : k = i
      · rw [hki, gI_eq, hd0]; rfl
      · rw [gI_nej (by omega)]; exact hr k (by omega))
    have f2 := f1.mono (V := fun c => c = 56 ∨ (58 ≤ c ∧ c ≤ 59)) (fun c h => by omega) |>.trans ((f0_chooseBeside F D _ _ _ _ _ m1).mono (fun c h => h))
    obtain ⟨σ2, m2, b2, r2⟩ := loop m F 0 _ σ1 (by omega) (by omega) (hP.fr f2 (fun k hk => by omega)) (hS.fr f2 (fun k hk => by omega)) b1 (fun k hk => by rw [r1 k (by omega), gI_nej (by omega)]; exact hr k hk)
    refine ⟨σ2, ?_, ?_, fun k hk => by rw [r2 k hk, r1 k (by omega), gI_nej (by omega)]⟩
    · show m0_chooseBeside_e F (m0_chooseBeside F D) (w32 (i : Int)) x.1 x.2.1 x.2.2 σ = some σ2
      unfold m0_chooseBeside_e
      rw [e4, if_pos (by rw [w_lt (by omega) (by omega) (by omega) (by omega)]; omega), gd_pos (w_inB (by omega) (by omega) (by omega)), w_natk (by omega)]
      show Option.bind (m0_chooseBeside F D (w32 (i : Int) + (1 : Int32)) x.1 x.2.1 x.2.2 (sI σ 58 i (-1 : Int32))) _ = _
      rw [w_succ, m1, Option.bind_some]
      exact m2
    · have tl := blk_tail (x := x) hs (show i + (d + 1) = s by omega) hn hp (8 - m) (m + 1) (fld (besS P A s) (9 ^ d * m) (n + 9 ^ d * (0 + 1)) (fld (besS P A s) (9 ^ d) n B)) (by omega) (by omega) (by omega)
      have e9 : fld (besS P A s) (9 ^ (d + 1)) n B = fld (besS P A s) (9 ^ d * m) (n + 9 ^ d * (0 + 1)) (fld (besS P A s) (9 ^ d) n B) := by
        rw [pw, show 9 ^ d * 9 = 9 ^ d + (9 ^ d * m + 9 ^ d * (8 - m)) by rw [← Nat.mul_add]; have : m + (8 - m) = 8 := by omega
                                                                          rw [this]; omega, fld_add, fld_add, show n + 9 ^ d + 9 ^ d * m = n + 9 ^ d * (m + 1) by rw [Nat.mul_add, Nat.mul_one]; omega, Nat.zero_add, Nat.mul_one]
        rw [Nat.zero_add, Nat.mul_one] at tl
        exact tl
      rw [e9]
      exact b2
