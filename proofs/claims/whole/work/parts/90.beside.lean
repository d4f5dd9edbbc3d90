/-! beside: the reference -/
def RBr (s : Nat) (B : BT) (σ : Mem) : Prop := gI σ 483 38 = B.1 ∧ gI σ 483 39 = B.2.1 ∧ ∀ k, k < s → gI σ 500 k = B.2.2 k
theorem ninth_r {F e : Nat} {σ : Mem} (he : e ≤ 3) (hF : 100 ≤ F) : m12_ninth F (w32 (e : Int)) σ = some (w32 ((9 ^ e : Nat) : Int)) := by
  have loop : ∀ (d n j x : Nat), j + d = e → d < n → m12_ninth_4 F (w32 (e : Int)) σ n (w32 (x : Int)) (w32 (j : Int)) = some (w32 ((x * 9 ^ d : Nat) : Int)) := by
    intro d
    induction d with
    | zero =>
      intro n j x h1 h2
      obtain ⟨n, rfl⟩ : ∃ k, n = k + 1 := ⟨n - 1, by omega⟩
      unfold m12_ninth_4
      rw [if_pos (by rw [w_le (by omega) (by omega) (by omega) (by omega)]; omega), Nat.pow_zero, Nat.mul_one]
    | succ d ih =>
      intro n j x h1 h2
      obtain ⟨n, rfl⟩ : ∃ k, n = k + 1 := ⟨n - 1, by omega⟩
      unfold m12_ninth_4
      rw [if_neg (by rw [w_le (by omega) (by omega) (by omega) (by omega)]; omega), w_succ, wl_9, w_mul, show (x : Int) * 9 = ((x * 9 : Nat) : Int) by omega, ih n (j + 1) (x * 9) (by omega) (by omega), show 9 ^ (d + 1) = 9 * 9 ^ d by rw [Nat.pow_succ _ _, Nat.mul_comm], Nat.mul_assoc]
  unfold m12_ninth
  have := loop e F 0 1 (by omega) (by omega)
  rw [Nat.one_mul] at this
  exact this
theorem pow9 {e : Nat} (h : e ≤ 3) : 1 ≤ 9 ^ e ∧ 9 ^ e ≤ 729 := by
  rcases (show e = 0 ∨ e = 1 ∨ e = 2 ∨ e = 3 by omega) with rfl | rfl | rfl | rfl <;> decide
theorem jobIn_r {F s n k : Nat} {σ : Mem} (hF : 100 ≤ F) (e3 : gI σ 493 3 = w32 (s : Int)) (hs : s ≤ 3) (hk : k < s) (hn : n ≤ 1000) : m12_jobIn F (w32 (n : Int)) (w32 (k : Int)) σ = some (w32 (dig9 s n k)) := by
  have e : (w32 (s : Int) - (1 : Int32)) - w32 (k : Int) = w32 ((s - 1 - k : Nat) : Int) := by rw [wl_1, w_sub, w_sub]; congr 1; omega
  obtain ⟨p1, p2⟩ := pow9 (e := s - 1 - k) (by omega)
  have hd := Nat.div_le_self n (9 ^ (s - 1 - k))
  have hr := w_remN (a := n / 9 ^ (s - 1 - k)) (b := 9) (by omega) (by omega)
  have hr : remI (w32 ((n / 9 ^ (s - 1 - k) : Nat) : Int)) (9 : Int32) = _ := hr
  unfold m12_jobIn
  rw [gd_pos (by decide), show (3 : Int32).toNatClampNeg = 3 from rfl, e3, e, ninth_r (by omega) hF, Option.bind_some, gd_pos (fun z => by rw [wl_0, w_eq (by omega) (by omega) (by omega) (by omega)] at z; omega), w_divN (by omega) (by omega), hr, wl_1, w_sub]; rfl
theorem dig9_rg {s n k : Nat} : -1 ≤ dig9 s n k ∧ dig9 s n k ≤ 7 := by
  unfold dig9
  have := Nat.mod_lt (n / 9 ^ (s - 1 - k)) (show 0 < 9 by decide)
  omega
theorem i32_cmp {a b : Int32} (h : a < b) : ¬ b < a ∧ ¬ a = b := ⟨Int32.lt_asymm h, Int32.ne_of_lt h⟩
theorem bes126 {F s n : Nat} {c p : Int32} {σ : Mem} (hF : 100 ≤ F) (e3 : gI σ 493 3 = w32 (s : Int)) (hs : s ≤ 3) (hn : n ≤ 1000) : ∃ σ', m12_countsBeside_126 F (w32 (n : Int)) c p σ = some σ' ∧ RBr s (c, p, fun k => w32 (dig9 s n k)) σ' := by
  have loop : ∀ (d n' j : Nat) (σ : Mem), j + d = s → d < n' → gI σ 493 3 = w32 (s : Int) → gI σ 483 38 = c → gI σ 483 39 = p → (∀ k, k < j → gI σ 500 k = w32 (dig9 s n k)) → ∃ σ', m12_countsBeside_140 F (w32 (n : Int)) n' (w32 (j : Int)) σ = some σ' ∧ RBr s (c, p, fun k => w32 (dig9 s n k)) σ' := by
    intro d
    induction d with
    | zero =>
      intro n' j σ h1 h2 e3 a b hr
      obtain ⟨n', rfl⟩ : ∃ k, n' = k + 1 := ⟨n' - 1, by omega⟩
      unfold m12_countsBeside_140
      rw [gd_pos (by decide), show (3 : Int32).toNatClampNeg = 3 from rfl, e3, if_pos (by rw [w_le (by omega) (by omega) (by omega) (by omega)]; omega)]
      exact ⟨σ, rfl, a, b, fun k hk => hr k (by omega)⟩
    | succ d ih =>
      intro n' j σ h1 h2 e3 a b hr
      obtain ⟨n', rfl⟩ : ∃ k, n' = k + 1 := ⟨n' - 1, by omega⟩
      unfold m12_countsBeside_140
      rw [gd_pos (by decide), show (3 : Int32).toNatClampNeg = 3 from rfl, e3, if_neg (by rw [w_le (by omega) (by omega) (by omega) (by omega)]; omega), jobIn_r hF e3 hs (by omega) hn, Option.bind_some, gd_pos (w_inB (by omega) (by omega) (by omega)), w_natk (by omega), w_succ]
      refine ih n' (j + 1) _ (by omega) (by omega) (by rw [gI_nec (by decide)]; exact e3) (by rw [gI_nec (by decide)]; exact a) (by rw [gI_nec (by decide)]; exact b) (fun k hk => ?_)
      by_cases hkj : k = j
      · rw [hkj, gI_eq]
      · rw [gI_nej (by omega)]; exact hr k (by omega)
  unfold m12_countsBeside_126
  exact loop s F 0 _ (by omega) (by omega) (by rw [gI_nec (by decide), gI_nec (by decide)]; exact e3) (by rw [gI_nej (by decide), gI_eq]) (by rw [gI_eq]) (fun k hk => absurd hk (Nat.not_lt_zero k))
theorem besR {P A : Dat} {F s n : Nat} {B : BT} {σ : Mem} (hF : 1000 ≤ F) (hA : RepA σ P A) (wA : WfA P A) (wP : WfP P) (wJ : WfJ P) (bA : Bd 1000000000 A) (hs : s ≤ 3) (hs4 : P 0 4 = (s : Int)) (hn : n ≤ 1000) (hB : RBr s B σ) : ∃ σ', m12_countsBeside F (w32 (n : Int)) σ = some σ' ∧ RBr s (besS P A s n B) σ' := by
  have e3 : gI σ 493 3 = w32 (s : Int) := by rw [hA.2.1 3 (by decide), ← hs4]
  obtain ⟨bP, ⟨m, hm, hm8⟩, -, -⟩ := id wP
  have loop : ∀ (d n' i : Nat) (x : Y3), i + d = s → d < n' → besP P A s n i = some x → ∃ σ', m12_countsBeside_10 F (w32 (n : Int)) n' x.1 x.2.1 x.2.2 (w32 (i : Int)) σ = some σ' ∧ RBr s (besS P A s n B) σ' := by
    intro d
    induction d with
    | zero =>
      intro n' i x h1 h2 hp
      obtain ⟨n', rfl⟩ : ∃ k, n' = k + 1 := ⟨n' - 1, by omega⟩
      have ei : i = s := by omega
      subst ei
      have hf : besS P A i n B = if B.1 < x.2.1 ∨ (x.2.1 = B.1 ∧ B.2.1 < x.2.2) then (x.2.1, x.2.2, fun k => w32 (dig9 i n k)) else B := by
        unfold besS
        rw [hp]; rfl
      obtain ⟨σ', m1, b1⟩ := bes126 (F := F) (c := x.2.1) (p := x.2.2) (by omega) e3 hs hn
      unfold m12_countsBeside_10
      rw [gd_pos (by decide), show (3 : Int32).toNatClampNeg = 3 from rfl, e3, if_pos (by rw [w_le (by omega) (by omega) (by omega) (by omega)]; omega), hf, hB.1, hB.2.1]
      by_cases c0 : x.2.1 < B.1
      · rw [if_pos c0, if_neg (fun z => z.elim (i32_cmp c0).1 (fun z => (i32_cmp c0).2 z.1))]
        exact ⟨σ, rfl, hB⟩
      · rw [if_neg c0]
        by_cases c2 : x.2.1 = B.1
        · rw [if_pos c2]
          by_cases c3 : B.2.1 < x.2.2
          · rw [if_pos c3, if_pos (Or.inr ⟨c2, c3⟩)]
            exact ⟨σ', m1, b1⟩
          · rw [if_neg c3, if_neg (fun z => z.elim (fun z => (i32_cmp z).2 c2.symm) (fun z => c3 z.2))]
            exact ⟨σ, rfl, hB⟩
        · rw [if_neg c2, if_pos (Or.inl (Int32.lt_of_le_of_ne (Int32.not_lt.mp c0) (fun z => c2 z.symm)))]
          exact ⟨σ', m1, b1⟩
    | succ d ih =>
      intro n' i x h1 h2 hp
      obtain ⟨n', rfl⟩ : ∃ k, n' = k + 1 := ⟨n' - 1, by omega⟩
      have rg := dig9_rg (s := s) (n := n) (k := i)
      have hp1 : besP P A s n (i + 1) = besX P A i (dig9 s n i) x := by
        show (besP P A s n i).bind _ = _
        rw [hp]; rfl
      have no : besX P A i (dig9 s n i) x = none → besS P A s n B = B := fun z => by
        have := besP_no (hp1.trans z) d
        rw [show i + 1 + d = s by omega] at this
        unfold besS
        rw [this]; rfl
      unfold m12_countsBeside_10
      rw [gd_pos (by decide), show (3 : Int32).toNatClampNeg = 3 from rfl, e3, if_neg (by rw [w_le (by omega) (by omega) (by omega) (by omega)]; omega), jobIn_r (by omega) e3 hs (by omega) hn, Option.bind_some, w_succ]
      by_cases h0 : dig9 s n i = -1
      · rw [if_neg (by rw [wl_0, w_le (by omega) (by omega) (by omega) (by omega)]; omega)]
        exact ih n' (i + 1) x (by omega) (by omega) (hp1.trans (by unfold besX; rw [if_pos h0]))
      · obtain ⟨g, hg⟩ : ∃ g : Nat, dig9 s n i = g := ⟨(dig9 s n i).toNat, by omega⟩
        rw [hg] at rg no hp1 ⊢
        have hij := isJob_r (F := F) (z := (g : Int)) hA wP (by omega) (by omega)
        rw [if_pos (by rw [wl_0, w_le (by omega) (by omega) (by omega) (by omega)]; omega)]
        unfold besX at no hp1
        rw [if_neg (by omega), Int.toNat_natCast] at no hp1
        by_cases hj : (g : Int) < P 0 5
        · rw [if_pos ⟨by omega, hj⟩] at hij
          rw [hij, Option.bind_some, if_neg (by decide), isOpen_r hA wA bP bA (by omega) (by omega) hj, Option.bind_some]
          by_cases ho : opn P A (i : Int) g = true
          · rw [if_pos ho, if_neg (by decide), needs_r hA wJ (by omega) hj, Option.bind_some, Option.bind_some, jo_4 (by omega), Option.bind_some, (hA.2.2.2.1 g hj).2.2.2.1]
            by_cases hb : w32 (P 4 g) &&& x.1 = 0
            · rw [if_pos hb]
              rw [if_pos ⟨hj, ho, hb⟩] at hp1
              exact ih n' (i + 1) (x.1 ||| w32 (P 4 g), x.2.1 + 1, x.2.2 + w32 (P 7 g)) (by omega) (by omega) hp1
            · rw [if_neg hb, no (if_neg (fun z => hb z.2.2))]
              exact ⟨σ, rfl, hB⟩
          · rw [if_neg ho, if_pos rfl, no (if_neg (fun z => ho z.2.1))]
            exact ⟨σ, rfl, hB⟩
        · rw [if_neg (fun z => hj z.2)] at hij
          rw [hij, Option.bind_some, if_pos rfl, no (if_neg (fun z => hj z.1))]
          exact ⟨σ, rfl, hB⟩
  exact loop s F 0 (0, 0, 0) (by omega) (by omega) rfl
theorem fld_one {P A : Dat} {s : Nat} {R : Nat → Int32} (hs : s ≤ 3) : fld (besS P A s) (9 ^ s) 0 (-1, -1, R) = fld (besS P A s) (9 ^ s) 0 (0, 0, fun _ => -1) := by
  obtain ⟨z, hz⟩ : ∃ z, 9 ^ s = 1 + z := ⟨9 ^ s - 1, by have := pow9 hs; omega⟩
  have d0 : ∀ k, dig9 s 0 k = -1 := fun k => by unfold dig9; rw [Nat.zero_div]; rfl
  have p0 : ∀ i, besP P A s 0 i = some (0, 0, 0) := by
    intro i
    induction i with
    | zero => rfl
    | succ i ih =>
      show (besP P A s 0 i).bind _ = _
      rw [ih, d0]; rfl
  rw [hz, fld_add, fld_add]
  congr 1
  show besS P A s 0 _ = besS P A s 0 _
  unfold besS
  rw [p0]
  unfold besU
  show (if (-1 : Int32) < 0 ∨ _ then _ else _) = (if (0 : Int32) < 0 ∨ ((0 : Int32) = 0 ∧ (0 : Int32) < 0) then _ else _)
  rw [if_pos (Or.inl (by decide)), if_neg (by decide)]
  show ((0 : Int32), (0 : Int32), fun k => w32 (dig9 s 0 k)) = _
  rw [show (fun k => w32 (dig9 s 0 k)) = fun _ : Nat => (-1 : Int32) from funext fun k => by rw [d0]; rfl]
theorem beside_q {F t : Nat} {S : Ab} {σ : Mem} (hC : CInv S σ) (hR : RInv S σ) (wf : Wf t S) (ht : t ≤ 600) (hF : 10000 ≤ F) (x : Int32) : Ans S (m11_beside F x σ) (m12_beside F x) := by
  obtain ⟨c, rfl, c1, c2⟩ := arg x
  have wPl := wf.1.1
  have wI := wf.1.2.1.1
  obtain ⟨bP, ⟨m, hm, hm8⟩, ⟨s, hs4, hs⟩, -⟩ := id wPl.1
  have bA := (wI.bd (show t ≤ 9000 by omega)).mono (show _ ≤ (1000000000 : Int) by decide)
  have h17 : RepP 17 σ (wP (sW S)) := hC.1.1
  have e17 : gI σ 17 0 = w32 (wP (sW S) 0 0) := h17.at 0 0
  have e4 : gI σ 17 4 = w32 (s : Int) := by rw [← hs4]; exact h17.at 0 4
  have inW : ∀ τ, m12_in F (w32 c).toInt64 (0 : Int64) (4 : Int64) τ = some (if 0 ≤ c ∧ c ≤ 4 then (1 : Int32) else 0) := fun τ => in_r rfl rfl c1 c2 (by decide) (by decide)
  have hE := hR.E wf
  obtain ⟨q1, q2⟩ := pow9 hs
  let Bf := fld (besS (wP (sW S)) (wA (sW S)) s) (9 ^ s) 0 (0, 0, fun _ => -1)
  have ref : ∀ σ1, CInv S σ1 → RInv S σ1 → wP (sW S) 0 0 = 1 → 0 ≤ c ∧ c ≤ 4 → ∃ σ2, m12_beside F (w32 c) σ1 = some (if c = 0 then Bf.1 else if c = 1 then Bf.2.1 else if c - 2 < s then Bf.2.2 (c - 2).toNat else -2, σ2) ∧ CInv S σ2 ∧ RInv S σ2 := by
    intro σ1 hC1 hR1 v0 v1
    have hE1 := hR1.E wf
    have loop : ∀ (e n' n : Nat) (B : BT) (σ : Mem), n + e = 9 ^ s → e < n' → RepA σ (wP (sW S)) (wA (sW S)) → RBr s B σ → ∃ σ', m12_beside_54 F (w32 c) n' (w32 (n : Int)) σ = some (if c = 0 then (fld (besS (wP (sW S)) (wA (sW S)) s) e n B).1 else if c = 1 then (fld (besS (wP (sW S)) (wA (sW S)) s) e n B).2.1 else if c - 2 < s then (fld (besS (wP (sW S)) (wA (sW S)) s) e n B).2.2 (c - 2).toNat else -2, σ') := by
      intro e
      induction e with
      | zero =>
        intro n' n B σ h1 h2 hA hB
        obtain ⟨n', rfl⟩ : ∃ k, n' = k + 1 := ⟨n' - 1, by omega⟩
        have e3 : gI σ 493 3 = w32 (s : Int) := by rw [hA.2.1 3 (by decide), ← hs4]
        unfold m12_beside_54
        rw [gd_pos (by decide), show (3 : Int32).toNatClampNeg = 3 from rfl, e3, ninth_r hs (by omega), Option.bind_some, if_pos (by rw [w_le (by omega) (by omega) (by omega) (by omega)]; omega)]
        show ∃ σ', _ = some (if c = 0 then B.1 else if c = 1 then B.2.1 else if c - 2 < s then B.2.2 (c - 2).toNat else -2, σ')
        refine ⟨σ, ?_⟩
        have e2 : w32 c - (2 : Int32) = w32 (c - 2) := by rw [wl_2, w_sub]
        by_cases k2 : 2 ≤ c
        · rw [if_pos (by rw [wl_2, w_le (by omega) (by omega) (by omega) (by omega)]; omega), gd_pos (by decide), e2, if_neg (show ¬ c = 0 by omega), if_neg (show ¬ c = 1 by omega)]
          by_cases k3 : c - 2 < s
          · rw [if_neg (by rw [w_le (by omega) (by omega) (by omega) (by omega)]; omega), if_pos k3, gd_pos (w_inB (by omega) (by omega) (by omega)), w_nat (by omega) (by omega), hB.2.2 _ (by omega)]
          · rw [if_pos (by rw [w_le (by omega) (by omega) (by omega) (by omega)]; omega), if_neg k3]
        · rw [if_neg (by rw [wl_2, w_le (by omega) (by omega) (by omega) (by omega)]; omega)]
          by_cases k0 : c = 0
          · rw [if_pos (by rw [k0]; rfl), if_pos k0, hB.1]
          · rw [if_neg (by rw [wl_0, w_eq (by omega) (by omega) (by omega) (by omega)]; exact k0), if_neg k0, if_pos (show c = 1 by omega), hB.2.1]
      | succ e ih =>
        intro n' n B σ h1 h2 hA hB
        obtain ⟨n', rfl⟩ : ∃ k, n' = k + 1 := ⟨n' - 1, by omega⟩
        have e3 : gI σ 493 3 = w32 (s : Int) := by rw [hA.2.1 3 (by decide), ← hs4]
        obtain ⟨σ', m1, b1⟩ := besR (F := F) (n := n) (by omega) hA wI.1 wPl.1 wPl.2.1 bA hs hs4 (by omega) hB
        have f := f12_countsBeside m1
        have sl := f12_countsBeside_s m1
        unfold m12_beside_54
        rw [gd_pos (by decide), show (3 : Int32).toNatClampNeg = 3 from rfl, e3, ninth_r hs (by omega), Option.bind_some, if_neg (by rw [w_le (by omega) (by omega) (by omega) (by omega)]; omega), m1, Option.bind_some, w_succ]
        exact ih n' (n + 1) _ σ' (by omega) (by omega) (hA.same (f.gI (by unfold Wm12_countsBeside; omega)) (sl 27 (by unfold Vm12_countsBeside; omega))) b1
    have hA1 := hE1.1
    have ha : RepA (sI (sI (sI (sI (sI σ1 483 38 0) 483 39 0) 500 0 (-1)) 500 1 (-1)) 500 2 (-1)) (wP (sW S)) (wA (sW S)) := hA1.same (by funext k; rw [gI_nec (by decide), gI_nec (by decide), gI_nec (by decide), gI_nec (by decide), gI_nec (by decide)]) (by rw [gI_nec (by decide), gI_nec (by decide), gI_nec (by decide), gI_nej (by decide), gI_nej (by decide)])
    obtain ⟨σ2, m2⟩ := loop (9 ^ s) F 0 (0, 0, fun _ => -1) (sI (sI (sI (sI (sI σ1 483 38 0) 483 39 0) 500 0 (-1)) 500 1 (-1)) 500 2 (-1)) (by omega) (by omega) ha ⟨by rw [gI_nec (by decide), gI_nec (by decide), gI_nec (by decide), gI_nej (by decide), gI_eq], by rw [gI_nec (by decide), gI_nec (by decide), gI_nec (by decide), gI_eq], fun k hk => by
      rcases (show k = 0 ∨ k = 1 ∨ k = 2 by omega) with rfl | rfl | rfl
      · rw [gI_nej (by decide), gI_nej (by decide), gI_eq]
      · rw [gI_nej (by decide), gI_eq]
      · rw [gI_eq]⟩
    have mm : m12_beside F (w32 c) σ1 = some (if c = 0 then Bf.1 else if c = 1 then Bf.2.1 else if c - 2 < s then Bf.2.2 (c - 2).toNat else -2, σ2) := by
      unfold m12_beside
      rw [isSmithy_r hE1.1 wPl, Option.bind_some, if_pos v0, if_neg (by decide), inW, Option.bind_some, if_pos v1, if_neg (by decide)]
      obtain ⟨F4, rfl⟩ : ∃ k, F = k + 4 := ⟨F - 4, by omega⟩
      show m12_beside_34 (F4 + 4) (w32 c) (F4 + 4) (0 : Int32) _ = _
      rw [m12_beside_34, if_neg (by decide), gd_pos (by decide)]
      show m12_beside_34 (F4 + 4) (w32 c) (F4 + 3) (1 : Int32) _ = _
      rw [m12_beside_34, if_neg (by decide), gd_pos (by decide)]
      show m12_beside_34 (F4 + 4) (w32 c) (F4 + 2) (2 : Int32) _ = _
      rw [m12_beside_34, if_neg (by decide), gd_pos (by decide)]
      show m12_beside_34 (F4 + 4) (w32 c) (F4 + 1) (3 : Int32) _ = _
      rw [m12_beside_34, if_pos (by decide)]
      exact m2
    refine ⟨σ2, mm, ref_q hC1 wf (f12_beside mm) (fun c z => by unfold Wm12_beside at z; omega), hR1.q wf ((f12_beside mm).gI (by unfold Wm12_beside; omega)) ((f12_beside mm).mono (fun c z => by unfold Wm12_beside at z; unfold Wq; omega)) (fun j hj => f12_beside_s mm j (by unfold Vm12_beside; omega))⟩
  by_cases v0 : wP (sW S) 0 0 = 1
  · by_cases v1 : 0 ≤ c ∧ c ≤ 4
    · have e2 : w32 c - (2 : Int32) = w32 (c - 2) := by rw [wl_2, w_sub]
      by_cases k3 : c - 2 < s
      · obtain ⟨σa, ma, sa⟩ := cpS_ok (F := F) (c0 := 61) (c1 := 26) (by decide) (by omega) hC.1.2.1
        have fa := f7_copyFrom ma
        obtain ⟨F6, rfl⟩ : ∃ k, F = k + 6 := ⟨F - 6, by omega⟩
        generalize hσb : sI (sI (sI (sI (sI (sI (sI σa 56 7 (-1)) 56 8 (-1)) 58 0 (-1)) 58 1 (-1)) 58 2 (-1)) 58 3 (-1)) 58 4 (-1) = σb
        have fb : Fr (fun c => c = 56 ∨ c = 58) σa σb := by
          rw [← hσb]
          exact ((((((((Fr.rf (fun c => c = 56 ∨ c = 58) σa).sI (Or.inl rfl)).sI (Or.inl rfl)).sI (Or.inr rfl)).sI (Or.inr rfl)).sI (Or.inr rfl)).sI (Or.inr rfl)).sI (Or.inr rfl))
        have hP : RepP 17 σb (wP (sW S)) := (h17.fr fa (fun i hi => by unfold Wm7_copyFrom; omega)).fr fb (fun i hi => by omega)
        have hS : RepS 61 σb (wA (sW S)) := sa.fr fb (fun i hi => by omega)
        have hB : RBc s (-1, -1, gI σb 59) σb := ⟨by rw [← hσb, gI_nec (by decide), gI_nec (by decide), gI_nec (by decide), gI_nec (by decide), gI_nec (by decide), gI_nej (by decide), gI_eq], by rw [← hσb, gI_nec (by decide), gI_nec (by decide), gI_nec (by decide), gI_nec (by decide), gI_nec (by decide), gI_eq], fun _ _ => rfl⟩
        obtain ⟨σc, mc, bc, -⟩ := besB (F := F6 + 6) (by omega) hs hs4 hm hm8 (bP.mono (by decide)) bA s 0 5 0 (0, 0, 0) _ σb (by omega) (by omega) (Nat.zero_mod _) rfl hP hS hB (fun k hk => absurd hk (Nat.not_lt_zero k))
        have mc : m0_chooseBeside (F6 + 6) 5 (0 : Int32) (0 : Int32) (0 : Int32) (0 : Int32) σb = some σc := mc
        rw [fld_one hs] at bc
        have mb : m11_beside (F6 + 6) (w32 c) σ = some (if c = 0 then Bf.1 else if c = 1 then Bf.2.1 else if c - 2 < s then Bf.2.2 (c - 2).toNat else -2, σc) := by
          unfold m11_beside
          rw [e17, v0, if_neg (by decide), if_neg (by rw [wl_0, w_lt (by omega) (by omega) (by omega) (by omega)]; omega), if_pos (by rw [wl_4, w_le (by omega) (by omega) (by omega) (by omega)]; omega), e2, e4, if_pos (by rw [w_lt (by omega) (by omega) (by omega) (by omega)]; omega)]
          unfold m0_bestBeside
          rw [gd_pos (by decide)]
          show Option.bind (Option.bind (m7_copyFrom (F6 + 6) 61 26 σ) _) _ = _
          rw [ma, Option.bind_some]
          show Option.bind (m0_bestBeside_22 (F6 + 6) 26 (w32 c) (F6 + 6) (0 : Int32) _) _ = _
          rw [m0_bestBeside_22, if_neg (by decide), gd_pos (by decide)]
          show Option.bind (m0_bestBeside_22 (F6 + 6) 26 (w32 c) (F6 + 5) (1 : Int32) _) _ = _
          rw [m0_bestBeside_22, if_neg (by decide), gd_pos (by decide)]
          show Option.bind (m0_bestBeside_22 (F6 + 6) 26 (w32 c) (F6 + 4) (2 : Int32) _) _ = _
          rw [m0_bestBeside_22, if_neg (by decide), gd_pos (by decide)]
          show Option.bind (m0_bestBeside_22 (F6 + 6) 26 (w32 c) (F6 + 3) (3 : Int32) _) _ = _
          rw [m0_bestBeside_22, if_neg (by decide), gd_pos (by decide)]
          show Option.bind (m0_bestBeside_22 (F6 + 6) 26 (w32 c) (F6 + 2) (4 : Int32) _) _ = _
          rw [m0_bestBeside_22, if_neg (by decide), gd_pos (by decide)]
          show Option.bind (m0_bestBeside_22 (F6 + 6) 26 (w32 c) (F6 + 1) (5 : Int32) (sI (sI (sI (sI (sI (sI (sI σa 56 7 (-1)) 56 8 (-1)) 58 0 (-1)) 58 1 (-1)) 58 2 (-1)) 58 3 (-1)) 58 4 (-1))) _ = _
          rw [hσb, m0_bestBeside_22, if_pos (by decide), mc, Option.bind_some, bc.1, bc.2.1, e2]
          by_cases k0 : c = 0
          · rw [if_pos (by rw [k0]; rfl), if_pos k0]; rfl
          · rw [if_neg (by rw [wl_0, w_eq (by omega) (by omega) (by omega) (by omega)]; exact k0), if_neg k0]
            by_cases k1 : c = 1
            · rw [if_pos (by rw [wl_2, w_lt (by omega) (by omega) (by omega) (by omega)]; omega), if_pos k1]; rfl
            · rw [if_neg (by rw [wl_2, w_lt (by omega) (by omega) (by omega) (by omega)]; omega), if_neg k1, if_pos k3, if_neg (by rw [wl_3, w_le (by omega) (by omega) (by omega) (by omega)]; omega), gd_pos (w_inB (by omega) (by omega) (by omega)), w_nat (by omega) (by omega), bc.2.2 _ (by omega)]; rfl
        obtain ⟨hCc, hRc⟩ := cls_q hC hR wf (f11_beside mb) (fun c z => by unfold Wm11_beside at z; omega)
        obtain ⟨σ2, m2, hC2, hR2⟩ := ref σc hCc hRc v0 v1
        exact ⟨_, σc, σ2, mb, m2, hC2, hR2⟩
      · obtain ⟨σ2, m2, hC2, hR2⟩ := ref σ hC hR v0 v1
        rw [if_neg (by omega), if_neg (by omega), if_neg k3] at m2
        refine ⟨-2, σ, σ2, ?_, m2, hC2, hR2⟩
        unfold m11_beside
        rw [e17, v0, if_neg (by decide), if_neg (by rw [wl_0, w_lt (by omega) (by omega) (by omega) (by omega)]; omega), if_pos (by rw [wl_4, w_le (by omega) (by omega) (by omega) (by omega)]; omega), e2, e4, if_neg (by rw [w_lt (by omega) (by omega) (by omega) (by omega)]; omega)]
    · refine ⟨-3, σ, σ, ?_, ?_, hC, hR⟩
      · unfold m11_beside
        rw [e17, v0, if_neg (by decide)]
        by_cases hc : c < 0
        · rw [if_pos (by rw [wl_0, w_lt (by omega) (by omega) (by omega) (by omega)]; exact hc)]
        · rw [if_neg (by rw [wl_0, w_lt (by omega) (by omega) (by omega) (by omega)]; exact hc), if_neg (by rw [wl_4, w_le (by omega) (by omega) (by omega) (by omega)]; omega)]
      · unfold m12_beside
        rw [isSmithy_r hE.1 wPl, Option.bind_some, if_pos v0, if_neg (by decide), inW, Option.bind_some, if_neg v1, if_pos rfl]
  · refine ⟨-3, σ, σ, ?_, ?_, hC, hR⟩
    · have := wPl.2.2.2.1
      unfold m11_beside
      rw [e17, show wP (sW S) 0 0 = 0 by omega, if_pos (by decide)]
    · unfold m12_beside
      rw [isSmithy_r hE.1 wPl, Option.bind_some, if_neg v0, if_pos rfl]
