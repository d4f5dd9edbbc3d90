/-! TEXTS, 8: the reference's stack of what is open -/
def stg (x : Int) : Int := if x = 13 then 1 else if x = 12 then 2 else if x = 11 then 3 else 0
def dct (x : Int) : Int := if x = 11 then -30 else if x = 12 then -31 else -32
def stl (t : Int) : List Int → St → List Int × St
  | [], s => ([], s)
  | x :: K, s => if t ≤ stg x then stl t K (pt s (dct x)) else (x :: K, s)
def dp : List Int → Nat
  | [] => 0
  | x :: K => if x = 91 ∨ x = 11 then dp K + 1 else dp K
def StK (f : Nat → Int32) : List Int → Prop
  | [] => True
  | x :: K => f K.length = w32 x ∧ (x = 11 ∨ x = 12 ∨ x = 13 ∨ x = 91) ∧ StK f K
theorem StK.same {f g : Nat → Int32} : ∀ {K : List Int}, StK f K → (∀ i, i < K.length → g i = f i) → StK g K
  | [], _, _ => trivial
  | x :: K, h, e => ⟨(e _ (Nat.lt_succ_self _)).trans h.1, h.2.1, h.2.2.same (fun i hi => e i (Nat.lt_succ_of_lt hi))⟩
def SK (K : List Int) (σ : Mem) : Prop := gI σ 483 16 = w32 (K.length : Int) ∧ gI σ 483 13 = w32 (dp K : Int) ∧ StK (gI σ 490) K
theorem dp_le : ∀ (K : List Int), dp K ≤ K.length
  | [] => Nat.le_refl _
  | x :: K => by
    have := dp_le K
    unfold dp
    rw [List.length_cons]
    split <;> omega
def GR (B : Nat → Int) (L k : Nat) (σ0 : Mem) (K : List Int) (s : St) (σ : Mem) : Prop := SR B L k s σ ∧ SK K σ ∧ KL k σ0 σ
def Iq (L : Nat) (K : List Int) (s : St) : Prop := sl s + K.length ≤ sp s ∧ sp s ≤ L ∧ sn s ≤ 60
theorem SR.ne {B : Nat → Int} {L k : Nat} {s : St} {σ : Mem} (h : SR B L k s σ) {c j : Nat} {v : Int32} (hc : (c = 483 ∧ (j = 13 ∨ j = 16)) ∨ c = 490) : SR B L k s (sI σ c j v) := by
  obtain ⟨h1, h2, h3, h4, h5⟩ := h
  exact ⟨h1.ne (by omega), by rw [gI_sI, if_neg (by omega)]; exact h2, by rw [gI_sI, if_neg (by omega)]; exact h3, by rw [gI_sI, if_neg (by omega)]; exact h4, fun i hi => by rw [gI_sI, if_neg (by omega)]; exact h5 i hi⟩
theorem SK.q {K : List Int} {σ σ1 : Mem} (h : SK K σ) (g : Qs σ σ1) : SK K σ1 :=
  ⟨by rw [g.j (by unfold V8; omega)]; exact h.1, by rw [g.j (by unfold V8; omega)]; exact h.2.1, by rw [g.c (by decide)]; exact h.2.2⟩
theorem GR.q {B : Nat → Int} {L k : Nat} {σ0 σ σ1 : Mem} {K : List Int} {s : St} (h : GR B L k σ0 K s σ) (g : Qs σ σ1) {p : Nat} (t : RT B L p 0 σ1) : GR B L k σ0 K (to s p) σ1 := ⟨h.1.q g t, h.2.1.q g, h.2.2.trans g.k⟩
theorem stl_sp {t : Int} : ∀ (K : List Int) (s : St), sp (stl t K s).2 = sp s ∧ sn (stl t K s).2 = sn s
  | [], _ => ⟨rfl, rfl⟩
  | x :: K, s => by
    unfold stl
    split
    · exact stl_sp K (pt s (dct x))
    · exact ⟨rfl, rfl⟩
theorem stl_iq {L : Nat} {t : Int} : ∀ (K : List Int) (s : St), Iq L K s → Iq L (stl t K s).1 (stl t K s).2
  | [], _, h => h
  | x :: K, s, h => by
    unfold stl
    split
    · refine stl_iq K (pt s (dct x)) ⟨?_, h.2.1, h.2.2⟩
      have := h.1
      rw [List.length_cons] at this
      show sl s + 1 + K.length ≤ sp s
      omega
    · exact h
theorem strength_r {F : Nat} {x : Int} {σ : Mem} (h : x = 11 ∨ x = 12 ∨ x = 13 ∨ x = 91) : m12_strength F (w32 x) σ = some (w32 (stg x)) := by
  rcases h with rfl | rfl | rfl | rfl <;> rfl
theorem settles_r {F : Nat} {B : Nat → Int} {L k : Nat} {σ0 : Mem} {t : Int} (hT : Txt B L) (hF : 1000 ≤ F) (hk : k < 6) (ht : 1 ≤ t ∧ t ≤ 3) {K : List Int} {s : St} {σ : Mem} (h : GR B L k σ0 K s σ) (hi : Iq L K s) : ∃ σ', m12_settles F (w32 t) σ = some σ' ∧ GR B L k σ0 (stl t K s).1 (stl t K s).2 σ' := by
  have hL := hT.1
  have loop : ∀ (K : List Int) (n : Nat) (s : St) (σ : Mem), K.length < n → GR B L k σ0 K s σ → Iq L K s → ∃ σ', m12_settles_0 F (w32 t) n σ = some σ' ∧ GR B L k σ0 (stl t K s).1 (stl t K s).2 σ' := by
    intro K
    induction K with
    | nil =>
      intro n s σ hn h hi
      obtain ⟨n, rfl⟩ : ∃ k, n = k + 1 := ⟨n - 1, by omega⟩
      unfold m12_settles_0
      rw [h.2.1.1, if_pos (by decide)]
      exact ⟨σ, rfl, h⟩
    | cons x K ih =>
      intro n s σ hn h hi
      obtain ⟨n, rfl⟩ : ∃ k, n = k + 1 := ⟨n - 1, by omega⟩
      obtain ⟨hS, ⟨k1, k2, k3, k4, k5⟩, hK⟩ := h
      obtain ⟨i1, i2, i3⟩ := hi
      rw [List.length_cons] at k1 i1 hn
      have e1 : w32 ((K.length + 1 : Nat) : Int) - (1 : Int32) = w32 (K.length : Int) := w_pred K.length
      have dl := dp_le K
      unfold m12_settles_0 stl
      rw [k1, if_neg (by rw [wl_0, w_le (by omega) (by omega) (by omega) (by omega)]; omega), e1, gd_pos (w_inB (by omega) (by omega) (by omega)), w_natk (by omega), k3, strength_r k4, Option.bind_some]
      have hsg : 0 ≤ stg x ∧ stg x ≤ 3 := by rcases k4 with rfl | rfl | rfl | rfl <;> decide
      by_cases z : t ≤ stg x
      · rw [if_neg (by rw [w_lt (by omega) (by omega) (by omega) (by omega)]; omega), if_pos z]
        have hx : (x = 11 ∨ x = 12 ∨ x = 13) := by
          rcases k4 with h | h | h | h
          · exact Or.inl h
          · exact Or.inr (Or.inl h)
          · exact Or.inr (Or.inr h)
          · rw [h] at z; have e : stg 91 = 0 := rfl; omega
        have hen : (x + 16 * 0 : Int) = (enc (dct x) : Int) := by rcases hx with rfl | rfl | rfl <;> decide
        have S2 := hS.ne (c := 483) (j := 16) (v := w32 (K.length : Int)) (by omega)
        obtain ⟨σ3, m3, s3, kl3⟩ := puts_r (F := F) (a := x) (b := 0) (t := dct x) S2 hk (by omega) (by omega) (by decide) hen
        have f3 := f12_puts m3
        have m3 : m12_puts F (w32 x) (0 : Int32) _ = _ := m3
        dsimp only
        rw [gI_eq, gd_pos (w_inB (by omega) (by omega) (by omega)), w_natk (by omega), gI_nec (c := 483) (c' := 490) (by decide), k3, m3, Option.bind_some]
        have c16 : gI σ3 483 16 = w32 (K.length : Int) := by rw [f3.gI (by unfold Wm12_puts; omega), gI_eq]
        have c13 : gI σ3 483 13 = w32 (dp (x :: K) : Int) := by rw [f3.gI (by unfold Wm12_puts; omega), gI_nej (by decide)]; exact k2
        have c490 : ∀ i, gI σ3 490 i = gI σ 490 i := fun i => by rw [f3.gI (by unfold Wm12_puts; omega), gI_nec (by decide)]
        have K3 : KL k σ0 σ3 := (hK.trans (KL.of (gI_ne _ _ _ (by decide)))).trans kl3
        have hI : Iq L K (pt s (dct x)) := ⟨show sl s + 1 + K.length ≤ sp s by omega, i2, i3⟩
        rw [c16, gd_pos (w_inB (by omega) (by omega) (by omega)), w_natk (by omega), c490, k3]
        by_cases z11 : x = 11
        · rw [if_pos (by rw [z11]; rfl), c13]
          have ed : dp (x :: K) = dp K + 1 := by
            rw [dp, if_pos (Or.inr z11)]
          rw [ed]
          have e2 : w32 ((dp K + 1 : Nat) : Int) - (1 : Int32) = w32 (dp K : Int) := w_pred (dp K)
          rw [e2]
          refine ih n _ _ (by omega) ⟨s3.ne (by omega), ⟨?_, gI_eq .., ?_⟩, K3.trans (KL.of (gI_ne _ _ _ (by decide)))⟩ hI
          · rw [gI_nej (by decide)]; exact c16
          · rw [gI_ne _ _ _ (by decide)]
            exact k5.same (fun i _ => c490 i)
        · have ed : dp (x :: K) = dp K := by
            rw [dp, if_neg (by omega)]
          rw [ed] at c13
          rw [if_neg (by rw [show (11 : Int32) = w32 11 from rfl, w_eq (by omega) (by omega) (by omega) (by omega)]; exact z11)]
          exact ih n _ _ (by omega) ⟨s3, ⟨c16, c13, k5.same (fun i _ => c490 i)⟩, K3⟩ hI
      · rw [if_pos (by rw [w_lt (by omega) (by omega) (by omega) (by omega)]; omega), if_neg z]
        exact ⟨σ, rfl, hS, ⟨k1, k2, k3, k4, k5⟩, hK⟩
  have := hi.1
  have := hi.2.1
  exact loop K F s σ (by omega) h hi
def hasB : List Int → Bool
  | [] => false
  | x :: K => hasB K || decide (x = 91)
def insL (f : Nat → Int32) : Nat → Nat → Bool
  | 0, _ => false
  | d + 1, i => decide (f i = 91) || insL f d (i + 1)
theorem insL_succ {f : Nat → Int32} : ∀ (d i : Nat), insL f (d + 1) i = (insL f d i || decide (f (i + d) = 91))
  | 0, i => by
    show (decide (f i = 91) || false) = (false || decide (f (i + 0) = 91))
    rw [Bool.or_false, Bool.false_or, Nat.add_zero]
  | d + 1, i => by
    rw [insL, insL_succ d (i + 1), insL, Bool.or_assoc, show i + 1 + d = i + (d + 1) by omega]
theorem insL_has {f : Nat → Int32} : ∀ (K : List Int), StK f K → insL f K.length 0 = hasB K
  | [], _ => rfl
  | x :: K, h => by
    rw [List.length_cons, insL_succ, insL_has K h.2.2, Nat.zero_add, h.1]
    rw [hasB]
    congr 1
    rcases h.2.1 with rfl | rfl | rfl | rfl <;> decide
theorem isInside_r {F : Nat} {K : List Int} {σ : Mem} (h : SK K σ) (hl : K.length ≤ 400) (hF : 1000 ≤ F) : m12_isInside F σ = some (if hasB K = true then 1 else 0) := by
  obtain ⟨h1, -, h3⟩ := h
  have loop : ∀ (d n i : Nat), i + d = K.length → d < n → m12_isInside_2 F σ n (w32 (i : Int)) = some (if insL (gI σ 490) d i = true then 1 else 0) := by
    intro d
    induction d with
    | zero =>
      intro n i e1 e2
      obtain ⟨n, rfl⟩ : ∃ k, n = k + 1 := ⟨n - 1, by omega⟩
      unfold m12_isInside_2
      rw [h1, if_pos (by rw [w_le (by omega) (by omega) (by omega) (by omega)]; omega)]; rfl
    | succ d ih =>
      intro n i e1 e2
      obtain ⟨n, rfl⟩ : ∃ k, n = k + 1 := ⟨n - 1, by omega⟩
      unfold m12_isInside_2
      rw [h1, if_neg (by rw [w_le (by omega) (by omega) (by omega) (by omega)]; omega), gd_pos (w_inB (by omega) (by omega) (by omega)), w_natk (by omega), w_succ]
      by_cases z : gI σ 490 i = 91
      · rw [if_pos z, show insL (gI σ 490) (d + 1) i = true by rw [insL, decide_eq_true z]; rfl]; rfl
      · rw [if_neg z, show insL (gI σ 490) (d + 1) i = insL (gI σ 490) d (i + 1) by rw [insL, decide_eq_false z]; rfl]
        exact ih n (i + 1) (by omega) (by omega)
  unfold m12_isInside
  have := loop K.length F 0 (by omega) (by omega)
  rw [insL_has K h3] at this
  exact this
theorem push_k {K : List Int} {σ : Mem} {x : Int} (h : SK K σ) (hx : x = 11 ∨ x = 12 ∨ x = 13 ∨ x = 91) : StK (gI (sI σ 490 K.length (w32 x))  490) (x :: K) :=
  ⟨gI_eq .., hx, h.2.2.same (fun i hi => gI_nej (by omega))⟩
theorem opens_r {F : Nat} {B : Nat → Int} {L k p : Nat} {σ0 : Mem} {x : Int} (hT : Txt B L) (hk : k < 6) (hx : x = 11 ∨ x = 91) {K : List Int} {s : St} {σ : Mem} (h : GR B L k σ0 K s σ) (hl : K.length < 400) (hp : sp s = p) : ∃ y σ', m12_opens F (w32 x) σ = some (y, σ') ∧ KL k σ0 σ' ∧ (if dp K = 10 then y = 0 ∧ gI σ' 483 9 = w32 (1 + 8 * (p : Int) + 2) else y = 1 ∧ GR B L k σ0 (x :: K) s σ') := by
  obtain ⟨hS, hK, hKL⟩ := h
  obtain ⟨k1, k2, k3⟩ := id hK
  have dl := dp_le K
  unfold m12_opens
  rw [k2]
  by_cases z : dp K = 10
  · rw [if_pos (by rw [z]; rfl), hS.1.2.2.1, hp]
    obtain ⟨σ1, m1, e1, q1⟩ := fails_r (F := F) (a := p) (c := 2) hS.1 (by decide)
    have m1 : m12_fails F (2 : Int32) (w32 (p : Int)) σ = _ := m1
    rw [m1, Option.bind_some]
    dsimp only
    rw [gd_pos (Or.inl rfl)]
    exact ⟨0, σ1, rfl, hKL.trans q1.k, by rw [if_pos z]; exact ⟨rfl, e1⟩⟩
  · rw [if_neg (by rw [wl_10, w_eq (by omega) (by omega) (by omega) (by omega)]; omega), w_succ]
    dsimp only
    rw [gI_nej (j := 13) (j' := 16) (by decide), k1, gd_pos (w_inB (by omega) (by omega) (by omega)), w_natk (by omega), gI_nec (c := 490) (c' := 483) (by decide), gI_nej (j := 13) (j' := 16) (by decide), k1, w_succ]
    refine ⟨1, _, rfl, fun j hj => ?_, ?_⟩
    · rw [gI_nec (by decide), gI_nec (by decide), gI_nec (by decide)]; exact hKL j hj
    · rw [if_neg z]
      refine ⟨rfl, ((hS.ne (by omega)).ne (by omega)).ne (by omega), ⟨by rw [gI_eq]; rfl, ?_, ?_⟩, fun j hj => ?_⟩
      · rw [gI_nej (by decide), gI_nec (by decide), gI_eq]
        have ed : dp (x :: K) = dp K + 1 := by
          rw [dp, if_pos (by omega)]
        rw [ed]
      · rw [gI_ne _ _ _ (by decide)]
        refine ⟨gI_eq .., by omega, k3.same (fun i hi => ?_)⟩
        rw [gI_nej (by omega), gI_nec (by decide)]
      · rw [gI_nec (by decide), gI_nec (by decide), gI_nec (by decide)]; exact hKL j hj
/-! the machine of tests -/
def Fin' (B : Nat → Int) (L k : Nat) (σ0 : Mem) (x : Re) (res : Option (Int32 × Mem)) : Prop := ∃ y σ', res = some (y, σ') ∧ OS B L k x y σ' ∧ KL k σ0 σ'
def cW (F n : Nat) (p6 : Mem) : Option (Int32 × Mem) :=
        Option.bind (m12_isWord F (6385252 : Int64) p6) fun p7 =>
        if p7.1 = (0 : Int32) then (
          Option.bind (m12_isWord F (28530 : Int64) p7.2) fun p8 =>
          if p8.1 = (0 : Int32) then (
            m12_tested_54 F (fun x1 σ => m12_tested_12 F n x1 σ) (0 : Int32) p8.2
            ) else (
            m12_tested_49 F (fun s0 σ => m12_tested_54 F (fun x1 σ => m12_tested_12 F n x1 σ) s0 σ) p8.2
            )
          ) else (
          m12_tested_49 F (fun s0 σ => m12_tested_54 F (fun x1 σ => m12_tested_12 F n x1 σ) s0 σ) p7.2
          )
def cT (F n m : Nat) (σ : Mem) : Option (Int32 × Mem) := Option.bind (m12_closes_5 F m σ) fun p6 => cW F n p6
def nT (F n : Nat) (σ : Mem) : Option (Int32 × Mem) := Option.bind (m12_closes F σ) fun p6 => cW F n p6
def mT (F n nf : Nat) (σ : Mem) : Option (Int32 × Mem) := Option.bind (m12_fact_2 F nf (1 : Int32) σ) fun p5 => if p5.1 = (0 : Int32) then some ((0 : Int32), p5.2) else nT F n p5.2
theorem tested12_1 {F n : Nat} {σ : Mem} : m12_tested_12 F (n + 1) (1 : Int32) σ = mT F n F σ := by
  show (if (1 : Int32) = 0 then _ else _) = _
  rw [if_neg (by decide)]
  rfl
theorem nT_c {F n : Nat} {σ σ' : Mem} (h : m12_settles F (3 : Int32) σ = some σ') : nT F n σ = cT F n F σ' := by
  unfold nT m12_closes cT
  rw [h, Option.bind_some]
/-- how the reference reads one fact, e brackets or nots being left -/
def FL (F : Nat) (B : Nat → Int) (L k : Nat) (σ0 : Mem) (e : Nat) : Prop := ∀ (K : List Int) (s : St) (σ : Mem) (n nf : Nat) (x : Re), GR B L k σ0 K s σ → Iq L K s → dp K + e = 10 → L - sp s < n → L - sp s + 1 < nf → (∀ f, facS B L e s = .error f → x = .error f) →
  (∀ (s1 : St) (σ1 : Mem) (n m : Nat), facS B L e s = .ok s1 → Iq L (stl 3 K s1).1 (stl 3 K s1).2 → GR B L k σ0 (stl 3 K s1).1 (stl 3 K s1).2 σ1 → L - sp s1 < n → L - sp s1 < m → Fin' B L k σ0 x (cT F n m σ1)) → Fin' B L k σ0 x (mT F n nf σ)
def jw (w : Bool) (Z : List Int) : List Int := if w = true then 13 :: Z else Z
def ja (a : Bool) (Z : List Int) : List Int := if a = true then 12 :: Z else Z
def por (w : Bool) (s : St) : St := if w = true then pt s (-32) else s
def pand (a : Bool) (s : St) : St := if a = true then pt s (-31) else s
theorem stl1 {a w : Bool} {Z : List Int} {s : St} (hZ : Z = [] ∨ ∃ K, Z = 91 :: K) : stl 1 (ja a (jw w Z)) s = (Z, por w (pand a s)) := by
  rcases hZ with rfl | ⟨K, rfl⟩ <;> cases a <;> cases w <;> rfl
theorem stl2 {a w : Bool} {Z : List Int} {s : St} (hZ : Z = [] ∨ ∃ K, Z = 91 :: K) : stl 2 (ja a (jw w Z)) s = (jw w Z, pand a s) := by
  rcases hZ with rfl | ⟨K, rfl⟩ <;> cases a <;> cases w <;> rfl
theorem dp_j {a w : Bool} {Z : List Int} : dp (ja a (jw w Z)) = dp Z := by cases a <;> cases w <;> rfl
theorem has_j {a w : Bool} {Z : List Int} : hasB (ja a (jw w Z)) = hasB Z := by
  cases a <;> cases w <;> simp [ja, jw, hasB]
theorem sp_por {w a : Bool} {s : St} : sp (por w (pand a s)) = sp s ∧ sp (pand a s) = sp s ∧ sn (por w (pand a s)) = sn s ∧ sn (pand a s) = sn s := by cases a <;> cases w <;> exact ⟨rfl, rfl, rfl, rfl⟩
theorem to_pand {a : Bool} {s : St} {p : Nat} : pand a (to s p) = to (pand a s) p := by cases a <;> rfl
theorem to_por {w : Bool} {s : St} {p : Nat} : por w (to s p) = to (por w s) p := by cases w <;> rfl
theorem k6_and {B : Nat → Int} {L p : Nat} : isK B L [97, 110, 100] p = true → wdx B p (rn B L 97 122 p) (tws 6) 0 = 0 := fun h => wdx_yes h
theorem k6_or {B : Nat → Int} {L p : Nat} (h0 : ¬ isK B L [97, 110, 100] p = true) (h : isK B L [111, 114] p = true) : wdx B p (rn B L 97 122 p) (tws 6) 0 = 1 := (wdx_no h0).trans (wdx_yes h)
theorem k6_no {B : Nat → Int} {L p : Nat} (h0 : ¬ isK B L [97, 110, 100] p = true) (h : ¬ isK B L [111, 114] p = true) : wdx B p (rn B L 97 122 p) (tws 6) 0 = -1 := (wdx_no h0).trans (wdx_no h)
theorem isK_pos {B : Nat → Int} {L p : Nat} {w : List Int} (h : isK B L w p = true) : 0 < rn B L 97 122 p := by
  unfold isK isw at h
  rw [Bool.and_eq_true, Bool.and_eq_true, decide_eq_true_eq, decide_eq_true_eq] at h
  exact h.2.1
/-- what the end of a test's part means: the stack Z below -/
def HE (F : Nat) (B : Nat → Int) (L k : Nat) (σ0 : Mem) (Z : List Int) (y x : Re) : Prop :=
  (Z = [] → x = y) ∧ ∀ K, Z = 91 :: K → (∀ f, bnd y (clsS B L) = .error f → x = .error f) ∧ ∀ (s2 : St) (σ2 : Mem) (n m : Nat), bnd y (clsS B L) = .ok s2 → Iq L (stl 3 K s2).1 (stl 3 K s2).2 → GR B L k σ0 (stl 3 K s2).1 (stl 3 K s2).2 σ2 → L - sp s2 < n → L - sp s2 < m → Fin' B L k σ0 x (cT F n m σ2)
theorem HE.err {F : Nat} {B : Nat → Int} {L k : Nat} {σ0 : Mem} {Z : List Int} {f : Int} {x : Re} (hZ : Z = [] ∨ ∃ K, Z = 91 :: K) (h : HE F B L k σ0 Z (.error f) x) : x = .error f := by
  rcases hZ with rfl | ⟨K, rfl⟩
  · exact h.1 rfl
  · exact (h.2 K rfl).1 f rfl
theorem tesL_s {B : Nat → Int} {L d : Nat} {fact : St → Re} {w : Bool} {s : St} : tesL B L fact (d + 1) w s = if wdx B (sk B L (sp s)) (rn B L 97 122 (sk B L (sp s))) (tws 6) 0 = -1 then .ok (if w then pt (to s (sk B L (sp s))) (-32) else to s (sk B L (sp s)))
    else if wdx B (sk B L (sp s)) (rn B L 97 122 (sk B L (sp s))) (tws 6) 0 = 1 then bnd (fact (if w then pt (to s (sk B L (sp s) + rn B L 97 122 (sk B L (sp s)))) (-32) else to s (sk B L (sp s) + rn B L 97 122 (sk B L (sp s))))) (tesL B L fact d true)
    else bnd (fact (to s (sk B L (sp s) + rn B L 97 122 (sk B L (sp s))))) (fun s' => tesL B L fact d w (pt s' (-31))) := rfl
theorem testsL_r {F : Nat} {B : Nat → Int} {L k e : Nat} {σ0 : Mem} (hT : Txt B L) (hF : 1000 ≤ F) (hk : k < 6) (hfl : FL F B L k σ0 e) : ∀ (d : Nat) (a w : Bool) (s : St) (σ : Mem) (n m : Nat) (Z : List Int) (x : Re), (Z = [] ∨ ∃ K, Z = 91 :: K) → GR B L k σ0 (ja a (jw w Z)) s σ → Iq L (ja a (jw w Z)) s → dp Z + e = 10 → L - sp s < d → L - sp s < n → L - sp s < m → HE F B L k σ0 Z (tesL B L (facS B L e) d w (pand a s)) x → Fin' B L k σ0 x (cT F n m σ) := by
  have hL := hT.1
  intro d
  induction d with
  | zero => intro a w s σ n m Z x _ _ _ _ h; omega
  | succ d ih =>
    intro a w s σ n m Z x hZ hG hI hdp hd hn hm hE
    obtain ⟨m, rfl⟩ : ∃ q, m = q + 1 := ⟨m - 1, by omega⟩
    obtain ⟨i1, i2, i3⟩ := id hI
    have q := sk_rg (B := B) (L := L) (p := sp s)
    obtain ⟨σ1, m1, t1, q1⟩ := see_r (F := F) hT hG.1.1 (by omega) hF
    have G1 := hG.q q1 t1
    have hch := ch_rg (p := sk B L (sp s)) hT
    obtain ⟨e1, e2, e3, e4⟩ := sp_por (w := w) (a := a) (s := s)
    have esk : ∀ s' : St, sp s' = sk B L (sp s) → sk B L (sp s') = sk B L (sp s) := fun s' h => by rw [h, sk_sk]
    have hlen : (ja a (jw w Z)).length ≤ 400 := by omega
    -- the spec, once no word joins
    have noj : wdx B (sk B L (sp s)) (rn B L 97 122 (sk B L (sp s))) (tws 6) 0 = -1 → tesL B L (facS B L e) (d + 1) w (pand a s) = .ok (to (por w (pand a s)) (sk B L (sp s))) := by
      intro z
      unfold tesL
      dsimp only
      rw [e2, if_pos z]
      cases w <;> rfl
    -- what is left when no word joins
    have endc : ∀ σa : Mem, RT B L (sk B L (sp s)) 0 σa → Qs σ σa → ¬ (ch B L (sk B L (sp s)) = 93 ∧ Z ≠ []) → wdx B (sk B L (sp s)) (rn B L 97 122 (sk B L (sp s))) (tws 6) 0 = -1 → Fin' B L k σ0 x (m12_tested_12 F n (0 : Int32) σa) := by
      intro σa ta qa hno hw
      obtain ⟨n, rfl⟩ : ∃ q, n = q + 1 := ⟨n - 1, by omega⟩
      have Ga := hG.q qa ta
      rw [noj hw] at hE
      show Fin' B L k σ0 x (if (0 : Int32) = 0 then _ else _)
      rw [if_pos rfl, isInside_r Ga.2.1 hlen hF, has_j, Option.bind_some]
      rcases hZ with hz | ⟨K, hz⟩
      · rw [hz]
        rw [if_neg (show ¬ hasB [] = true by decide), if_pos rfl]
        obtain ⟨σ3, m3, g3⟩ := settles_r (F := F) (t := 1) hT hF hk (by decide) Ga (show Iq L (ja a (jw w Z)) (to s (sk B L (sp s))) from ⟨show sl s + _ ≤ sk B L (sp s) by omega, show sk B L (sp s) ≤ L by omega, i3⟩)
        have m3 : m12_settles F (1 : Int32) σa = _ := m3
        rw [stl1 (Or.inl hz)] at g3
        rw [m3, Option.bind_some]
        refine ⟨1, σ3, rfl, ?_, g3.2.2⟩
        rw [hE.1 hz]
        have g31 := g3.1
        rw [show por w (pand a (to s (sk B L (sp s)))) = to (por w (pand a s)) (sk B L (sp s)) by rw [to_pand, to_por]] at g31
        exact ⟨rfl, g31⟩
      · have hb : hasB Z = true := by rw [hz]; unfold hasB; rw [show decide ((91 : Int) = 91) = true from rfl, Bool.or_true]
        rw [if_pos hb, if_neg (by decide)]
        obtain ⟨σ3, m3, t3, q3⟩ := see_r (F := F) hT ta (by omega) hF
        rw [sk_sk] at m3 t3
        obtain ⟨σ4, m4, e4, q4⟩ := fails_r (F := F) (a := sk B L (sp s)) (c := 0) t3 (by decide)
        have m4 : m12_fails F (0 : Int32) (w32 (sk B L (sp s) : Int)) σ3 = _ := m4
        rw [m3, Option.bind_some]
        dsimp only
        rw [t3.2.2.1, m4, Option.bind_some]
        dsimp only
        rw [gd_pos (Or.inl rfl)]
        refine ⟨0, σ4, rfl, ?_, Ga.2.2.trans (q3.trans q4).k⟩
        have hx := (hE.2 K hz).1 (1 + 8 * (sk B L (sp s) : Int) + ((0 : Nat) : Int)) (by
          show clsS B L (to (por w (pand a s)) (sk B L (sp s))) = _
          unfold clsS
          dsimp only
          rw [esk _ rfl, if_neg (fun z => hno ⟨z, by rw [hz]; exact List.cons_ne_nil _ _⟩)]
          rfl)
        rw [hx]
        exact ⟨rfl, e4⟩
    -- a word joins
    have join : ∀ (σa : Mem) (t : Int) (Y : List Int) (s' : St) (a' w' : Bool), RT B L (sk B L (sp s)) 0 σa → Qs σ σa → (t = 2 ∧ Y = jw w Z ∧ s' = pand a s ∧ a' = true ∧ w' = w) ∨ (t = 1 ∧ Y = Z ∧ s' = por w (pand a s) ∧ a' = false ∧ w' = true) → 0 < rn B L 97 122 (sk B L (sp s)) → tesL B L (facS B L e) (d + 1) w (pand a s) = bnd (facS B L e (to s' (sk B L (sp s) + rn B L 97 122 (sk B L (sp s))))) (fun s2 => tesL B L (facS B L e) d w' (pand a' s2)) → Fin' B L k σ0 x (m12_tested_76 F (fun x1 σ => (fun x1 σ => m12_tested_12 F n x1 σ) x1 σ) (1 : Int32) (w32 (if a' = true then 12 else 13)) σa) := by
      intro σa t Y s' a' w' ta qa hcs hr hsp
      have Ga := hG.q qa ta
      have rr := (rn_rg (B := B) (L := L) (p := sk B L (sp s)) (lo := 97) (hi := 122)).1
      obtain ⟨σ2, m2, t2, q2⟩ := passWord_r (F := F) hT ta (by omega) hF
      have G2 := Ga.q q2 t2
      have hI2 : Iq L (ja a (jw w Z)) (to s (sk B L (sp s) + rn B L 97 122 (sk B L (sp s)))) := ⟨show sl s + _ ≤ sk B L (sp s) + _ by omega, show sk B L (sp s) + _ ≤ L by omega, i3⟩
      have hI3 : sl s + (ja a (jw w Z)).length + 1 ≤ sk B L (sp s) + rn B L 97 122 (sk B L (sp s)) := by omega
      have hpl : sk B L (sp s) + rn B L 97 122 (sk B L (sp s)) ≤ L ∧ sp s < sk B L (sp s) + rn B L 97 122 (sk B L (sp s)) := by omega
      have ett : to (to s (sk B L (sp s))) (sk B L (sp s) + rn B L 97 122 (sk B L (sp s))) = to s (sk B L (sp s) + rn B L 97 122 (sk B L (sp s))) := rfl
      rw [ett] at G2
      generalize sk B L (sp s) + rn B L 97 122 (sk B L (sp s)) = pp at *
      have hst : m12_strength F (w32 (if a' = true then 12 else 13)) σ2 = some (w32 t) := by
        rcases hcs with ⟨rfl, -, -, rfl, -⟩ | ⟨rfl, -, -, rfl, -⟩ <;> rfl
      have ht13 : 1 ≤ t ∧ t ≤ 3 := by rcases hcs with ⟨rfl, -⟩ | ⟨rfl, -⟩ <;> decide
      obtain ⟨σ3, m3, g3⟩ := settles_r (F := F) (t := t) hT hF hk ht13 G2 hI2
      have est : stl t (ja a (jw w Z)) (to s pp) = (Y, to s' pp) := by
        rcases hcs with ⟨rfl, rfl, rfl, -, -⟩ | ⟨rfl, rfl, rfl, -, -⟩
        · rw [stl2 hZ, to_pand]
        · rw [stl1 hZ, to_pand, to_por]
      rw [est] at g3
      have c16 : gI σ3 483 16 = w32 (Y.length : Int) := g3.2.1.1
      have ylen : sl s' + Y.length = sl s + (ja a (jw w Z)).length := by
        rcases hcs with ⟨-, rfl, rfl, -, -⟩ | ⟨-, rfl, rfl, -, -⟩
        · cases a <;> simp [ja, pand, pt, sl] <;> omega
        · cases a <;> cases w <;> simp [ja, jw, pand, por, pt, sl] <;> omega
      have hs'n : sn s' = sn s := by
        rcases hcs with ⟨-, -, rfl, -, -⟩ | ⟨-, -, rfl, -, -⟩
        · exact e4
        · exact e3
      have hdpY : dp ((if a' = true then 12 else 13) :: Y) = dp Z := by
        rcases hcs with ⟨-, rfl, -, rfl, -⟩ | ⟨-, rfl, -, rfl, -⟩
        · cases w <;> rfl
        · rfl
      have hjj : (if a' = true then 12 else 13) :: Y = ja a' (jw w' Z) := by
        rcases hcs with ⟨-, rfl, -, rfl, rfl⟩ | ⟨-, rfl, -, rfl, rfl⟩ <;> rfl
      have hst3 : ∀ s2 : St, stl 3 ((if a' = true then 12 else 13) :: Y) s2 = ((if a' = true then 12 else 13) :: Y, s2) := fun s2 => by cases a' <;> rfl
      have hx13 : (if a' = true then (12 : Int) else 13) = 11 ∨ (if a' = true then (12 : Int) else 13) = 12 ∨ (if a' = true then (12 : Int) else 13) = 13 ∨ (if a' = true then (12 : Int) else 13) = 91 := by cases a' <;> decide
      have hd13 : dp ((if a' = true then (12 : Int) else 13) :: Y) = dp Y := by cases a' <;> rfl
      generalize (if a' = true then (12 : Int) else 13) = xx at *
      unfold m12_tested_76
      rw [m2, Option.bind_some, hst, Option.bind_some, m3, Option.bind_some, c16, gd_pos (w_inB (by omega) (by omega) (by omega)), w_natk (by omega)]
      dsimp only
      rw [gI_nec (c := 490) (c' := 483) (by decide), c16, w_succ]
      obtain ⟨n, rfl⟩ : ∃ q, n = q + 1 := ⟨n - 1, by omega⟩
      rw [tested12_1]
      have G5 : GR B L k σ0 (xx :: Y) (to s' pp) (sI (sI σ3 490 Y.length (w32 xx)) 483 16 (w32 ((Y.length + 1 : Nat) : Int))) := by
        refine ⟨(g3.1.ne (by omega)).ne (by omega), ⟨gI_eq .., ?_, ?_⟩, g3.2.2.trans (KL.of ?_)⟩
        · rw [gI_nej (by decide), gI_nec (by decide), hd13]; exact g3.2.1.2.1
        · rw [gI_ne _ _ _ (by decide)]; exact push_k g3.2.1 hx13
        · rw [gI_ne _ _ _ (by decide), gI_ne _ _ _ (by decide)]
      have hI5 : Iq L (xx :: Y) (to s' pp) := ⟨by rw [List.length_cons]; show sl s' + (Y.length + 1) ≤ pp; omega, hpl.1, by show sn s' ≤ 60; omega⟩
      rw [hsp] at hE
      refine hfl (xx :: Y) (to s' pp) _ n F x G5 hI5 (by omega) (show L - pp < n by omega) (show L - pp + 1 < F by omega) (fun f hf => ?_) (fun s1 σ6 n' m' hf h1 h2 h3 h4 => ?_)
      · rw [hf] at hE
        exact HE.err hZ hE
      · rw [hf] at hE
        rw [hst3] at h1 h2
        obtain ⟨⟨b1, b2, b3, b4, b5, b6, -, -⟩, -⟩ := facS_ok hT e (to s' pp) s1 (by show sn s' ≤ 60; omega) hf
        have b1 : pp < sp s1 := b1
        rw [hjj] at h1 h2
        exact ih a' w' s1 σ6 n' m' Z x hZ h2 h1 hdp (by omega) h3 h4 hE
    unfold cT m12_closes_5
    rw [m1, Option.bind_some]
    dsimp only
    -- the words, at σa
    have words : ∀ σa : Mem, RT B L (sk B L (sp s)) 0 σa → Qs σ σa → ¬ (ch B L (sk B L (sp s)) = 93 ∧ Z ≠ []) → Fin' B L k σ0 x (cW F n σa) := by
      intro σa ta qa hno
      obtain ⟨σ2, m2, t2, q2⟩ := isWord_r (F := F) hT ta (by omega) hF [97, 110, 100] 6385252 (by decide) (by decide) (by decide)
      rw [sk_sk] at m2 t2
      obtain ⟨σ3, m3, t3, q3⟩ := isWord_r (F := F) hT t2 (by omega) hF [111, 114] 28530 (by decide) (by decide) (by decide)
      rw [sk_sk] at m3 t3
      unfold cW
      rw [m2, Option.bind_some]
      dsimp only
      by_cases zA : isK B L [97, 110, 100] (sk B L (sp s)) = true
      · obtain ⟨σ4, m4, t4, q4⟩ := isWord_r (F := F) hT t2 (by omega) hF [97, 110, 100] 6385252 (by decide) (by decide) (by decide)
        rw [sk_sk] at m4 t4
        rw [if_pos zA] at m4
        rw [if_pos zA, if_neg (by decide)]
        unfold m12_tested_49
        show Fin' B L k σ0 x (m12_tested_54 F (fun x1 σ => m12_tested_12 F n x1 σ) (1 : Int32) σ2)
        unfold m12_tested_54
        rw [if_neg (by decide), m4, Option.bind_some]
        dsimp only
        rw [if_neg (by decide)]
        refine join σ4 2 (jw w Z) (pand a s) true w t4 ((qa.trans q2).trans q4) (Or.inl ⟨rfl, rfl, rfl, rfl, rfl⟩) (isK_pos zA) ?_
        have w0 := k6_and zA
        rw [tesL_s, e2, w0, if_neg (by decide), if_neg (by decide)]
        rfl
      · rw [if_neg zA, if_pos rfl, m3, Option.bind_some]
        dsimp only
        by_cases zO : isK B L [111, 114] (sk B L (sp s)) = true
        · obtain ⟨σ4, m4, t4, q4⟩ := isWord_r (F := F) hT t3 (by omega) hF [97, 110, 100] 6385252 (by decide) (by decide) (by decide)
          rw [sk_sk] at m4 t4
          rw [if_neg zA] at m4
          rw [if_pos zO, if_neg (by decide)]
          unfold m12_tested_49
          show Fin' B L k σ0 x (m12_tested_54 F (fun x1 σ => m12_tested_12 F n x1 σ) (1 : Int32) σ3)
          unfold m12_tested_54
          rw [if_neg (by decide), m4, Option.bind_some]
          dsimp only
          rw [if_pos rfl]
          refine join σ4 1 Z (por w (pand a s)) false true t4 (((qa.trans q2).trans q3).trans q4) (Or.inr ⟨rfl, rfl, rfl, rfl, rfl⟩) (isK_pos zO) ?_
          have w1 := k6_or zA zO
          rw [tesL_s, e2, w1, if_neg (by decide), if_pos rfl]
          cases w <;> rfl
        · rw [if_neg zO, if_pos rfl]
          unfold m12_tested_54
          rw [if_pos rfl]
          exact endc σ3 t3 ((qa.trans q2).trans q3) hno (k6_no zA zO)
    by_cases z93 : ch B L (sk B L (sp s)) = 93
    · rw [if_pos (by rw [z93]; rfl), isInside_r G1.2.1 hlen hF, has_j, Option.bind_some]
      rcases hZ with hz | ⟨K, hz⟩
      · rw [hz, if_neg (show ¬ hasB [] = true by decide), if_pos rfl, Option.bind_some]
        exact words σ1 t1 q1 (fun z => z.2 hz)
      · have hb : hasB Z = true := by rw [hz]; unfold hasB; rw [show decide ((91 : Int) = 91) = true from rfl, Bool.or_true]
        have hlt : sk B L (sp s) < L := ch_lt (B := B) (L := L) (by omega)
        rw [if_pos hb, if_neg (by decide)]
        have hI1 : Iq L (ja a (jw w Z)) (to s (sk B L (sp s))) := ⟨show sl s + _ ≤ sk B L (sp s) by omega, show sk B L (sp s) ≤ L by omega, i3⟩
        obtain ⟨σ3, m3, g3⟩ := settles_r (F := F) (t := 1) hT hF hk (by decide) G1 hI1
        have m3 : m12_settles F (1 : Int32) σ1 = _ := m3
        have iq3 := stl_iq (t := 1) _ _ hI1
        rw [stl1 (Or.inr ⟨K, hz⟩)] at g3 iq3
        rw [show por w (pand a (to s (sk B L (sp s)))) = to (por w (pand a s)) (sk B L (sp s)) by rw [to_pand, to_por]] at g3 iq3
        subst hz
        have dK : dp (91 :: K) = dp K + 1 := rfl
        obtain ⟨c1, c2, c3, c4, c5⟩ := id g3.2.1
        have c1 : gI σ3 483 16 = w32 ((K.length + 1 : Nat) : Int) := c1
        have iq31 : sl (por w (pand a s)) + (K.length + 1) ≤ sk B L (sp s) := iq3.1
        have ep : ∀ j : Nat, w32 ((j + 1 : Nat) : Int) - (1 : Int32) = w32 (j : Int) := w_pred
        have G6 : GR B L k σ0 K (to (por w (pand a s)) (sk B L (sp s) + 1)) (sI (sI (sI σ3 483 16 (w32 (K.length : Int))) 483 13 (w32 (dp K : Int))) 483 8 (w32 ((sk B L (sp s) + 1 : Nat) : Int))) := by
          have S5 := (g3.1.ne (c := 483) (j := 16) (v := w32 (K.length : Int)) (by omega)).ne (c := 483) (j := 13) (v := w32 (dp K : Int)) (by omega)
          have Q6 : Qs (sI (sI σ3 483 16 (w32 (K.length : Int))) 483 13 (w32 (dp K : Int))) (sI (sI (sI σ3 483 16 (w32 (K.length : Int))) 483 13 (w32 (dp K : Int))) 483 8 (w32 ((sk B L (sp s) + 1 : Nat) : Int))) := (Qs.rf _).s (by unfold V8; omega)
          refine ⟨S5.q Q6 (S5.1.at _), ⟨?_, ?_, ?_⟩, g3.2.2.trans (KL.of ?_)⟩
          · rw [gI_nej (by decide), gI_nej (by decide), gI_eq]
          · rw [gI_nej (by decide), gI_eq]
          · rw [gI_ne _ _ _ (by decide), gI_ne _ _ _ (by decide), gI_ne _ _ _ (by decide)]; exact c5
          · rw [gI_ne _ _ _ (by decide), gI_ne _ _ _ (by decide), gI_ne _ _ _ (by decide)]
        have hI6 : Iq L K (to (por w (pand a s)) (sk B L (sp s) + 1)) := ⟨by show sl (por w (pand a s)) + K.length ≤ sk B L (sp s) + 1; omega, hlt, by show sn (por w (pand a s)) ≤ 60; omega⟩
        obtain ⟨σ7, m7, g7⟩ := settles_r (F := F) (t := 3) hT hF hk (by decide) G6 hI6
        have m7 : m12_settles F (3 : Int32) _ = _ := m7
        have hI7 := stl_iq (t := 3) _ _ hI6
        rw [m3, Option.bind_some]
        try dsimp only
        rw [c1, ep, gI_nej (j := 16) (j' := 13) (by decide), c2, dK, ep, gI_nej (j := 13) (j' := 8) (by decide), gI_nej (j := 16) (j' := 8) (by decide), g3.1.1.2.2.1]
        show Fin' B L k σ0 x (Option.bind (Option.bind (m12_settles F (3 : Int32) (sI _ 483 8 (w32 (sk B L (sp s) : Int) + 1))) _) _)
        rw [w_succ, m7, Option.bind_some]
        have nj : wdx B (sk B L (sp s)) (rn B L 97 122 (sk B L (sp s))) (tws 6) 0 = -1 := by rw [rn_zero (by omega)]; exact wdx_0 _ _
        rw [noj nj] at hE
        refine (hE.2 K rfl).2 (to (por w (pand a s)) (sk B L (sp s) + 1)) σ7 n m ?_ hI7 g7 (show L - (sk B L (sp s) + 1) < n by omega) (show L - (sk B L (sp s) + 1) < m by omega)
        show clsS B L (to (por w (pand a s)) (sk B L (sp s))) = _
        unfold clsS
        dsimp only
        rw [esk _ rfl, if_pos z93]
        rfl
    · rw [if_neg (by rw [wl_93, w_eq (by omega) (by omega) (by omega) (by omega)]; exact z93), Option.bind_some]
      exact words σ1 t1 q1 (fun z => z93 z.1)
theorem fact_step {F : Nat} {B : Nat → Int} {L k e : Nat} {σ0 : Mem} (hT : Txt B L) (hF : 1000 ≤ F) (hk : k < 6) (ih : ∀ e', e = e' + 1 → FL F B L k σ0 e') : FL F B L k σ0 e := by
  have hL := hT.1
  intro K s σ n nf x hG hI hdp hn hnf he hok
  obtain ⟨i1, i2, i3⟩ := id hI
  obtain ⟨nf, rfl⟩ : ∃ q, nf = q + 1 := ⟨nf - 1, by omega⟩
  have q := sk_rg (B := B) (L := L) (p := sp s)
  obtain ⟨σ1, m1, t1, q1⟩ := see_r (F := F) hT hG.1.1 (by omega) hF
  obtain ⟨σ2, m2, t2, q2⟩ := isWord_r (F := F) hT t1 (by omega) hF [110, 111, 116] 7237492 (by decide) (by decide) (by decide)
  rw [sk_sk] at m2 t2
  have G2 := hG.q (q1.trans q2) t2
  have hch := ch_rg (p := sk B L (sp s)) hT
  have eN : isK B L [110, 111, 116] (sk B L (sp s)) = isN B L (sk B L (sp s)) := rfl
  rw [eN] at m2
  unfold mT m12_fact_2
  rw [if_neg (show ¬ (1 : Int32) = 0 by decide), m1, Option.bind_some]
  dsimp only
  rw [m2, Option.bind_some]
  dsimp only
  have rr := (rn_rg (B := B) (L := L) (p := sk B L (sp s)) (lo := 97) (hi := 122)).1
  by_cases zN : isN B L (sk B L (sp s)) = true
  · have rp : 0 < rn B L 97 122 (sk B L (sp s)) := isK_pos (w := [110, 111, 116]) zN
    obtain ⟨y3, σ3, m3, k3, g3⟩ := opens_r (F := F) (x := 11) (p := sk B L (sp s)) hT hk (Or.inl rfl) G2 (by omega) rfl
    have m3 : m12_opens F (11 : Int32) σ2 = _ := m3
    rw [if_pos zN, if_neg (by decide), m3, Option.bind_some]
    dsimp only
    cases e with
    | zero =>
      rw [if_pos (show dp K = 10 by omega)] at g3
      rw [if_pos g3.1, Option.bind_some]
      dsimp only
      rw [if_pos rfl]
      refine ⟨0, σ3, rfl, ?_, k3⟩
      rw [he (1 + 8 * (sk B L (sp s) : Int) + ((2 : Nat) : Int)) (by
        unfold facS
        dsimp only
        rw [if_pos (Or.inl zN)]
        rfl)]
      exact ⟨rfl, g3.2⟩
    | succ e' =>
      rw [if_neg (show ¬ dp K = 10 by omega)] at g3
      rw [if_neg (by rw [g3.1]; decide)]
      obtain ⟨σ4, m4, t4, q4⟩ := passWord_r (F := F) hT g3.2.1.1 (show sk B L (sp s) ≤ 1000000 by omega) hF
      have G4 := g3.2.q q4 t4
      rw [m4, Option.bind_some]
      have es : facS B L (e' + 1) s = bnd (facS B L e' (to s (sk B L (sp s) + rn B L 97 122 (sk B L (sp s))))) (fun s' => .ok (pt s' (-30))) := by
        show (if isN B L (sk B L (sp s)) = true then _ else _) = _
        rw [if_pos zN]
      refine ih e' rfl (11 :: K) (to s (sk B L (sp s) + rn B L 97 122 (sk B L (sp s)))) σ4 n nf x G4 ⟨by rw [List.length_cons]; show sl s + (K.length + 1) ≤ sk B L (sp s) + rn B L 97 122 (sk B L (sp s)); omega, by show sk B L (sp s) + rn B L 97 122 (sk B L (sp s)) ≤ L; omega, i3⟩ (by show dp K + 1 + e' = 10; omega) (by show L - (sk B L (sp s) + rn B L 97 122 (sk B L (sp s))) < n; omega) (by show L - (sk B L (sp s) + rn B L 97 122 (sk B L (sp s))) + 1 < nf; omega) (fun f hf => he f (by rw [es, hf]; rfl)) (fun s1 σ5 n' m' hf h1 h2 h3 h4 => ?_)
      have e3 : stl 3 (11 :: K) s1 = stl 3 K (pt s1 (-30)) := rfl
      rw [e3] at h1 h2
      exact hok (pt s1 (-30)) σ5 n' m' (by rw [es, hf]; rfl) h1 h2 h3 h4
  · rw [if_neg zN, if_pos rfl]
    by_cases z91 : ch B L (sk B L (sp s)) = 91
    · have hlt : sk B L (sp s) < L := ch_lt (B := B) (L := L) (by omega)
      obtain ⟨y3, σ3, m3, k3, g3⟩ := opens_r (F := F) (x := 91) (p := sk B L (sp s)) hT hk (Or.inr rfl) G2 (by omega) rfl
      have m3 : m12_opens F (91 : Int32) σ2 = _ := m3
      rw [if_pos (by rw [z91]; rfl), m3, Option.bind_some]
      dsimp only
      cases e with
      | zero =>
        rw [if_pos (show dp K = 10 by omega)] at g3
        rw [if_pos g3.1, Option.bind_some]
        dsimp only
        rw [if_pos rfl]
        refine ⟨0, σ3, rfl, ?_, k3⟩
        rw [he (1 + 8 * (sk B L (sp s) : Int) + ((2 : Nat) : Int)) (by
          unfold facS
          dsimp only
          rw [if_pos (Or.inr z91)]
          rfl)]
        exact ⟨rfl, g3.2⟩
      | succ e' =>
        rw [if_neg (show ¬ dp K = 10 by omega)] at g3
        rw [if_neg (by rw [g3.1]; decide)]
        have t3 : RT B L (sk B L (sp s)) 0 σ3 := g3.2.1.1
        have Q4 : Qs σ3 (sI σ3 483 8 (w32 ((sk B L (sp s) + 1 : Nat) : Int))) := (Qs.rf σ3).s (by unfold V8; omega)
        have G4 := g3.2.q Q4 (t3.at (sk B L (sp s) + 1))
        rw [t3.2.2.1, w_succ]
        have es : facS B L (e' + 1) s = bnd (tesS B L (facS B L e') (to s (sk B L (sp s) + 1))) (clsS B L) := by
          show (if isN B L (sk B L (sp s)) = true then _ else if ch B L (sk B L (sp s)) = 91 then _ else _) = _
          rw [if_neg zN, if_pos z91]
        refine ih e' rfl (91 :: K) (to s (sk B L (sp s) + 1)) _ n nf x G4 ⟨by rw [List.length_cons]; show sl s + (K.length + 1) ≤ sk B L (sp s) + 1; omega, hlt, i3⟩ (by show dp K + 1 + e' = 10; omega) (by show L - (sk B L (sp s) + 1) < n; omega) (by show L - (sk B L (sp s) + 1) + 1 < nf; omega) (fun f hf => he f (by rw [es]; unfold tesS; rw [hf]; rfl)) (fun s1 σ5 n' m' hf h1 h2 h3 h4 => ?_)
        have e3 : stl 3 (91 :: K) s1 = (91 :: K, s1) := rfl
        rw [e3] at h1 h2
        have et : tesS B L (facS B L e') (to s (sk B L (sp s) + 1)) = tesL B L (facS B L e') 401 false s1 := by unfold tesS; rw [hf]; rfl
        refine testsL_r hT hF hk (ih e' rfl) 401 false false s1 σ5 n' m' (91 :: K) x (Or.inr ⟨K, rfl⟩) h2 h1 (by show dp K + 1 + e' = 10; omega) (by omega) h3 h4 ⟨fun z => absurd z (List.cons_ne_nil _ _), fun K' hK => ?_⟩
        obtain ⟨-, rfl⟩ := List.cons.inj hK
        rw [show pand false s1 = s1 from rfl, ← et, ← es]
        exact ⟨he, hok⟩
    · rw [if_neg (by rw [wl_91, w_eq (by omega) (by omega) (by omega) (by omega)]; exact z91)]
      obtain ⟨nf, rfl⟩ : ∃ q, nf = q + 1 := ⟨nf - 1, by omega⟩
      have es : facS B L e s = cmpS B L (to s (sk B L (sp s))) := by
        cases e with
        | zero =>
          show (if isN B L (sk B L (sp s)) = true ∨ ch B L (sk B L (sp s)) = 91 then _ else _) = _
          rw [if_neg (by intro z; rcases z with z | z; exact zN z; exact z91 z)]
        | succ e' =>
          show (if isN B L (sk B L (sp s)) = true then _ else if ch B L (sk B L (sp s)) = 91 then _ else _) = _
          rw [if_neg zN, if_neg z91]
      rw [es] at he hok
      obtain ⟨y3, σ3, m3, o3, k3⟩ := cmpM_r (F := F) hT hF hk G2.1 (show sl s ≤ sk B L (sp s) by omega) (show sk B L (sp s) ≤ L by omega) i3
      have f3 := f12_compare m3
      have s3 := f12_compare_s m3
      show Fin' B L k σ0 x (Option.bind (if (0 : Int32) = 0 then _ else _) _)
      rw [if_pos rfl, m3, Option.bind_some]
      dsimp only
      cases hv : cmpS B L (to s (sk B L (sp s))) with
      | error f =>
        have o3 : OS B L k (cmpS B L (to s (sk B L (sp s)))) y3 σ3 := o3
        rw [hv] at o3
        rw [gd_pos (Or.inl o3.1), Option.bind_some]
        dsimp only
        rw [if_pos o3.1]
        refine ⟨0, σ3, rfl, ?_, G2.2.2.trans k3⟩
        rw [he f hv]
        exact ⟨rfl, o3.2⟩
      | ok s1 =>
        have o3 : OS B L k (cmpS B L (to s (sk B L (sp s)))) y3 σ3 := o3
        rw [hv] at o3
        obtain ⟨⟨b1, b2, b3, b4, b5, b6, -, -⟩, -⟩ := cmpS_ok (s := to s (sk B L (sp s))) hT i3 hv
        have b1 : sk B L (sp s) < sp s1 := b1
        have b4 : sl s1 + sk B L (sp s) ≤ sp s1 + sl s := b4
        rw [gd_pos (Or.inr o3.1), Option.bind_some]
        dsimp only
        rw [if_neg (by rw [o3.1]; decide)]
        have G3 : GR B L k σ0 K s1 σ3 := by
          refine ⟨o3.2, ⟨?_, ?_, ?_⟩, G2.2.2.trans k3⟩
          · rw [s3 16 (by unfold Vm12_compare; omega)]; exact G2.2.1.1
          · rw [s3 13 (by unfold Vm12_compare; omega)]; exact G2.2.1.2.1
          · rw [f3.gI (by unfold Wm12_compare; omega)]; exact G2.2.1.2.2
        have hI3 : Iq L K s1 := ⟨by omega, b2, b6⟩
        obtain ⟨σ4, m4, g4⟩ := settles_r (F := F) (t := 3) hT hF hk (by decide) G3 hI3
        have m4 : m12_settles F (3 : Int32) σ3 = _ := m4
        rw [nT_c m4]
        exact hok s1 σ4 n F hv (stl_iq _ _ hI3) g4 (by omega) (by omega)
theorem facts_r {F : Nat} {B : Nat → Int} {L k : Nat} {σ0 : Mem} (hT : Txt B L) (hF : 1000 ≤ F) (hk : k < 6) : ∀ e, FL F B L k σ0 e
  | 0 => fact_step hT hF hk (fun e' h => by cases h)
  | e + 1 => fact_step hT hF hk (fun e' h => by cases h; exact facts_r hT hF hk e)
theorem tested_r {F : Nat} {B : Nat → Int} {L k : Nat} {s : St} {σ : Mem} (hT : Txt B L) (hF : 1000 ≤ F) (hk : k < 6) (h : SR B L k s σ) (hl : sl s ≤ sp s) (hp : sp s ≤ L) (hn : sn s ≤ 60) : Fin' B L k σ (tesS B L (facS B L 10) s) (m12_tested F σ) := by
  have hL := hT.1
  have hfl := facts_r (F := F) (B := B) (L := L) (k := k) (σ0 := σ) hT hF hk 10
  obtain ⟨G, rfl⟩ : ∃ q, F = q + 1 := ⟨F - 1, by omega⟩
  unfold m12_tested
  dsimp only
  rw [tested12_1]
  have G1 : GR B L k σ [] s (sI (sI σ 483 16 (0 : Int32)) 483 13 (0 : Int32)) := ⟨(h.ne (by omega)).ne (by omega), ⟨by rw [gI_nej (by decide), gI_eq]; rfl, by rw [gI_eq]; rfl, trivial⟩, KL.of (by rw [gI_ne _ _ _ (by decide), gI_ne _ _ _ (by decide)])⟩
  refine hfl [] s _ G (G + 1) _ G1 ⟨by show sl s + 0 ≤ sp s; omega, hp, hn⟩ rfl (by omega) (by omega) (fun f hf => ?_) (fun s1 σ1 n m hf h1 h2 h3 h4 => ?_)
  · unfold tesS
    rw [hf]; rfl
  · have h1 : Iq L [] s1 := h1
    have h2 : GR B L k σ [] s1 σ1 := h2
    obtain ⟨⟨b1, b2, -⟩, -⟩ := facS_ok hT 10 s s1 hn hf
    refine testsL_r hT hF hk hfl 401 false false s1 σ1 n m [] _ (Or.inl rfl) h2 h1 rfl (by omega) h3 h4 ⟨fun _ => ?_, fun K hK => absurd hK.symm (List.cons_ne_nil _ _)⟩
    unfold tesS
    rw [hf]; rfl
