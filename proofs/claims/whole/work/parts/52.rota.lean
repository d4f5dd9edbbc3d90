/-! QUERY: rota; a search through all rows of digits, first of the best -/
def scan (g : Nat → Int × Nat) : Nat → Nat → Int × Nat → Int × Nat
  | 0, _, st => st
  | m + 1, r, st => scan g m (r + 1) (if st.1 < (g r).1 then g r else st)
theorem scan_add {g : Nat → Int × Nat} : ∀ (m k r : Nat) (st : Int × Nat), scan g (m + k) r st = scan g k (r + m) (scan g m r st)
  | 0, k, r, st => by rw [Nat.zero_add]; rfl
  | m + 1, k, r, st => by
    rw [show m + 1 + k = (m + k) + 1 by omega]
    show scan g (m + k) (r + 1) _ = scan g k (r + (m + 1)) (scan g m (r + 1) _)
    rw [scan_add m k (r + 1), show r + 1 + m = r + (m + 1) by omega]
theorem scan_congr {g g' : Nat → Int × Nat} : ∀ (m r : Nat) (st : Int × Nat), (∀ i, i < m → g (r + i) = g' (r + i)) → scan g m r st = scan g' m r st
  | 0, _, _, _ => rfl
  | m + 1, r, st, h => by
    have h0 := h 0 (by omega)
    rw [Nat.add_zero] at h0
    show scan g m (r + 1) _ = scan g' m (r + 1) _
    rw [h0]
    exact scan_congr m (r + 1) _ (fun i hi => by have := h (i + 1) (by omega); rw [show r + 1 + i = r + (i + 1) by omega]; exact this)
theorem scan_shift {g : Nat → Int × Nat} (a : Nat) : ∀ (m r : Nat) (st : Int × Nat), scan g m (a + r) st = scan (fun i => g (a + i)) m r st
  | 0, _, _ => rfl
  | m + 1, r, st => scan_shift a m (r + 1) _
theorem scan_ge {g : Nat → Int × Nat} : ∀ (m r : Nat) (st : Int × Nat), st.1 ≤ (scan g m r st).1 ∧ ∀ i, i < m → (g (r + i)).1 ≤ (scan g m r st).1
  | 0, _, _ => ⟨Int.le_refl _, fun i hi => by omega⟩
  | m + 1, r, st => by
    obtain ⟨a, b⟩ := scan_ge (g := g) m (r + 1) (if st.1 < (g r).1 then g r else st)
    have e : scan g (m + 1) r st = scan g m (r + 1) (if st.1 < (g r).1 then g r else st) := rfl
    rw [e]
    have c : st.1 ≤ (if st.1 < (g r).1 then g r else st).1 ∧ (g r).1 ≤ (if st.1 < (g r).1 then g r else st).1 := by
      by_cases h : st.1 < (g r).1
      · rw [if_pos h]; omega
      · rw [if_neg h]; omega
    refine ⟨by omega, fun i hi => ?_⟩
    by_cases h : i = 0
    · rw [h, Nat.add_zero]; omega
    · have := b (i - 1) (by omega)
      rw [show r + 1 + (i - 1) = r + i by omega] at this
      exact this
theorem scan_id {g : Nat → Int × Nat} : ∀ (m r : Nat) (st : Int × Nat), (∀ i, i < m → (g (r + i)).1 ≤ st.1) → scan g m r st = st
  | 0, _, _, _ => rfl
  | m + 1, r, st, h => by
    have h0 := h 0 (by omega)
    rw [Nat.add_zero] at h0
    show scan g m (r + 1) (if st.1 < (g r).1 then g r else st) = st
    rw [if_neg (by omega)]
    exact scan_id m (r + 1) st (fun i hi => by have := h (i + 1) (by omega); rw [show r + 1 + i = r + (i + 1) by omega]; exact this)
def srV (B : Nat) (hit : Nat → Dat → Int) (nxt : Nat → Dat → Dat) : Nat → Nat → Dat → Int
  | 0, _, _ => 0
  | n + 1, c, A => hit (c / B ^ n % B) A + srV B hit nxt n c (nxt (c / B ^ n % B) A)
def srL (sub : Nat → Bool) (g : Nat → Int × Nat → Int × Nat) : Nat → Nat → Int × Nat → Int × Nat
  | 0, _, st => st
  | d + 1, s, st => srL sub g d (s + 1) (if sub s then g s st else st)
def srG (B : Nat) (hit : Nat → Dat → Int) (nxt : Nat → Dat → Dat) (sub : Dat → Nat → Bool) (M : Nat) : Nat → Dat → Int → Nat → Int × Nat → Int × Nat
  | 0, _, acc, pre, st => if st.1 < acc then (acc, pre) else st
  | n + 1, A, acc, pre, st => srL (sub A) (fun s st => srG B hit nxt sub M n (nxt s A) (acc + hit s A) (pre * B + s) st) M 0 st
theorem srL_add {sub : Nat → Bool} {g : Nat → Int × Nat → Int × Nat} : ∀ (d e s : Nat) (st : Int × Nat), srL sub g (d + e) s st = srL sub g e (s + d) (srL sub g d s st)
  | 0, e, s, st => by rw [Nat.zero_add]; rfl
  | d + 1, e, s, st => by
    rw [show d + 1 + e = (d + e) + 1 by omega]
    show srL sub g (d + e) (s + 1) _ = srL sub g e (s + (d + 1)) (srL sub g d (s + 1) _)
    rw [srL_add d e (s + 1), show s + 1 + d = s + (d + 1) by omega]
theorem srL_none {sub : Nat → Bool} {g : Nat → Int × Nat → Int × Nat} {B : Nat} (h : ∀ s, sub s = true → s < B) : ∀ (d s : Nat) (st : Int × Nat), B ≤ s → srL sub g d s st = st
  | 0, _, _, _ => rfl
  | d + 1, s, st, hs => by
    show srL sub g d (s + 1) (if sub s then g s st else st) = st
    have : ¬ sub s = true := fun z => by have := h s z; omega
    rw [if_neg this]
    exact srL_none h d (s + 1) st (by omega)
theorem srV_mod {B : Nat} {hit : Nat → Dat → Int} {nxt : Nat → Dat → Dat} (hB : 0 < B) : ∀ (n q c : Nat) (A : Dat), srV B hit nxt n (q * B ^ n + c) A = srV B hit nxt n c A
  | 0, _, _, _ => rfl
  | n + 1, q, c, A => by
    have hp : 0 < B ^ n := Nat.pow_pos hB
    have e : (q * B ^ (n + 1) + c) / B ^ n % B = c / B ^ n % B := by
      rw [Nat.pow_succ, show q * (B ^ n * B) = B ^ n * (q * B) by rw [Nat.mul_comm (B ^ n) (q * B), Nat.mul_assoc, Nat.mul_comm B (B ^ n)], Nat.mul_add_div hp, Nat.mul_comm q B, Nat.mul_add_mod]
    show hit ((q * B ^ (n + 1) + c) / B ^ n % B) A + srV B hit nxt n (q * B ^ (n + 1) + c) (nxt ((q * B ^ (n + 1) + c) / B ^ n % B) A) = hit (c / B ^ n % B) A + srV B hit nxt n c (nxt (c / B ^ n % B) A)
    rw [e, show q * B ^ (n + 1) = (q * B) * B ^ n by rw [Nat.pow_succ, Nat.mul_assoc, Nat.mul_comm B (B ^ n)], srV_mod hB n (q * B) c]
theorem srG_eq {B M : Nat} {hit : Nat → Dat → Int} {nxt : Nat → Dat → Dat} {sub : Dat → Nat → Bool} {good : Nat → Dat → Prop} (hB : 0 < B) (hM : B ≤ M) (hg : ∀ n A s, good (n + 1) A → s < B → good n (nxt s A)) (hs : ∀ n A s, good (n + 1) A → sub A s = true → s < B)
    (hr : ∀ n A s, good (n + 1) A → s < B → sub A s = false → ∃ s', s' < s ∧ sub A s' = true ∧ hit s' A = hit s A ∧ nxt s' A = nxt s A) :
    ∀ (n : Nat) (A : Dat) (acc : Int) (pre : Nat) (st : Int × Nat), good n A → srG B hit nxt sub M n A acc pre st = scan (fun r => (acc + srV B hit nxt n r A, pre * B ^ n + r)) (B ^ n) 0 st := by
  intro n
  induction n with
  | zero =>
    intro A acc pre st _
    show (if st.1 < acc then (acc, pre) else st) = (if st.1 < acc + 0 then (acc + 0, pre * B ^ 0 + 0) else st)
    rw [Int.add_zero, Nat.pow_zero, Nat.mul_one, Nat.add_zero]
  | succ n ih =>
    intro A acc pre st hgd
    have hp : 0 < B ^ n := Nat.pow_pos hB
    have gv : ∀ s i, s < B → i < B ^ n → (acc + srV B hit nxt (n + 1) (s * B ^ n + i) A, pre * B ^ (n + 1) + (s * B ^ n + i)) = (acc + hit s A + srV B hit nxt n i (nxt s A), (pre * B + s) * B ^ n + i) := by
      intro s i hs' hi
      have e1 : (s * B ^ n + i) / B ^ n % B = s := by
        rw [Nat.mul_comm, Nat.mul_add_div hp, Nat.div_eq_of_lt hi, Nat.add_zero, Nat.mod_eq_of_lt hs']
      have e2 : srV B hit nxt (n + 1) (s * B ^ n + i) A = hit s A + srV B hit nxt n i (nxt s A) := by
        show hit ((s * B ^ n + i) / B ^ n % B) A + srV B hit nxt n (s * B ^ n + i) (nxt ((s * B ^ n + i) / B ^ n % B) A) = _
        rw [e1, srV_mod hB]
      rw [e2, Int.add_assoc]
      congr 1
      rw [Nat.pow_succ, Nat.add_mul, Nat.mul_assoc, Nat.mul_comm B (B ^ n), Nat.add_assoc]
    have blk : ∀ s st, s < B → scan (fun r => (acc + srV B hit nxt (n + 1) r A, pre * B ^ (n + 1) + r)) (B ^ n) (s * B ^ n) st = srG B hit nxt sub M n (nxt s A) (acc + hit s A) (pre * B + s) st := by
      intro s st hs'
      rw [ih _ _ _ _ (hg n A s hgd hs')]
      have := scan_shift (g := fun r => (acc + srV B hit nxt (n + 1) r A, pre * B ^ (n + 1) + r)) (s * B ^ n) (B ^ n) 0 st
      rw [show s * B ^ n + 0 = s * B ^ n from rfl] at this
      refine this.trans ?_
      exact scan_congr _ _ _ (fun i hi => by rw [Nat.zero_add]; exact gv s i hs' hi)
    have loop : ∀ (d s : Nat) (st : Int × Nat), s + d = B → (∀ s', s' < s → sub A s' = true → ∀ i, i < B ^ n → acc + hit s' A + srV B hit nxt n i (nxt s' A) ≤ st.1) → srL (sub A) (fun s st => srG B hit nxt sub M n (nxt s A) (acc + hit s A) (pre * B + s) st) d s st = scan (fun r => (acc + srV B hit nxt (n + 1) r A, pre * B ^ (n + 1) + r)) (d * B ^ n) (s * B ^ n) st := by
      intro d
      induction d with
      | zero => intro s st _ _; rw [Nat.zero_mul]; rfl
      | succ d ihd =>
        intro s st hsd inv
        rw [show (d + 1) * B ^ n = B ^ n + d * B ^ n by rw [Nat.add_mul, Nat.one_mul, Nat.add_comm], scan_add, show s * B ^ n + B ^ n = (s + 1) * B ^ n by rw [Nat.add_mul, Nat.one_mul]]
        show srL (sub A) _ d (s + 1) (if sub A s then srG B hit nxt sub M n (nxt s A) (acc + hit s A) (pre * B + s) st else st) = _
        by_cases h : sub A s = true
        · rw [if_pos h, ← blk s st (by omega)]
          refine ihd (s + 1) _ (by omega) (fun s' h1 h2 i hi => ?_)
          have ge := scan_ge (g := fun r => (acc + srV B hit nxt (n + 1) r A, pre * B ^ (n + 1) + r)) (B ^ n) (s * B ^ n) st
          by_cases hss : s' = s
          · have g2 := ge.2 i hi
            have g3 := congrArg Prod.fst (gv s i (by omega) hi)
            dsimp only at g2 g3
            rw [hss]
            omega
          · have := inv s' (by omega) h2 i hi
            have g1 := ge.1
            omega
        · rw [if_neg h]
          have hid : scan (fun r => (acc + srV B hit nxt (n + 1) r A, pre * B ^ (n + 1) + r)) (B ^ n) (s * B ^ n) st = st := by
            obtain ⟨s', h1, h2, h3, h4⟩ := hr n A s hgd (by omega) (by simpa using h)
            refine scan_id _ _ _ (fun i hi => ?_)
            have g3 := congrArg Prod.fst (gv s i (by omega) hi)
            dsimp only at g3 ⊢
            rw [g3, ← h3, ← h4]
            exact inv s' h1 h2 i hi
          rw [hid]
          exact ihd (s + 1) st (by omega) (fun s' h1 h2 i hi => by
            by_cases hss : s' = s
            · rw [hss] at h2; exact absurd h2 h
            · exact inv s' (by omega) h2 i hi)
    show srL (sub A) (fun s st => srG B hit nxt sub M n (nxt s A) (acc + hit s A) (pre * B + s) st) M 0 st = _
    have l := loop B 0 st (by omega) (fun s' h => by omega)
    have a : srL (sub A) (fun s st => srG B hit nxt sub M n (nxt s A) (acc + hit s A) (pre * B + s) st) (B + (M - B)) 0 st = srL (sub A) (fun s st => srG B hit nxt sub M n (nxt s A) (acc + hit s A) (pre * B + s) st) B 0 st := by
      rw [srL_add, srL_none (fun s h => hs n A s hgd h) (M - B) (0 + B) _ (by omega)]
    rw [show B + (M - B) = M by omega] at a
    rw [a, l, Nat.zero_mul, Nat.pow_succ, Nat.mul_comm B (B ^ n)]
theorem srV_rg {B : Nat} {hit : Nat → Dat → Int} {nxt : Nat → Dat → Dat} (h : ∀ s A, 0 ≤ hit s A ∧ hit s A ≤ 3) : ∀ (n c : Nat) (A : Dat), 0 ≤ srV B hit nxt n c A ∧ srV B hit nxt n c A ≤ 3 * n
  | 0, _, _ => ⟨Int.le_refl _, Int.le_refl _⟩
  | n + 1, c, A => by
    have a := h (c / B ^ n % B) A
    have b := srV_rg (B := B) (nxt := nxt) h n c (nxt (c / B ^ n % B) A)
    show 0 ≤ hit (c / B ^ n % B) A + srV B hit nxt n c (nxt (c / B ^ n % B) A) ∧ hit (c / B ^ n % B) A + srV B hit nxt n c (nxt (c / B ^ n % B) A) ≤ 3 * ((n + 1 : Nat) : Int)
    omega
/-! who is chosen matters for those who have work alone -/
def Kq (K K' : Nat → Int) : Prop := K 4 = K' 4 ∧ K 5 = K' 5 ∧ K 6 = K' 6
theorem stepS_Kq {P : Dat} {J : Nat → Int} {Wl Wl' : Nat → Bool} {p : Nat} {s s' : WS} (h1 : s.1 = s'.1) (h2 : Kq s.2.1 s'.2.1) (h3 : s.2.2 = s'.2.2) (hw : Wl p = Wl' p) :
    (stepS P J Wl p s).1 = (stepS P J Wl' p s').1 ∧ Kq (stepS P J Wl p s).2.1 (stepS P J Wl' p s').2.1 ∧ (stepS P J Wl p s).2.2 = (stepS P J Wl' p s').2.2 ∧ hitS P J Wl p s = hitS P J Wl' p s' := by
  have k : Kq (stepS P J Wl p s).2.1 (stepS P J Wl' p s').2.1 := ⟨by rw [stepS_K (by decide), stepS_K (by decide)]; exact h2.1, by rw [stepS_K (by decide), stepS_K (by decide)]; exact h2.2.1, by rw [stepS_K (by decide), stepS_K (by decide)]; exact h2.2.2⟩
  obtain ⟨A, K, T⟩ := s
  obtain ⟨A', K', T'⟩ := s'
  obtain ⟨k4, k5, k6⟩ := h2
  dsimp only at h1 h3 k4 k5 k6
  subst h1 h3
  have eb : ∀ j, bitsN P A K T j = bitsN P A K' T j := fun j => by unfold bitsN; rw [k4]
  have eo : ∀ j, okT P A K T j = okT P A K' T j := fun j => by unfold okT; rw [eb]
  have es : ∀ j, strikeA P A K p j = strikeA P A K' p j := fun j => by unfold strikeA; rw [k6]
  have eh : ∀ j, heatA P A K p j = heatA P A K' p j := fun j => by unfold heatA; rw [k5]
  refine ⟨?_, k, ?_, ?_⟩
  · unfold stepS
    dsimp only
    rw [hw, eo, es, eh, eb]
    split
    · rfl
    · split
      · split <;> rfl
      · rfl
  · unfold stepS
    dsimp only
    rw [hw, eo, es, eh, eb]
    split
    · rfl
    · split
      · split <;> rfl
      · rfl
  · unfold hitS
    dsimp only
    rw [hw, eo]
theorem workS_Kq {P : Dat} {J : Nat → Int} {Wl Wl' : Nat → Bool} : ∀ (d p : Nat) (s s' : WS), p + d ≤ 3 → (∀ q, q < 3 → Wl q = Wl' q) → s.1 = s'.1 → Kq s.2.1 s'.2.1 → s.2.2 = s'.2.2 → (workS P J Wl d p s).1 = (workS P J Wl' d p s').1 ∧ (workS P J Wl d p s).2.2 = (workS P J Wl' d p s').2.2 ∧ hitL P J Wl d p s = hitL P J Wl' d p s'
  | 0, _, _, _, _, _, h1, _, h3 => ⟨h1, h3, rfl⟩
  | d + 1, p, s, s', hp, hw, h1, h2, h3 => by
    obtain ⟨a, b, c, e⟩ := stepS_Kq (P := P) (J := J) h1 h2 h3 (hw p (by omega))
    obtain ⟨x, y, z⟩ := workS_Kq (P := P) (J := J) d (p + 1) _ _ (by omega) hw a b c
    refine ⟨x, y, ?_⟩
    show hitS P J Wl p s + hitL P J Wl d (p + 1) (stepS P J Wl p s) = hitS P J Wl' p s' + hitL P J Wl' d (p + 1) (stepS P J Wl' p s')
    rw [e, z]
theorem passA_Kq {P A : Dat} {K K' : Nat → Int} {ro ro' : Option Dat} (hJ : K 2 = K' 2) (hk : Kq K K') (hw : ∀ q, q < 3 → wlN P A K ro (jbs P A K) q = wlN P A K' ro' (jbs P A K) q) : passA P K ro A = passA P K' ro' A ∧ hitN P K ro A = hitN P K' ro' A := by
  have ej : jbs P A K = jbs P A K' := by funext p; unfold jbs; rw [hJ]
  have kk : Kq (K0 K) (K0 K') := by
    unfold K0
    refine ⟨?_, ?_, ?_⟩
    · rw [upK_lo (by decide), upK_lo (by decide), upK_lo (by decide), upK_lo (by decide), upK_lo (by decide), upK_lo (by decide)]; exact hk.1
    · rw [upK_lo (by decide), upK_lo (by decide), upK_lo (by decide), upK_lo (by decide), upK_lo (by decide), upK_lo (by decide)]; exact hk.2.1
    · rw [upK_lo (by decide), upK_lo (by decide), upK_lo (by decide), upK_lo (by decide), upK_lo (by decide), upK_lo (by decide)]; exact hk.2.2
  obtain ⟨x, y, z⟩ := workS_Kq (P := P) (J := jbs P A K) 3 0 (A, K0 K, fun _ => -1) (A, K0 K', fun _ => -1) (by omega) hw rfl kk rfl
  have xa : (passW P K ro A).1 = (passW P K' ro' A).1 := by unfold passW; rw [← ej]; exact x
  have ya : (passW P K ro A).2.2 = (passW P K' ro' A).2.2 := by unfold passW; rw [← ej]; exact y
  refine ⟨?_, ?_⟩
  · unfold passA; dsimp only; rw [xa, ya]
  · unfold hitN; rw [← ej]; exact z
theorem passA_ro {P A : Dat} {K : Nat → Int} {ro : Option Dat} (h : K 3 ≠ -1) : passA P K ro A = passA P K none A ∧ hitN P K ro A = hitN P K none A :=
  passA_Kq rfl ⟨rfl, rfl, rfl⟩ (fun q _ => by unfold wlN wl; rw [if_neg h, if_neg h])
theorem toDo_job {P A : Dat} {p : Int} : ∀ (d j : Nat) (s f : Int), ((f = -1 ∧ s = 0) ∨ (0 ≤ f ∧ 0 < s)) → (0 < toDoL P A p d j s ↔ jobL P A p d j f ≠ -1)
  | 0, j, s, f, h => by show 0 < s ↔ f ≠ -1; omega
  | d + 1, j, s, f, h => by
    unfold toDoL jobL
    refine toDo_job d (j + 1) _ _ ?_
    by_cases ho : opn P A p j = true
    · rw [if_pos ho, ho, Bool.true_and]
      by_cases hf : f = -1
      · rw [if_pos (by simp [hf])]; omega
      · split <;> omega
    · rw [if_neg ho]
      have : opn P A p j = false := by simpa using ho
      rw [this, Bool.false_and, if_neg (by decide)]
      exact h
theorem toDoL_rg {P A : Dat} {p : Int} : ∀ (d j : Nat) (s : Int), s ≤ toDoL P A p d j s ∧ toDoL P A p d j s ≤ s + d
  | 0, j, s => ⟨Int.le_refl _, by show s ≤ _; omega⟩
  | d + 1, j, s => by
    unfold toDoL
    have := toDoL_rg (P := P) (A := A) (p := p) d (j + 1) (if opn P A p j then s + 1 else s)
    split at this <;> (split <;> first | omega | simp_all <;> omega)
/-- the SMITHS who have work, as bits -/
def wk3 (n : Nat) (b : Nat → Bool) : Nat := (if decide (0 < n) && b 0 then 1 else 0) + (if decide (1 < n) && b 1 then 2 else 0) + (if decide (2 < n) && b 2 then 4 else 0)
def hasW (P A : Dat) (p : Nat) : Bool := decide (0 < toDoN P A p)
def wkN (P A : Dat) : Nat := wk3 (P 0 4).toNat (hasW P A)
theorem wk3_step {b : Nat → Bool} {p : Nat} (hp : p < 3) : w32 (wk3 p b : Int) ||| ((1 : Int32) <<< (w32 (p : Int) &&& (31 : Int32))) = w32 ((if b p then wk3 (p + 1) b else wk3 p b ||| 2 ^ p : Nat) : Int) ∧ (b p = false → wk3 (p + 1) b = wk3 p b) := by
  unfold wk3
  rcases (show p = 0 ∨ p = 1 ∨ p = 2 by omega) with rfl | rfl | rfl <;> cases b 0 <;> cases b 1 <;> cases b 2 <;> decide +kernel
theorem wk3_lt {n : Nat} {b : Nat → Bool} (hn : n ≤ 3) : wk3 n b < 2 ^ n := by
  unfold wk3
  rcases (show n = 0 ∨ n = 1 ∨ n = 2 ∨ n = 3 by omega) with rfl | rfl | rfl | rfl <;> cases b 0 <;> cases b 1 <;> cases b 2 <;> decide +kernel
theorem wk3_bit {n p : Nat} {b : Nat → Bool} (hn : n ≤ 3) (hp : p < n) : bitI (wk3 n b : Int) p = b p := by
  unfold wk3
  rcases (show (n = 1 ∧ p = 0) ∨ (n = 2 ∧ p = 0) ∨ (n = 2 ∧ p = 1) ∨ (n = 3 ∧ p = 0) ∨ (n = 3 ∧ p = 1) ∨ (n = 3 ∧ p = 2) by omega) with ⟨rfl, rfl⟩ | ⟨rfl, rfl⟩ | ⟨rfl, rfl⟩ | ⟨rfl, rfl⟩ | ⟨rfl, rfl⟩ | ⟨rfl, rfl⟩ <;> cases b 0 <;> cases b 1 <;> cases b 2 <;> decide +kernel
theorem land8 : ∀ w, w < 8 → ∀ s, s < 8 → (((w32 ((s : Nat) : Int) &&& (w32 ((w : Nat) : Int) ^^^ (-1 : Int32))) = (0 : Int32)) ↔ s &&& w = s) := by decide +kernel
theorem land8b : ∀ w, w < 8 → ∀ s, s < 8 → s &&& w ≤ s ∧ s &&& w ≤ w ∧ (s &&& w) &&& w = s &&& w := by decide +kernel
theorem land8c : ∀ w, w < 8 → ∀ s, s < 8 → ∀ p, p < 3 → bitI ((w : Nat) : Int) p = true → bitI ((s &&& w : Nat) : Int) p = bitI ((s : Nat) : Int) p := by decide +kernel
theorem workers_ok {F c1 : Nat} {σ : Mem} {P A : Dat} (hP : RepP 17 σ P) (hS : RepS c1 σ A) (wP : WfP P) (bA : Bd 1000000000 A) (hF : 100 ≤ F) : m0_workers F c1 σ = some (w32 (wkN P A : Int)) := by
  obtain ⟨bP, ⟨m, hm, hm8⟩, ⟨n4, hn, hn3⟩, -⟩ := wP
  have e4 : gI σ 17 4 = w32 (P 0 4) := hP.at 0 4
  have loop : ∀ (d n p : Nat), p + d = n4 → d < n → m0_workers_4 F c1 σ n (w32 (wk3 p (hasW P A) : Int)) (w32 (p : Int)) = some (w32 (wk3 n4 (hasW P A) : Int)) := by
    intro d
    induction d with
    | zero =>
      intro n p h1 h2
      obtain ⟨n, rfl⟩ : ∃ k, n = k + 1 := ⟨n - 1, by omega⟩
      unfold m0_workers_4
      rw [e4, if_pos (by rw [w_le (by omega) (by omega) (by omega) (by omega)]; omega), show p = n4 by omega]
    | succ d ih =>
      intro n p h1 h2
      obtain ⟨n, rfl⟩ : ∃ k, n = k + 1 := ⟨n - 1, by omega⟩
      have rg := toDoL_rg (P := P) (A := A) (p := (p : Int)) (P 0 5).toNat 0 0
      have ws := wk3_step (b := hasW P A) (show p < 3 by omega)
      unfold m0_workers_4
      rw [e4, if_neg (by rw [w_le (by omega) (by omega) (by omega) (by omega)]; omega), toDo_ok hP hS (bP.mono (by decide)) bA (by omega) hm hm8 hF, Option.bind_some, w_succ]
      have tb : -2147483648 ≤ toDoN P A p ∧ toDoN P A p ≤ 2147483647 := by unfold toDoN; omega
      by_cases h : 0 < toDoN P A p
      · have hb : hasW P A p = true := decide_eq_true h
        rw [if_neg (by rw [wl_0, w_le tb.1 tb.2 (by omega) (by omega)]; omega), ws.1, if_pos hb]
        exact ih n (p + 1) (by omega) (by omega)
      · have hb : hasW P A p = false := decide_eq_false h
        rw [if_pos (by rw [wl_0, w_le tb.1 tb.2 (by omega) (by omega)]; omega), show w32 (wk3 p (hasW P A) : Int) ||| (0 : Int32) = w32 (wk3 p (hasW P A) : Int) from Int32.or_zero, ← ws.2 hb]
        exact ih n (p + 1) (by omega) (by omega)
  unfold m0_workers wkN
  rw [show (P 0 4).toNat = n4 by omega]
  exact loop n4 F 0 (by omega) (by omega)
/-! the turns of a rota -/
def Kr (s : Nat) : Nat → Int := upK Kp 3 (s : Int)
def rHit (P : Dat) (s : Nat) (A : Dat) : Int := hitN P (Kr s) none A
def rNxt (P : Dat) (s : Nat) (A : Dat) : Dat := passA P (Kr s) none A
def rSub (P : Dat) (A : Dat) (s : Nat) : Bool := decide (s < 8) && decide (s &&& wkN P A = s)
def rGood (P : Dat) (n : Nat) (A : Dat) : Prop := ∃ t, WfI P A t ∧ t + n ≤ 9000
theorem hitN_rg {P A : Dat} {K : Nat → Int} {ro : Option Dat} : 0 ≤ hitN P K ro A ∧ hitN P K ro A ≤ 3 := by
  unfold hitN hitL hitL hitL hitL
  have a := hitS_01 (P := P) (J := jbs P A K) (Wl := wlN P A K ro (jbs P A K)) (p := 0) (s := (A, K0 K, fun _ => -1))
  have b := hitS_01 (P := P) (J := jbs P A K) (Wl := wlN P A K ro (jbs P A K)) (p := 0 + 1) (s := stepS P (jbs P A K) (wlN P A K ro (jbs P A K)) 0 (A, K0 K, fun _ => -1))
  have c := hitS_01 (P := P) (J := jbs P A K) (Wl := wlN P A K ro (jbs P A K)) (p := 0 + 1 + 1) (s := stepS P (jbs P A K) (wlN P A K ro (jbs P A K)) (0 + 1) (stepS P (jbs P A K) (wlN P A K ro (jbs P A K)) 0 (A, K0 K, fun _ => -1)))
  omega
theorem Kr_bd {s : Nat} (h : s < 8) : BdK (Kr s) := fun j a b => by
  unfold Kr upK
  split
  · omega
  · exact Kp_bd j a b
theorem Kr2 (s : Nat) : ∀ p : Nat, (p : Int) ≠ Kr s 2 := fun p => by show (p : Int) ≠ -1; omega
theorem rota_red {P A : Dat} (wPl : WfPl P) {s : Nat} (hs : s < 8) : rHit P (s &&& wkN P A) A = rHit P s A ∧ rNxt P (s &&& wkN P A) A = rNxt P s A := by
  obtain ⟨n4, hn, hn3⟩ := wPl.1.2.2.1
  have hw : wkN P A < 8 := by
    have := wk3_lt (n := n4) (b := hasW P A) hn3
    unfold wkN
    rw [show (P 0 4).toNat = n4 by omega]
    have : 2 ^ n4 ≤ 2 ^ 3 := Nat.pow_le_pow_right (by decide) hn3
    omega
  have key : ∀ q, q < 3 → wlN P A (Kr (s &&& wkN P A)) none (jbs P A (Kr (s &&& wkN P A))) q = wlN P A (Kr s) none (jbs P A (Kr (s &&& wkN P A))) q := by
    intro q hq
    unfold wlN
    by_cases hj : jbs P A (Kr (s &&& wkN P A)) q = -1
    · rw [if_pos hj, if_pos hj]
    · rw [if_neg hj, if_neg hj]
      have hj2 : jobN P A q ≠ -1 := by
        unfold jbs at hj
        rwa [if_neg (Kr2 _ q)] at hj
      have hq4 : (q : Int) < P 0 4 := by
        by_cases h : (q : Int) < P 0 4
        · exact h
        · exact absurd (J_ge wPl.1 wPl.2.1 (by omega)) hj
      have ht : 0 < toDoN P A q := (toDo_job _ 0 0 (-1) (Or.inl ⟨rfl, rfl⟩)).2 hj2
      have hb : bitI (wkN P A : Int) q = true := by
        unfold wkN
        rw [show (P 0 4).toNat = n4 by omega, wk3_bit hn3 (by omega)]
        exact decide_eq_true ht
      unfold wl
      have k1 : Kr (s &&& wkN P A) 3 = ((s &&& wkN P A : Nat) : Int) := rfl
      have k2 : Kr s 3 = (s : Int) := rfl
      rw [k1, k2, if_neg (by omega), if_neg (by omega)]
      exact land8c _ hw _ hs q hq hb
  have := passA_Kq (P := P) (A := A) (K := Kr (s &&& wkN P A)) (K' := Kr s) (ro := none) (ro' := none) rfl ⟨rfl, rfl, rfl⟩ key
  exact ⟨this.2, this.1⟩
theorem rota_sr {P : Dat} {n4 : Nat} (wPl : WfPl P) (hn : P 0 4 = (n4 : Int)) (n : Nat) (A : Dat) (acc : Int) (pre : Nat) (st : Int × Nat) (hg : rGood P n A) : srG (2 ^ n4) (rHit P) (rNxt P) (rSub P) 8 n A acc pre st = scan (fun r => (acc + srV (2 ^ n4) (rHit P) (rNxt P) n r A, pre * (2 ^ n4) ^ n + r)) ((2 ^ n4) ^ n) 0 st := by
  obtain ⟨n4', hn', hn3⟩ := wPl.1.2.2.1
  have e4 : n4' = n4 := by omega
  subst e4
  have b8 : 2 ^ n4' ≤ 8 := Nat.pow_le_pow_right (n := 2) (by decide) hn3
  have hw : ∀ A, wkN P A < 2 ^ n4' := fun A => by
    have := wk3_lt (n := n4') (b := hasW P A) hn3
    unfold wkN
    rw [show (P 0 4).toNat = n4' by omega]
    exact this
  refine srG_eq (good := rGood P) (Nat.pow_pos (by decide)) b8 (fun n A s ⟨t, a, b⟩ hs => ⟨t + 1, passA_wf a wPl.1 wPl.2.1 wPl.2.2.1 (Kr2 s), by omega⟩) (fun n A s _ hs => ?_) (fun n A s _ hs hsub => ?_) n A acc pre st hg
  · have h1 := hw A
    unfold rSub at hs
    simp only [Bool.and_eq_true, decide_eq_true_eq] at hs
    have := (land8b (wkN P A) (by omega) s hs.1).2.1
    rw [hs.2] at this
    omega
  · have h1 := hw A
    have h8 : s < 8 := by omega
    have l := land8b (wkN P A) (by omega) s h8
    have ne : s &&& wkN P A ≠ s := fun z => by
      unfold rSub at hsub
      rw [decide_eq_true h8, decide_eq_true z] at hsub
      exact absurd hsub (by decide)
    have r := rota_red (A := A) wPl h8
    refine ⟨s &&& wkN P A, by omega, ?_, r.1, r.2⟩
    unfold rSub
    rw [decide_eq_true (show (s &&& wkN P A) < 8 by omega), decide_eq_true l.2.2]; rfl
/-! the class's search -/
def dgt (B m c i : Nat) : Nat := c / B ^ (m - 1 - i) % B
theorem dgt_lo {B m c s i : Nat} (hs : s < B) (hi : i < m) : dgt B (m + 1) (c * B + s) i = dgt B m c i := by
  unfold dgt
  rw [show m + 1 - 1 - i = (m - 1 - i) + 1 by omega, Nat.pow_succ, Nat.mul_comm (B ^ (m - 1 - i)) B, ← Nat.div_div_eq_div_mul, Nat.mul_comm c B, Nat.mul_add_div (by omega), Nat.div_eq_of_lt hs, Nat.add_zero]
theorem dgt_hi {B m c s : Nat} (hs : s < B) : dgt B (m + 1) (c * B + s) m = s := by
  unfold dgt
  rw [show m + 1 - 1 - m = 0 by omega, Nat.pow_zero, Nat.div_one, Nat.mul_comm c B, Nat.mul_add_mod, Nat.mod_eq_of_lt hs]
def Wr (k c : Nat) : Prop := (40 ≤ c ∧ c ≤ 44) ∨ c = 56 ∨ (58 ≤ c ∧ c ≤ 59) ∨ (61 + 10 * (k + 1) ≤ c ∧ c ≤ 120) ∨ (156 ≤ c ∧ c ≤ 186 ∧ c % 6 = 0)
theorem keepRow_ok {F : Nat} {σ : Mem} (hF : 100 ≤ F) : ∃ σ', m0_keepRow F σ = some σ' ∧ (∀ i, i < 5 → gI σ' 59 i = gI σ 58 i) ∧ Fr (fun c => c = 59) σ σ' := by
  have loop : ∀ (d n k : Nat) (τ : Mem), k + d = 5 → d < n → Fr (fun c => c = 59) σ τ → (∀ i, i < k → gI τ 59 i = gI σ 58 i) → ∃ σ', m0_keepRow_2 F n (w32 (k : Int)) τ = some σ' ∧ (∀ i, i < 5 → gI σ' 59 i = gI σ 58 i) ∧ Fr (fun c => c = 59) σ σ' := by
    intro d
    induction d with
    | zero =>
      intro n k τ h1 h2 f h3
      obtain ⟨n, rfl⟩ : ∃ k, n = k + 1 := ⟨n - 1, by omega⟩
      unfold m0_keepRow_2
      rw [if_pos (by rw [wl_5, w_le (by omega) (by omega) (by omega) (by omega)]; omega)]
      exact ⟨τ, rfl, fun i hi => h3 i (by omega), f⟩
    | succ d ih =>
      intro n k τ h1 h2 f h3
      obtain ⟨n, rfl⟩ : ∃ k, n = k + 1 := ⟨n - 1, by omega⟩
      unfold m0_keepRow_2
      rw [if_neg (by rw [wl_5, w_le (by omega) (by omega) (by omega) (by omega)]; omega), gd_pos (w_inB (by omega) (by omega) (by omega)), gd_pos (w_inB (by omega) (by omega) (by omega)), w_natk (by omega), w_succ]
      refine ih n (k + 1) _ (by omega) (by omega) (f.sI rfl) (fun i hi => ?_)
      by_cases h : i = k
      · rw [h, gI_eq, f.gI (by decide)]
      · rw [gI_nej h]; exact h3 i (by omega)
  exact loop 5 F 0 σ (by omega) (by omega) (Fr.rf _ σ) (fun i hi => by omega)
def CRs (N B k : Nat) (P A : Dat) (st : Int × Nat) (σ : Mem) : Prop := RepP 17 σ P ∧ RepS (61 + 10 * k) σ A ∧ (∃ v, RepC σ (upK Kp 3 v)) ∧ RepRo σ none ∧ gI σ 56 6 = w32 (N : Int) ∧ gI σ 56 7 = w32 st.1 ∧ (0 ≤ st.1 → ∀ i, i < N → gI σ 59 i = w32 (dgt B N st.2 i : Int)) ∧ -1 ≤ st.1 ∧ st.1 ≤ 100
def rG (P : Dat) (B : Nat) := srG B (rHit P) (rNxt P) (rSub P) 8
theorem sets_c {F N n4 : Nat} {P : Dat} (wPl : WfPl P) (hn : P 0 4 = (n4 : Int)) (hN : N ≤ 4) (hF : 1000 ≤ F) : ∀ (n k D t : Nat) (acc : Int) (pre : Nat) (st : Int × Nat) (A : Dat) (σ : Mem), k + n = N → n < D → CRs N (2 ^ n4) k P A st σ → (∀ i, i < k → gI σ 58 i = w32 (dgt (2 ^ n4) k pre i : Int)) → 0 ≤ acc → acc ≤ 3 * k → WfI P A t → t + n ≤ 9000 →
    ∃ σ', m0_chooseSets F D (w32 (k : Int)) (w32 acc) σ = some σ' ∧ CRs N (2 ^ n4) k P A (rG P (2 ^ n4) n A acc pre st) σ' ∧ (∀ i, i < k → gI σ' 58 i = gI σ 58 i) ∧ Fr (Wr k) σ σ' := by
  obtain ⟨n4', hn', hn3⟩ := wPl.1.2.2.1
  have e4 : n4' = n4 := by omega
  subst e4
  have b8 : 2 ^ n4' ≤ 8 := Nat.pow_le_pow_right (n := 2) (by decide) hn3
  intro n
  induction n with
  | zero =>
    intro k D t acc pre st A σ h1 h2 hE hrow ha1 ha2 wI ht
    obtain ⟨D, rfl⟩ : ∃ q, D = q + 1 := ⟨D - 1, by omega⟩
    obtain ⟨c1, c2, c3, c4, c5, c6, c7, c8, c9⟩ := hE
    show ∃ σ', m0_chooseSets_e F (m0_chooseSets F D) (w32 (k : Int)) (w32 acc) σ = some σ' ∧ CRs N (2 ^ n4') k P A (if st.1 < acc then (acc, pre) else st) σ' ∧ (∀ i, i < k → gI σ' 58 i = gI σ 58 i) ∧ Fr (Wr k) σ σ'
    unfold m0_chooseSets_e
    rw [c5, c6, if_neg (by rw [w_lt (by omega) (by omega) (by omega) (by omega)]; omega)]
    by_cases h : st.1 < acc
    · rw [if_neg (by rw [w_le (by omega) (by omega) (by omega) (by omega)]; omega), if_pos h]
      obtain ⟨σ', m, e, f⟩ := keepRow_ok (F := F) (σ := sI σ 56 7 (w32 acc)) (by omega)
      have ff : Fr (Wr k) σ σ' := ((Fr.rf (Wr k) σ).sI (by unfold Wr; omega)).trans (f.mono (fun c z => by unfold Wr; omega))
      have f2 : Fr (fun c => c = 56 ∨ c = 59) σ σ' := ((Fr.rf _ σ).sI (Or.inl rfl)).trans (f.mono (fun c z => Or.inr z))
      dsimp only
      rw [m, Option.bind_some]
      refine ⟨σ', rfl, ⟨c1.fr f2 (fun i hi => by omega), c2.fr f2 (fun i hi => by omega), ⟨_, c3.choose_spec.fr f2 (by omega)⟩, c4.fr f2 (fun c z => by omega), ?_, ?_, fun _ i hi => ?_, by dsimp only; omega, by dsimp only; omega⟩, fun i hi => by rw [f2.gI (show ¬ ((58 : Nat) = 56 ∨ (58 : Nat) = 59) by omega)], ff⟩
      · rw [f.gI (by decide), gI_nej (by decide)]; exact c5
      · rw [f.gI (by decide), gI_eq]
      · rw [e i (by omega), gI_nec (by decide), hrow i (by omega), show k = N by omega]
    · rw [if_pos (by rw [w_le (by omega) (by omega) (by omega) (by omega)]; omega), if_neg h]
      exact ⟨σ, rfl, ⟨c1, c2, c3, c4, c5, c6, c7, c8, c9⟩, fun _ _ => rfl, Fr.rf _ σ⟩
  | succ n ih =>
    intro k D t acc pre st A σ h1 h2 hE hrow ha1 ha2 wI ht
    obtain ⟨D, rfl⟩ : ∃ q, D = q + 1 := ⟨D - 1, by omega⟩
    have hw : wkN P A < 2 ^ n4' := by
      have := wk3_lt (n := n4') (b := hasW P A) hn3
      unfold wkN
      rw [show (P 0 4).toNat = n4' by omega]
      exact this
    have loop : ∀ (d n' s : Nat) (st : Int × Nat) (σ : Mem), s + d = 8 → d < n' → CRs N (2 ^ n4') k P A st σ → (∀ i, i < k → gI σ 58 i = w32 (dgt (2 ^ n4') k pre i : Int)) → ∃ σ', m0_chooseSets_40 F (m0_chooseSets F D) (w32 (k : Int)) (w32 acc) n' (w32 (wkN P A : Int)) (w32 (s : Int)) σ = some σ' ∧ CRs N (2 ^ n4') k P A (srL (rSub P A) (fun s st => rG P (2 ^ n4') n (rNxt P s A) (acc + rHit P s A) (pre * 2 ^ n4' + s) st) d s st) σ' ∧ (∀ i, i < k → gI σ' 58 i = gI σ 58 i) ∧ Fr (Wr k) σ σ' := by
      intro d
      induction d with
      | zero =>
        intro n' s st σ h3 h4 hE hrow
        obtain ⟨n', rfl⟩ : ∃ q, n' = q + 1 := ⟨n' - 1, by omega⟩
        unfold m0_chooseSets_40
        rw [if_pos (by rw [wl_8, w_le (by omega) (by omega) (by omega) (by omega)]; omega)]
        exact ⟨σ, rfl, hE, fun _ _ => rfl, Fr.rf _ σ⟩
      | succ d ihd =>
        intro n' s st σ h3 h4 hE hrow
        obtain ⟨n', rfl⟩ : ∃ q, n' = q + 1 := ⟨n' - 1, by omega⟩
        have l8 := land8 (wkN P A) (by omega) s (by omega)
        unfold m0_chooseSets_40
        rw [if_neg (by rw [wl_8, w_le (by omega) (by omega) (by omega) (by omega)]; omega)]
        show ∃ σ', _ = some σ' ∧ CRs N (2 ^ n4') k P A (srL (rSub P A) _ d (s + 1) (if rSub P A s then rG P (2 ^ n4') n (rNxt P s A) (acc + rHit P s A) (pre * 2 ^ n4' + s) st else st)) σ' ∧ _ ∧ _
        by_cases h : s &&& wkN P A = s
        · have hsub : rSub P A s = true := by
            unfold rSub
            rw [decide_eq_true (show s < 8 by omega), decide_eq_true h]; rfl
          have hsB : s < 2 ^ n4' := by
            have := (land8b (wkN P A) (by omega) s (by omega)).2.1
            omega
          rw [if_pos (l8.2 h), if_pos hsub, gd_pos (by rw [w_succ]; exact w_inB (by omega) (by omega) (by omega)), gd_pos (w_inB (by omega) (by omega) (by omega)), w_succ, w_natk (by omega), w_natk (by omega)]
          obtain ⟨c1, c2, ⟨v, c3⟩, c4, c5, c6, c7, c8, c9⟩ := hE
          obtain ⟨σ1, m1, r1⟩ := cpS_ok (F := F) (c0 := 61 + 10 * (k + 1)) (c1 := 61 + 10 * k) (by omega) (by omega) c2
          have f1 := f7_copyFrom m1
          have f1' : Fr (fun c => 61 + 10 * (k + 1) ≤ c ∧ c ≤ 61 + 10 * (k + 1) + 9) σ (sI σ1 40 3 (w32 (s : Int))) ∨ True := Or.inr trivial
          have fa : Fr (fun c => c = 40 ∨ (61 + 10 * (k + 1) ≤ c ∧ c ≤ 61 + 10 * (k + 1) + 9)) σ (sI σ1 40 3 (w32 (s : Int))) := (f1.mono (fun c z => by unfold Wm7_copyFrom at z; omega)).sI (Or.inl rfl)
          have hCE : CE (61 + 10 * (k + 1)) (Kr s) none P A (sI σ1 40 3 (w32 (s : Int))) := by
            refine ⟨c1.fr fa (fun i hi => by omega), r1.ne (Or.inl (by omega)), fun j hj => ?_, c4.fr fa (fun c z => by omega)⟩
            unfold Kr
            by_cases h3 : j = 3
            · rw [h3, gI_eq]; rfl
            · rw [gI_nej h3, f1.gI (by unfold Wm7_copyFrom; omega), c3 j hj]
              unfold upK
              rw [if_neg h3, if_neg h3]
          obtain ⟨σ2, m2, e2, k2, -⟩ := ce_go (F := F) hCE wPl.1 (wI.bd (by omega)) (Kr_bd (by omega)) (show StC (61 + 10 * (k + 1)) by unfold StC; omega) hF
          have f2 := f2_go m2
          have fb : Fr (fun c => (40 ≤ c ∧ c ≤ 44) ∨ (61 + 10 * (k + 1) ≤ c ∧ c ≤ 61 + 10 * (k + 1) + 9) ∨ (156 ≤ c ∧ c ≤ 186 ∧ c % 6 = 0)) σ σ2 := (fa.mono (fun c z => by omega)).trans (f2.mono (fun c z => by unfold Wm2_go at z; omega))
          have fc : Fr (fun c => (40 ≤ c ∧ c ≤ 44) ∨ c = 58 ∨ (61 + 10 * (k + 1) ≤ c ∧ c ≤ 61 + 10 * (k + 1) + 9) ∨ (156 ≤ c ∧ c ≤ 186 ∧ c % 6 = 0)) σ (sI σ2 58 k (w32 (s : Int))) := (fb.mono (fun c z => by omega)).sI (by omega)
          have hit11 : gI (sI σ2 58 k (w32 (s : Int))) 40 11 = w32 (rHit P s A) := by
            rw [gI_nec (by decide), k2 11 (by decide), passW_11]; rfl
          have f3 : Fr (fun c => c = 58) σ2 (sI σ2 58 k (w32 (s : Int))) := (Fr.rf _ σ2).sI rfl
          have hE2 : CRs N (2 ^ n4') (k + 1) P (rNxt P s A) st (sI σ2 58 k (w32 (s : Int))) :=
            ⟨e2.1.fr f3 (fun i hi => by omega), e2.2.1.fr f3 (fun i hi => by omega), ⟨(s : Int), e2.2.2.1.fr f3 (by omega)⟩, e2.2.2.2.fr f3 (fun c z => by omega), by rw [fc.gI (by omega)]; exact c5, by rw [fc.gI (by omega)]; exact c6, fun h0 i hi => by rw [fc.gI (by omega)]; exact c7 h0 i hi, c8, c9⟩
          have hrow2 : ∀ i, i < k + 1 → gI (sI σ2 58 k (w32 (s : Int))) 58 i = w32 (dgt (2 ^ n4') (k + 1) (pre * 2 ^ n4' + s) i : Int) := fun i hi => by
            by_cases hik : i = k
            · rw [hik, gI_eq, dgt_hi hsB]
            · rw [gI_nej hik, fb.gI (by omega), hrow i (by omega), dgt_lo hsB (by omega)]
          have hr3 : 0 ≤ rHit P s A ∧ rHit P s A ≤ 3 := hitN_rg (P := P) (A := A) (K := Kr s) (ro := none)
          have hr4 : acc + rHit P s A ≤ 3 * ((k + 1 : Nat) : Int) := by omega
          obtain ⟨σ5, m5, e5, r5, f5⟩ := ih (k + 1) D (t + 1) (acc + rHit P s A) (pre * 2 ^ n4' + s) st (rNxt P s A) _ (by omega) (by omega) hE2 hrow2 (by omega) hr4 (passA_wf wI wPl.1 wPl.2.1 wPl.2.2.1 (Kr2 s)) (by omega)
          rw [m1, Option.bind_some]
          dsimp only
          rw [m2, Option.bind_some, gd_pos (w_inB (by omega) (by omega) (by omega)), hit11, w_add, m5, Option.bind_some, w_succ]
          have fd : Fr (Wr k) σ σ5 := (fc.mono (fun c z => by unfold Wr; omega)).trans (f5.mono (fun c z => by unfold Wr at z ⊢; omega))
          have hE5 : CRs N (2 ^ n4') k P A (rG P (2 ^ n4') n (rNxt P s A) (acc + rHit P s A) (pre * 2 ^ n4' + s) st) σ5 :=
            ⟨e5.1, c2.fr fd (fun i hi => by unfold Wr; omega), e5.2.2⟩
          have row5 : ∀ i, i < k → gI σ5 58 i = gI σ 58 i := fun i hi => by rw [r5 i (by omega), gI_nej (by omega), fb.gI (by omega)]
          obtain ⟨σ6, m6, e6, r6, f6⟩ := ihd n' (s + 1) _ σ5 (by omega) (by omega) hE5 (fun i hi => by rw [row5 i hi]; exact hrow i hi)
          exact ⟨σ6, m6, e6, fun i hi => by rw [r6 i hi, row5 i hi], fd.trans f6⟩
        · have hsub : ¬ rSub P A s = true := fun z => by
            unfold rSub at z
            simp only [Bool.and_eq_true, decide_eq_true_eq] at z
            exact h z.2
          rw [if_neg (fun z => h (l8.1 z)), if_neg hsub, w_succ]
          exact ihd n' (s + 1) st σ (by omega) (by omega) hE hrow
    show ∃ σ', m0_chooseSets_e F (m0_chooseSets F D) (w32 (k : Int)) (w32 acc) σ = some σ' ∧ CRs N (2 ^ n4') k P A (srL (rSub P A) (fun s st => rG P (2 ^ n4') n (rNxt P s A) (acc + rHit P s A) (pre * 2 ^ n4' + s) st) 8 0 st) σ' ∧ (∀ i, i < k → gI σ' 58 i = gI σ 58 i) ∧ Fr (Wr k) σ σ'
    unfold m0_chooseSets_e
    rw [hE.2.2.2.2.1, if_pos (by rw [w_lt (by omega) (by omega) (by omega) (by omega)]; omega), gd_pos (w_inB (by omega) (by omega) (by omega)), w_natk (by omega), workers_ok hE.1 hE.2.1 wPl.1 ((wI.bd (by omega)).mono (by decide)) (by omega), Option.bind_some]
    exact loop 8 F 0 st σ (by omega) (by omega) hE hrow
/-! the reference's search -/
theorem w_divN {a b : Nat} (ha : a ≤ 2147483647) (hb : b ≤ 2147483647) : w32 (a : Int) / w32 (b : Int) = w32 ((a / b : Nat) : Int) := by
  have h := Int32.ofInt_tdiv (a := (a : Int)) (b := (b : Int)) (by show -2147483648 ≤ (a : Int); omega) (by show (a : Int) ≤ 2147483647; omega) (by show -2147483648 ≤ (b : Int); omega) (by show (b : Int) ≤ 2147483647; omega)
  show Int32.ofInt a / Int32.ofInt b = Int32.ofInt ((a / b : Nat) : Int)
  rw [← h, Int.ofNat_tdiv]
theorem w_remN {a b : Nat} (ha : a ≤ 2147483647) (hb : b ≤ 2147483647) : remI (w32 (a : Int)) (w32 (b : Int)) = w32 ((a % b : Nat) : Int) := by
  unfold remI
  rw [w_divN ha hb, w_mul, w_sub]
  congr 1
  have := Nat.div_add_mod a b
  rw [Nat.mul_comm] at this
  have e : ((a / b : Nat) : Int) * (b : Int) = ((a / b * b : Nat) : Int) := by rw [Int.natCast_mul]
  rw [e]
  omega
theorem power_r {F k n4 : Nat} {σ : Mem} (e3 : gI σ 493 3 = w32 (n4 : Int)) (hk : k ≤ 4) (hn3 : n4 ≤ 3) (hF : 100 ≤ F) : m12_power F (w32 (k : Int)) σ = some (w32 (((2 ^ n4) ^ k : Nat) : Int)) := by
  have hkn : k * n4 ≤ 12 := Nat.mul_le_mul hk hn3
  have loop : ∀ (d n j : Nat) (x : Nat), j + d = k * n4 → d < n → m12_power_4 F (w32 (k : Int)) σ n (w32 (x : Int)) (w32 (j : Int)) = some (w32 ((x * 2 ^ d : Nat) : Int)) := by
    intro d
    induction d with
    | zero =>
      intro n j x h1 h2
      obtain ⟨n, rfl⟩ : ∃ k, n = k + 1 := ⟨n - 1, by omega⟩
      unfold m12_power_4
      rw [gd_pos (by decide), show (3 : Int32).toNatClampNeg = 3 from rfl, e3, w_mul, show (k : Int) * (n4 : Int) = ((k * n4 : Nat) : Int) from (Int.natCast_mul _ _).symm, if_pos (by rw [w_le (by omega) (by omega) (by omega) (by omega)]; omega), Nat.pow_zero, Nat.mul_one]
    | succ d ih =>
      intro n j x h1 h2
      obtain ⟨n, rfl⟩ : ∃ k, n = k + 1 := ⟨n - 1, by omega⟩
      unfold m12_power_4
      rw [gd_pos (by decide), show (3 : Int32).toNatClampNeg = 3 from rfl, e3, w_mul, show (k : Int) * (n4 : Int) = ((k * n4 : Nat) : Int) from (Int.natCast_mul _ _).symm, if_neg (by rw [w_le (by omega) (by omega) (by omega) (by omega)]; omega), wl_2, w_mul, w_succ, show (x : Int) * 2 = ((x * 2 : Nat) : Int) from (Int.natCast_mul _ _).symm]
      rw [ih n (j + 1) (x * 2) (by omega) (by omega), Nat.pow_succ, Nat.mul_assoc, Nat.mul_comm 2 (2 ^ d)]
  unfold m12_power
  have := loop (k * n4) F 0 1 (by omega) (by omega)
  rw [Nat.one_mul, Nat.mul_comm k n4, Nat.pow_mul] at this
  exact this
theorem pw8 {n4 k : Nat} (hn3 : n4 ≤ 3) (hk : k ≤ 4) : (2 ^ n4) ^ k ≤ 4096 := by
  rw [← Nat.pow_mul]
  exact Nat.pow_le_pow_right (n := 2) (by decide) (Nat.mul_le_mul hn3 hk)
theorem setIn_r {F n i c n4 : Nat} {σ : Mem} (e3 : gI σ 493 3 = w32 (n4 : Int)) (hi : i < n) (hn : n ≤ 4) (hc : c ≤ 4096) (hn3 : n4 ≤ 3) (hF : 100 ≤ F) : m12_setIn F (w32 (c : Int)) (w32 (n : Int)) (w32 (i : Int)) σ = some (w32 (dgt (2 ^ n4) n c i : Int)) := by
  have q1 : w32 (n : Int) - (1 : Int32) - w32 (i : Int) = w32 ((n - 1 - i : Nat) : Int) := by rw [wl_1, w_sub, w_sub]; congr 1; omega
  have p1 := pw8 (n4 := n4) (k := n - 1 - i) hn3 (by omega)
  have p2 := pw8 (n4 := n4) (k := 1) hn3 (by omega)
  have p3 : 0 < (2 ^ n4) ^ (n - 1 - i) := Nat.pow_pos (Nat.pow_pos (by decide))
  have p4 : 0 < (2 ^ n4) ^ 1 := Nat.pow_pos (Nat.pow_pos (by decide))
  have hd : c / (2 ^ n4) ^ (n - 1 - i) ≤ c := Nat.div_le_self _ _
  unfold m12_setIn
  rw [q1, power_r e3 (by omega) hn3 hF, Option.bind_some, show (1 : Int32) = w32 ((1 : Nat) : Int) from rfl, power_r e3 (by omega) hn3 hF, Option.bind_some, gd_pos (by show ¬ w32 _ = w32 0; rw [w_eq (by omega) (by omega) (by omega) (by omega)]; omega), gd_pos (by show ¬ w32 _ = w32 0; rw [w_eq (by omega) (by omega) (by omega) (by omega)]; omega), w_divN (by omega) (by omega), w_remN (by omega) (by omega)]
  unfold dgt
  rw [Nat.pow_one]
theorem RE.mode3 {v : Int} {ro : Option Dat} {P A : Dat} {σ : Mem} (h : RE (upK Kp 3 v) ro P A σ) (s : Int) : RE (upK Kp 3 s) ro P A (sI σ 483 24 (w32 s)) := by
  obtain ⟨x1, ⟨y1, y2, y3, y4, y5⟩, z1⟩ := h
  refine ⟨x1.same (gI_ne _ _ _ (by decide)) (gI_nej (by decide)), ⟨?_, ?_, ?_, ?_, ?_⟩, ?_⟩
  · rw [gI_nej (by decide)]; exact y1
  · rw [gI_eq]; rfl
  · rw [gI_nej (by decide)]; exact y3
  · rw [gI_nej (by decide)]; exact y4
  · rw [gI_nej (by decide)]; exact y5
  · exact z1.fr (V := fun j => j = 24) ((Fr.rf (fun c => c = 483) σ).sI rfl) (fun j hj => gI_nej hj) (by decide) (by decide) (by decide) (by decide)
theorem up_Kp3 : upK Kp 3 (-1) = Kp := by
  funext j
  unfold upK
  split
  · rename_i h; rw [h]; rfl
  · rfl
theorem blowsBy_l {F n c n4 : Nat} {P : Dat} {ro : Option Dat} {σ0 : Mem} (wPl : WfPl P) (hn4 : P 0 4 = (n4 : Int)) (hn : n ≤ 4) (hc : c ≤ 4096) (hF : 1000 ≤ F) : ∀ (d n' i t : Nat) (acc : Int) (σ : Mem) (A : Dat), i + d = n → d < n' → (∃ v, RE (upK Kp 3 v) ro P A σ) → WfI P A t → t + d ≤ 9000 → TrV 24 σ0 σ → ∃ σ', m12_blowsBy_9 F (w32 (c : Int)) (w32 (n : Int)) n' (w32 acc) (w32 (i : Int)) σ = Option.bind (m12_laysBack F (sI σ' 483 24 (-1 : Int32))) (fun p => some (w32 (acc + srV (2 ^ n4) (rHit P) (rNxt P) d c A), p)) ∧ TrV 24 σ0 (sI σ' 483 24 (-1 : Int32)) := by
  obtain ⟨n4', hn', hn3⟩ := wPl.1.2.2.1
  have e4 : n4' = n4 := by omega
  subst e4
  have b8 : 2 ^ n4' ≤ 8 := Nat.pow_le_pow_right (n := 2) (by decide) hn3
  intro d
  induction d with
  | zero =>
    intro n' i t acc σ A h1 h2 hE wI ht tr
    obtain ⟨n', rfl⟩ : ∃ k, n' = k + 1 := ⟨n' - 1, by omega⟩
    unfold m12_blowsBy_9
    rw [if_pos (by rw [w_le (by omega) (by omega) (by omega) (by omega)]; omega)]
    refine ⟨σ, ?_, tr.set⟩
    show _ = Option.bind (m12_laysBack F (sI σ 483 24 (-1 : Int32))) (fun p => some (w32 (acc + 0), p))
    rw [Int.add_zero]
  | succ d ih =>
    intro n' i t acc σ A h1 h2 hE wI ht tr
    obtain ⟨n', rfl⟩ : ∃ k, n' = k + 1 := ⟨n' - 1, by omega⟩
    obtain ⟨v, hE⟩ := hE
    have e3 : gI σ 493 3 = w32 (n4' : Int) := by rw [hE.1.2.1 3 (by decide), hn']
    have es : dgt (2 ^ n4') n c i = c / (2 ^ n4') ^ d % 2 ^ n4' := by unfold dgt; rw [show n - 1 - i = d by omega]
    have hs : dgt (2 ^ n4') n c i < 2 ^ n4' := by unfold dgt; exact Nat.mod_lt _ (Nat.pow_pos (by decide))
    unfold m12_blowsBy_9
    rw [if_neg (by rw [w_le (by omega) (by omega) (by omega) (by omega)]; omega), setIn_r e3 (by omega) hn hc hn3 (by omega), Option.bind_some]
    obtain ⟨σ1, m, e, -, -, tl, f, sl⟩ := re_step (F := F) (K := Kr (dgt (2 ^ n4') n c i)) (hE.mode3 _) wPl wI (by omega) (Kr_bd (by omega)) (Kr2 _) (show -1 ≤ ((dgt (2 ^ n4') n c i : Nat) : Int) by omega) rfl hF
    have pr := passA_ro (P := P) (A := A) (K := Kr (dgt (2 ^ n4') n c i)) (ro := ro) (show ((dgt (2 ^ n4') n c i : Nat) : Int) ≠ -1 by omega)
    rw [pr.1] at e
    rw [pr.2] at m
    dsimp only
    rw [m, Option.bind_some]
    dsimp only
    rw [w_add, w_succ]
    obtain ⟨σ2, m2, tr2⟩ := ih n' (i + 1) (t + 1) (acc + hitN P (Kr (dgt (2 ^ n4') n c i)) none A) σ1 _ (by omega) (by omega) ⟨_, e⟩ (passA_wf wI wPl.1 wPl.2.1 wPl.2.2.1 (Kr2 _)) (by omega) (tr.set.pass tl f sl)
    refine ⟨σ2, ?_, tr2⟩
    rw [m2]
    show _ = Option.bind (m12_laysBack F (sI σ2 483 24 (-1 : Int32))) (fun p => some (w32 (acc + (rHit P (c / (2 ^ n4') ^ d % 2 ^ n4') A + srV (2 ^ n4') (rHit P) (rNxt P) d c (rNxt P (c / (2 ^ n4') ^ d % 2 ^ n4') A))), p))
    rw [← es, ← Int.add_assoc]
    rfl
theorem blowsBy_r {F t n c n4 : Nat} {S : Ab} {σ : Mem} (hC : CInv S σ) (hR : RInv S σ) (wf : Wf t S) (ht : t ≤ 600) (hn4 : wP (sW S) 0 4 = (n4 : Int)) (hn : n ≤ 4) (hc : c ≤ 4096) (hF : 1000 ≤ F) : ∃ σ', m12_blowsBy F (w32 (c : Int)) (w32 (n : Int)) σ = some (w32 (srV (2 ^ n4) (rHit (wP (sW S))) (rNxt (wP (sW S))) n c (wA (sW S))), σ') ∧ CInv S σ' ∧ RInv S σ' := by
  obtain ⟨τ1, m1, a1, b1, tr1, s1, -⟩ := keepG (F := F) (σ := σ) (by omega)
  have hE := (hR.E wf).keep wf.1.2.1.2.1 a1 b1 s1 tr1.2.2.1
  obtain ⟨τ2, m2, tr2⟩ := blowsBy_l (F := F) (n := n) (c := c) (n4 := n4) (ro := roOf S) wf.1.1 hn4 hn hc hF n F 0 t 0 τ1 (wA (sW S)) (by omega) (by omega) ⟨-1, by rw [up_Kp3]; exact hE⟩ wf.1.2.1.1 (by omega) tr1.toV
  obtain ⟨τ3, m3, e1, e2, tr3, o1, o2, o3⟩ := backV (F := F) tr2 (by omega)
  refine ⟨τ3, ?_, ref_q hC wf tr3.2.2.1 (fun c z => by unfold Wq at z; omega), hR.q wf e1 tr3.2.2.1 (fun j hj => ?_)⟩
  · unfold m12_blowsBy
    rw [m1, Option.bind_some]
    have m2' : m12_blowsBy_9 F (w32 (c : Int)) (w32 (n : Int)) F (0 : Int32) (0 : Int32) τ1 = _ := m2
    rw [m2', m3, Option.bind_some, Int.zero_add]
  · by_cases h27 : j = 27
    · rw [h27, e2, hR.2.1.2.2.2.2.2.2.1]
    · by_cases h24 : j = 24
      · rw [h24, o2 24 (by decide), gI_eq, hR.2.1.2.2.2.1]; rfl
      · exact tr3.2.2.2 j (by unfold Vq; omega)
def rx (st : Int × Nat) : Int := if st.1 < 0 then -1 else (st.2 : Int)
def ry (st : Int × Nat) : Int := if st.1 < 0 then 0 else st.1
def rAns (B n : Nat) (w : Int) (st : Int × Nat) : Int := if w = 0 then st.1 else if w ≤ n then (dgt B n st.2 (w.toNat - 1) : Int) else -2
theorem rota_l {F t n n4 : Nat} {w : Int} {S : Ab} (wf : Wf t S) (ht : t ≤ 600) (hn4 : wP (sW S) 0 4 = (n4 : Int)) (hn : n ≤ 4) (hw : 0 ≤ w ∧ w ≤ 4) (hF : 1000 ≤ F) : ∀ (d n' c : Nat) (st : Int × Nat) (σ : Mem), c + d = (2 ^ n4) ^ n → d < n' → CInv S σ → RInv S σ → -1 ≤ st.1 → st.1 ≤ 100 → st.2 ≤ 4096 → 0 ≤ (scan (fun r => (srV (2 ^ n4) (rHit (wP (sW S))) (rNxt (wP (sW S))) n r (wA (sW S)), r)) d c st).1 →
    ∃ σ', m12_rota_41 F (w32 (n : Int)) (w32 w) n' (w32 (rx st)) (w32 (ry st)) (w32 (c : Int)) σ = some (w32 (rAns (2 ^ n4) n w (scan (fun r => (srV (2 ^ n4) (rHit (wP (sW S))) (rNxt (wP (sW S))) n r (wA (sW S)), r)) d c st)), σ') ∧ CInv S σ' ∧ RInv S σ' := by
  obtain ⟨n4', hn', hn3⟩ := wf.1.1.1.2.2.1
  have e4 : n4' = n4 := by omega
  subst e4
  have pb := pw8 (n4 := n4') (k := n) hn3 hn
  intro d
  induction d with
  | zero =>
    intro n' c st σ h1 h2 hC hR s1 s2 s3 hpos
    obtain ⟨n', rfl⟩ : ∃ k, n' = k + 1 := ⟨n' - 1, by omega⟩
    have e3 : gI σ 493 3 = w32 (n4' : Int) := by rw [(hR.E wf).1.2.1 3 (by decide), hn']
    have hpos : 0 ≤ st.1 := hpos
    refine ⟨σ, ?_, hC, hR⟩
    show m12_rota_41 F (w32 (n : Int)) (w32 w) (n' + 1) (w32 (rx st)) (w32 (ry st)) (w32 (c : Int)) σ = some (w32 (rAns (2 ^ n4') n w st), σ)
    unfold m12_rota_41 rAns rx ry
    rw [power_r e3 hn hn3 (by omega), Option.bind_some, if_pos (by rw [w_le (by omega) (by omega) (by omega) (by omega)]; omega), if_neg (show ¬ st.1 < 0 by omega), if_neg (show ¬ st.1 < 0 by omega)]
    by_cases h0 : w = 0
    · rw [if_pos (by rw [h0]; rfl), if_pos h0]
    · rw [if_neg (by rw [wl_0, w_eq (by omega) (by omega) (by omega) (by omega)]; exact h0), if_neg h0]
      by_cases hwn : w ≤ n
      · rw [if_pos (by rw [w_le (by omega) (by omega) (by omega) (by omega)]; exact hwn), if_pos hwn, show w32 w - (1 : Int32) = w32 ((w.toNat - 1 : Nat) : Int) by rw [wl_1, w_sub]; congr 1; omega, setIn_r e3 (by omega) hn s3 hn3 (by omega), Option.bind_some]
      · rw [if_neg (by rw [w_le (by omega) (by omega) (by omega) (by omega)]; exact hwn), if_neg hwn]; rfl
  | succ d ih =>
    intro n' c st σ h1 h2 hC hR s1 s2 s3 hpos
    obtain ⟨n', rfl⟩ : ∃ k, n' = k + 1 := ⟨n' - 1, by omega⟩
    have e3 : gI σ 493 3 = w32 (n4' : Int) := by rw [(hR.E wf).1.2.1 3 (by decide), hn']
    obtain ⟨σ1, m, hC1, hR1⟩ := blowsBy_r (F := F) (n := n) (c := c) hC hR wf ht hn4 hn (by omega) hF
    have vr := srV_rg (B := 2 ^ n4') (hit := rHit (wP (sW S))) (nxt := rNxt (wP (sW S))) (fun s A => hitN_rg) n c (wA (sW S))
    have e : scan (fun r => (srV (2 ^ n4') (rHit (wP (sW S))) (rNxt (wP (sW S))) n r (wA (sW S)), r)) (d + 1) c st = scan (fun r => (srV (2 ^ n4') (rHit (wP (sW S))) (rNxt (wP (sW S))) n r (wA (sW S)), r)) d (c + 1) (if st.1 < srV (2 ^ n4') (rHit (wP (sW S))) (rNxt (wP (sW S))) n c (wA (sW S)) then (srV (2 ^ n4') (rHit (wP (sW S))) (rNxt (wP (sW S))) n c (wA (sW S)), c) else st) := rfl
    rw [e] at hpos ⊢
    unfold m12_rota_41
    rw [power_r e3 hn hn3 (by omega), Option.bind_some, if_neg (by rw [w_le (by omega) (by omega) (by omega) (by omega)]; omega), m, Option.bind_some]
    dsimp only
    rw [w_succ]
    by_cases hlt : st.1 < srV (2 ^ n4') (rHit (wP (sW S))) (rNxt (wP (sW S))) n c (wA (sW S))
    · rw [if_pos hlt] at hpos ⊢
      have step := ih n' (c + 1) (srV (2 ^ n4') (rHit (wP (sW S))) (rNxt (wP (sW S))) n c (wA (sW S)), c) σ1 (by omega) (by omega) hC1 hR1 (by dsimp only; omega) (by dsimp only; omega) (by dsimp only; omega) hpos
      have x1 : rx (srV (2 ^ n4') (rHit (wP (sW S))) (rNxt (wP (sW S))) n c (wA (sW S)), c) = (c : Int) := by unfold rx; rw [if_neg (by dsimp only; omega)]
      have y1 : ry (srV (2 ^ n4') (rHit (wP (sW S))) (rNxt (wP (sW S))) n c (wA (sW S)), c) = srV (2 ^ n4') (rHit (wP (sW S))) (rNxt (wP (sW S))) n c (wA (sW S)) := by unfold ry; rw [if_neg (by dsimp only; omega)]
      rw [x1, y1] at step
      by_cases h0 : st.1 < 0
      · rw [if_pos (by unfold rx; rw [if_pos h0]; decide)]
        exact step
      · have rx0 : rx st = (st.2 : Int) := by unfold rx; rw [if_neg h0]
        have ry0 : ry st = st.1 := by unfold ry; rw [if_neg h0]
        rw [if_neg (by rw [rx0, wl_0, w_lt (by omega) (by omega) (by omega) (by omega)]; omega), if_pos (by rw [ry0, w_lt (by omega) (by omega) (by omega) (by omega)]; omega)]
        exact step
    · rw [if_neg hlt] at hpos ⊢
      have step := ih n' (c + 1) st σ1 (by omega) (by omega) hC1 hR1 s1 s2 s3 hpos
      have h0 : ¬ st.1 < 0 := by omega
      have rx0 : rx st = (st.2 : Int) := by unfold rx; rw [if_neg h0]
      have ry0 : ry st = st.1 := by unfold ry; rw [if_neg h0]
      rw [if_neg (by rw [rx0, wl_0, w_lt (by omega) (by omega) (by omega) (by omega)]; omega), if_neg (by rw [ry0, w_lt (by omega) (by omega) (by omega) (by omega)]; omega)]
      exact step
theorem rota_q {F t : Nat} {S : Ab} {σ : Mem} (hC : CInv S σ) (hR : RInv S σ) (wf : Wf t S) (ht : t ≤ 600) (hF : 10000 ≤ F) (x y : Int32) : Ans S (m11_rota F x y σ) (m12_rota F x y) := by
  obtain ⟨a, rfl, a1, a2⟩ := arg x
  obtain ⟨b, rfl, b1, b2⟩ := arg y
  have wPl := wf.1.1
  have wI := wf.1.2.1.1
  have w1 := wPl.1
  obtain ⟨bP, -, ⟨n4, hn, hn3⟩, -⟩ := w1
  have h17 : RepP 17 σ (wP (sW S)) := hC.1.1
  have e0 : gI σ 17 0 = w32 (wP (sW S) 0 0) := h17.at 0 0
  have hE := hR.E wf
  have h01 := wPl.2.2.2.1
  have inA : ∀ τ, m12_in F (w32 a).toInt64 (1 : Int64) (4 : Int64) τ = some (if 1 ≤ a ∧ a ≤ 4 then (1 : Int32) else 0) := fun τ => in_r rfl rfl a1 a2 (by decide) (by decide)
  have inB' : ∀ τ, m12_in F (w32 b).toInt64 (0 : Int64) (4 : Int64) τ = some (if 0 ≤ b ∧ b ≤ 4 then (1 : Int32) else 0) := fun τ => in_r rfl rfl b1 b2 (by decide) (by decide)
  have q0 : (w32 (wP (sW S) 0 0) = (0 : Int32)) = (wP (sW S) 0 0 = 0) := by rw [wl_0, w_eq (by omega) (by omega) (by omega) (by omega)]
  have q1 : (w32 a < (1 : Int32)) = (a < 1) := by rw [wl_1, w_lt (by omega) (by omega) (by omega) (by omega)]
  have q2 : ((4 : Int32) < w32 a) = (4 < a) := by rw [wl_4, w_lt (by omega) (by omega) (by omega) (by omega)]
  have q3 : (w32 b < (0 : Int32)) = (b < 0) := by rw [wl_0, w_lt (by omega) (by omega) (by omega) (by omega)]
  have q4 : (w32 b ≤ (4 : Int32)) = (b ≤ 4) := by rw [wl_4, w_le (by omega) (by omega) (by omega) (by omega)]
  have q5 : (w32 b ≤ w32 a) = (b ≤ a) := by rw [w_le (by omega) (by omega) (by omega) (by omega)]
  by_cases ok : wP (sW S) 0 0 = 1 ∧ (1 ≤ a ∧ a ≤ 4) ∧ (0 ≤ b ∧ b ≤ 4)
  · obtain ⟨o0, oa, ob⟩ := ok
    obtain ⟨n, rfl⟩ : ∃ p : Nat, a = p := ⟨a.toNat, by omega⟩
    have hg : rGood (wP (sW S)) n (wA (sW S)) := ⟨t, wI, by omega⟩
    have pos : 0 < (2 ^ n4) ^ n := Nat.pow_pos (Nat.pow_pos (by decide))
    have pb := pw8 (n4 := n4) (k := n) hn3 (by omega)
    have eG : rG (wP (sW S)) (2 ^ n4) n (wA (sW S)) 0 0 (-1, 0) = scan (fun r => (srV (2 ^ n4) (rHit (wP (sW S))) (rNxt (wP (sW S))) n r (wA (sW S)), r)) ((2 ^ n4) ^ n) 0 (-1, 0) := by
      unfold rG
      rw [rota_sr wPl hn n (wA (sW S)) 0 0 (-1, 0) hg]
      exact scan_congr _ _ _ (fun i hi => by simp)
    have fin0 : 0 ≤ (scan (fun r => (srV (2 ^ n4) (rHit (wP (sW S))) (rNxt (wP (sW S))) n r (wA (sW S)), r)) ((2 ^ n4) ^ n) 0 (-1, 0)).1 := by
      have g := (scan_ge (g := fun r => (srV (2 ^ n4) (rHit (wP (sW S))) (rNxt (wP (sW S))) n r (wA (sW S)), r)) ((2 ^ n4) ^ n) 0 (-1, 0)).2 0 pos
      have vr := srV_rg (B := 2 ^ n4) (hit := rHit (wP (sW S))) (nxt := rNxt (wP (sW S))) (fun s A => hitN_rg) n (0 + 0) (wA (sW S))
      dsimp only at g
      omega
    have cls : ∃ σ1, m11_rota F (w32 (n : Int)) (w32 b) σ = some (w32 (rAns (2 ^ n4) n b (scan (fun r => (srV (2 ^ n4) (rHit (wP (sW S))) (rNxt (wP (sW S))) n r (wA (sW S)), r)) ((2 ^ n4) ^ n) 0 (-1, 0))), σ1) := by
      by_cases hbn : b ≤ n
      · obtain ⟨τ1, e1, k1, r1, f1⟩ : ∃ τ1, m2_plain F 0 σ = some τ1 ∧ RepC τ1 Kp ∧ gR τ1 = 0 ∧ Fr (fun c => c = 40 ∨ c = 1000) σ τ1 := by
          refine ⟨_, rfl, fun j hj => ?_, rfl, ?_⟩
          · rcases (show j = 2 ∨ j = 3 ∨ j = 4 ∨ j = 5 ∨ j = 6 by omega) with rfl | rfl | rfl | rfl | rfl
            · rw [gI_nej (by decide), gI_nej (by decide), gI_nej (by decide), gI_nej (by decide), gI_eq]; rfl
            · rw [gI_nej (by decide), gI_nej (by decide), gI_nej (by decide), gI_eq]; rfl
            · rw [gI_nej (by decide), gI_nej (by decide), gI_eq]; rfl
            · rw [gI_nej (by decide), gI_eq]; rfl
            · rw [gI_eq]; rfl
          · exact (((((((Fr.rf (fun c => c = 40 ∨ c = 1000) σ).sR (Or.inr rfl)).sI (Or.inl rfl)).sI (Or.inl rfl)).sI (Or.inl rfl)).sI (Or.inl rfl)).sI (Or.inl rfl))
        have h17' : RepP 17 τ1 (wP (sW S)) := h17.fr f1 (fun i hi => by omega)
        have h26 : RepS 26 σ (wA (sW S)) := hC.1.2.1
        have h26' : RepS 26 τ1 (wA (sW S)) := h26.fr f1 (fun i hi => by omega)
        obtain ⟨τ2, e2, s2⟩ := cpS_ok (F := F) (c0 := 61) (c1 := 26) (by decide) (by omega) h26'
        have f2 := f7_copyFrom e2
        have f3 : Fr (fun c => c = 56 ∨ (61 ≤ c ∧ c ≤ 70)) τ1 (sI (sI τ2 56 6 (w32 (n : Int))) 56 7 (-1 : Int32)) := ((f2.mono (fun c z => by unfold Wm7_copyFrom at z; omega)).sI (Or.inl rfl)).sI (Or.inl rfl)
        have hE3 : CRs n (2 ^ n4) 0 (wP (sW S)) (wA (sW S)) (-1, 0) (sI (sI τ2 56 6 (w32 (n : Int))) 56 7 (-1 : Int32)) := by
          refine ⟨h17'.fr f3 (fun i hi => by omega), (s2.ne (Or.inl (by omega))).ne (Or.inl (by omega)), ⟨-1, ?_⟩, ?_, ?_, ?_, fun h => absurd h (by decide), by decide, by decide⟩
          · rw [up_Kp3]; exact k1.fr f3 (by omega)
          · show gR _ = 0
            rw [f3.gR (by omega)]; exact r1
          · rw [gI_nej (by decide), gI_eq]
          · rw [gI_eq]; rfl
        obtain ⟨τ4, e4, ce4, -, f4⟩ := sets_c (F := F) (N := n) wPl hn (by omega) (by omega) n 0 6 t 0 0 (-1, 0) (wA (sW S)) _ (by omega) (by omega) hE3 (fun i hi => by omega) (by omega) (by omega) wI (by omega)
        rw [eG] at ce4
        obtain ⟨-, -, -, -, -, g7, g9, -, -⟩ := ce4
        refine ⟨τ4, ?_⟩
        have mb : m0_bestRota F 26 (w32 (n : Int)) (w32 b) τ1 = some (w32 (rAns (2 ^ n4) n b (scan (fun r => (srV (2 ^ n4) (rHit (wP (sW S))) (rNxt (wP (sW S))) n r (wA (sW S)), r)) ((2 ^ n4) ^ n) 0 (-1, 0))), τ4) := by
          unfold m0_bestRota
          rw [gd_pos (by decide), show 61 + 10 * (0 : Int32).toNatClampNeg = 61 from rfl, e2, Option.bind_some]
          dsimp only
          have e4' : m0_chooseSets F 6 (0 : Int32) (0 : Int32) (sI (sI τ2 56 6 (w32 (n : Int))) 56 7 (-1 : Int32)) = some τ4 := e4
          rw [wl_4, mnI_w (by omega) (by omega) (by omega) (by omega), show min (n : Int) 4 = n by omega, e4', Option.bind_some, g7]
          unfold rAns
          by_cases hb0 : b = 0
          · rw [if_pos (by rw [wl_1, w_lt (by omega) (by omega) (by omega) (by omega)]; omega), if_pos hb0]
          · rw [if_neg (by rw [wl_1, w_lt (by omega) (by omega) (by omega) (by omega)]; omega), if_neg (by rw [w_lt (by omega) (by omega) (by omega) (by omega)]; omega), if_neg hb0, if_pos hbn, show w32 b - (1 : Int32) = w32 ((b.toNat - 1 : Nat) : Int) by rw [wl_1, w_sub]; congr 1; omega, gd_pos (w_inB (by omega) (by omega) (by omega)), w_natk (by omega), g9 fin0 _ (by omega)]
        unfold m11_rota
        simp only [e0, q0, q1, q2, q3, q4, q5]
        rw [if_neg (by omega), if_neg (by omega), if_neg (by omega), if_neg (by omega), if_pos ob.2, if_pos hbn, e1, Option.bind_some, mb, Option.bind_some]
      · refine ⟨σ, ?_⟩
        unfold m11_rota
        simp only [e0, q0, q1, q2, q3, q4, q5]
        rw [if_neg (by omega), if_neg (by omega), if_neg (by omega), if_neg (by omega), if_pos ob.2, if_neg hbn]
        unfold rAns
        rw [if_neg (by omega), if_neg hbn]; rfl
    obtain ⟨τ3, m1⟩ := cls
    obtain ⟨hC3, hR3⟩ := cls_q hC hR wf (f11_rota m1) (fun c z => by unfold Wm11_rota at z; omega)
    obtain ⟨τ5, m5, hC5, hR5⟩ := rota_l (F := F) (n := n) (w := b) wf ht hn (by omega) ob (by omega) ((2 ^ n4) ^ n) F 0 (-1, 0) τ3 (by omega) (by omega) hC3 hR3 (by decide) (by decide) (by decide) fin0
    refine ⟨_, τ3, τ5, m1, ?_, hC5, hR5⟩
    have hE3 := hR3.E wf
    unfold m12_rota
    simp only [isSmithy_r hE3.1 wPl, inA, inB', Option.bind_some, g01]
    rw [if_neg (by omega), if_neg (by omega), if_neg (by omega)]
    exact m5
  · refine ⟨-1, σ, σ, ?_, ?_, hC, hR⟩
    · unfold m11_rota
      simp only [e0, q0, q1, q2, q3, q4, q5]
      (repeat' split) <;> first | rfl | (exfalso; omega)
    · unfold m12_rota
      simp only [isSmithy_r hE.1 wPl, inA, inB', Option.bind_some, g01]
      (repeat' split) <;> first | rfl | (exfalso; omega)
