/-! QUERY: round, 1: what comes round again -/
def itg (g : Nat → Nat) : Nat → Nat → Nat
  | 0, x => x
  | n + 1, x => itg g n (g x)
theorem itg_succ {g : Nat → Nat} : ∀ (n x : Nat), itg g (n + 1) x = g (itg g n x)
  | 0, _ => rfl
  | n + 1, x => itg_succ n (g x)
theorem itg_add {g : Nat → Nat} : ∀ (a b x : Nat), itg g (a + b) x = itg g a (itg g b x)
  | a, 0, _ => rfl
  | a, b + 1, x => itg_add a b (g x)
def sumg (b : Nat → Int) (g : Nat → Nat) : Nat → Nat → Int
  | 0, _ => 0
  | n + 1, x => b x + sumg b g n (g x)
theorem sumg_succ {b : Nat → Int} {g : Nat → Nat} : ∀ (n x : Nat), sumg b g (n + 1) x = sumg b g n x + b (itg g n x)
  | 0, x => by show b x + 0 = 0 + b x; omega
  | n + 1, x => by
    show b x + sumg b g (n + 1) (g x) = b x + sumg b g n (g x) + b (itg g n (g x))
    rw [sumg_succ n (g x)]; omega
/-- x comes again after d steps, not earlier -/
def Ret (g : Nat → Nat) (x d : Nat) : Prop := 0 < d ∧ itg g d x = x ∧ ∀ e, 0 < e → e < d → itg g e x ≠ x
theorem Ret.uniq {g : Nat → Nat} {x d d' : Nat} (h : Ret g x d) (h' : Ret g x d') : d = d' := by
  obtain ⟨a, b, c⟩ := h
  obtain ⟨a', b', c'⟩ := h'
  rcases Nat.lt_trichotomy d d' with z | z | z
  · exact absurd b (c' d a z)
  · exact z
  · exact absurd b' (c d' a' z)
theorem Ret.next {g : Nat → Nat} {x d : Nat} (h : Ret g x d) : Ret g (g x) d ∧ ∀ b, sumg b g d (g x) = sumg b g d x := by
  obtain ⟨h1, h2, h3⟩ := h
  have e1 : itg g d (g x) = g x := by
    show itg g (d + 1) x = g x
    rw [itg_succ, h2]
  refine ⟨⟨h1, e1, fun e he hed z => h3 e he hed ?_⟩, fun b => ?_⟩
  · have a1 : itg g (d - 1) (g x) = x := by
      show itg g (d - 1 + 1) x = x
      rw [show d - 1 + 1 = d by omega, h2]
    have a2 : itg g (d - 1) (itg g e (g x)) = itg g e x := by
      rw [← itg_add]
      show itg g (d - 1 + e + 1) x = itg g e x
      rw [show d - 1 + e + 1 = e + d by omega, itg_add, h2]
    rw [← a2, z, a1]
  · have a1 : sumg b g (d + 1) x = b x + sumg b g d (g x) := rfl
    have a2 := sumg_succ (b := b) (g := g) d x
    rw [h2] at a2
    omega
theorem Ret.it {g : Nat → Nat} {x d : Nat} (h : Ret g x d) : ∀ k, Ret g (itg g k x) d ∧ ∀ b, sumg b g d (itg g k x) = sumg b g d x
  | 0 => ⟨h, fun _ => rfl⟩
  | k + 1 => by
    obtain ⟨a, b⟩ := h.it k
    obtain ⟨a', b'⟩ := a.next
    rw [itg_succ]
    exact ⟨a', fun c => (b' c).trans (b c)⟩
theorem cyc_eq {g : Nat → Nat} {x k1 k2 d1 d2 : Nat} (h1 : Ret g (itg g k1 x) d1) (h2 : Ret g (itg g k2 x) d2) : d1 = d2 ∧ ∀ b, sumg b g d1 (itg g k1 x) = sumg b g d2 (itg g k2 x) := by
  have main : ∀ a b da db, a ≤ b → Ret g (itg g a x) da → Ret g (itg g b x) db → da = db ∧ ∀ f, sumg f g da (itg g a x) = sumg f g db (itg g b x) := by
    intro a b da db hab ha hb
    obtain ⟨r, s⟩ := ha.it (b - a)
    rw [← itg_add, show b - a + a = b by omega] at r s
    have e := r.uniq hb
    subst e
    exact ⟨rfl, fun f => (s f).symm⟩
  rcases Nat.le_total k1 k2 with z | z
  · exact main _ _ _ _ z h1 h2
  · obtain ⟨a, b⟩ := main _ _ _ _ z h2 h1
    exact ⟨a.symm, fun f => (b f).symm⟩
theorem php : ∀ (N : Nat) (f : Nat → Nat), (∀ i, i ≤ N → f i < N) → ∃ i j, i < j ∧ j ≤ N ∧ f i = f j := by
  intro N
  induction N with
  | zero => intro f h; exact absurd (h 0 (Nat.le_refl _)) (Nat.not_lt_zero _)
  | succ N ih =>
    intro f h
    by_cases hex : ∃ i, i ≤ N ∧ f i = f (N + 1)
    · obtain ⟨i, h1, h2⟩ := hex
      exact ⟨i, N + 1, by omega, Nat.le_refl _, h2⟩
    · have ne : ∀ i, i ≤ N → f i ≠ f (N + 1) := fun i hi z => hex ⟨i, hi, z⟩
      have hN := h (N + 1) (Nat.le_refl _)
      obtain ⟨i, j, h1, h2, h3⟩ := ih (fun i => if f (N + 1) < f i then f i - 1 else f i) (fun i hi => by
        have a := h i (by omega)
        have b := ne i hi
        try dsimp only
        split <;> omega)
      refine ⟨i, j, h1, by omega, ?_⟩
      have a := ne i (by omega)
      have b := ne j h2
      try dsimp only at h3
      split at h3 <;> split at h3 <;> omega
theorem cyc_ex {g : Nat → Nat} {x N : Nat} (hx : x < N) (hg : ∀ c, c < N → g c < N) : ∃ i p, 0 < p ∧ i + p ≤ N ∧ ∀ k, i ≤ k → itg g (k + p) x = itg g k x := by
  have lt : ∀ k, itg g k x < N := by
    intro k
    induction k with
    | zero => exact hx
    | succ k ih => rw [itg_succ]; exact hg _ ih
  obtain ⟨i, j, h1, h2, h3⟩ := php N (fun k => itg g k x) (fun k _ => lt k)
  refine ⟨i, j - i, by omega, by omega, fun k hk => ?_⟩
  have h3 : itg g i x = itg g j x := h3
  rw [show k + (j - i) = k - i + j by omega, itg_add, ← h3, ← itg_add, show k - i + i = k by omega]
/-- a multiple of the period comes again -/
theorem cyc_mul {g : Nat → Nat} {x i p : Nat} (h : ∀ k, i ≤ k → itg g (k + p) x = itg g k x) (k : Nat) (hk : i ≤ k) : ∀ m, itg g (k + p * m) x = itg g k x
  | 0 => rfl
  | m + 1 => by
    rw [Nat.mul_succ, ← Nat.add_assoc, h (k + p * m) (Nat.le_trans hk (Nat.le_add_right _ _))]
    exact cyc_mul h k hk m
/-- the least return, where there is one -/
theorem Ret.ex {g : Nat → Nat} {x : Nat} : ∀ (d : Nat), 0 < d → itg g d x = x → ∃ r, r ≤ d ∧ Ret g x r := by
  intro d
  induction d using Nat.strongRecOn with
  | ind d ih =>
    intro h1 h2
    by_cases hex : ∃ e, 0 < e ∧ e < d ∧ itg g e x = x
    · obtain ⟨e, e1, e2, e3⟩ := hex
      obtain ⟨r, r1, r2⟩ := ih e e2 e1 e3
      exact ⟨r, by omega, r2⟩
    · exact ⟨d, Nat.le_refl _, h1, h2, fun e e1 e2 e3 => hex ⟨e, e1, e2, e3⟩⟩
/-! heats alone: what a MOMENT of a ROUND makes of them -/
def Kf : Nat → Int := upK Kp 6 1
def setH (A : Dat) (h : Nat → Int) : Dat := fun i j => if i = 1 then h j else A i j
abbrev HT : Type := (Nat → Int) × (Nat → Int)
def hS (P A0 : Dat) (J : Nat → Int) (Wl : Nat → Bool) (p : Nat) (s : HT) : HT :=
  if J p = -1 then s
  else if Wl p then (upK s.1 p (max 0 (s.1 p - P 0 1)), if okT P A0 Kf s.2 (J p).toNat then tkT s.2 (bitsN P A0 Kf s.2 (J p).toNat) p else s.2)
  else (upK s.1 p (if s.1 p + P 1 p ≤ P 0 2 then s.1 p + P 1 p else 0), s.2)
def hW (P A0 : Dat) (J : Nat → Int) (Wl : Nat → Bool) : Nat → Nat → HT → HT
  | 0, _, s => s
  | d + 1, p, s => hW P A0 J Wl d (p + 1) (hS P A0 J Wl p s)
theorem hW_succ {P A0 : Dat} {J : Nat → Int} {Wl : Nat → Bool} : ∀ (d p : Nat) (s : HT), hW P A0 J Wl (d + 1) p s = hS P A0 J Wl (p + d) (hW P A0 J Wl d p s)
  | 0, p, s => rfl
  | d + 1, p, s => by
    show hW P A0 J Wl (d + 1) (p + 1) (hS P A0 J Wl p s) = _
    rw [hW_succ d (p + 1) (hS P A0 J Wl p s), show p + 1 + d = p + (d + 1) by omega]; rfl
def hH (P A0 : Dat) (J : Nat → Int) (Wl : Nat → Bool) (p : Nat) (s : HT) : Int :=
  if J p = -1 then 0 else if Wl p then (if okT P A0 Kf s.2 (J p).toNat then (if s.1 p < P 6 (J p).toNat then 0 else 1) else 0) else 0
def hTu (P A0 : Dat) (J : Nat → Int) (Wl : Nat → Bool) (p : Nat) (s : HT) : Int :=
  if J p = -1 then 16 else if Wl p then (if okT P A0 Kf s.2 (J p).toNat then bitsN P A0 Kf s.2 (J p).toNat else 0) else 16
/-- a whole state and its heats -/
def Cw (A0 : Dat) (s : WS) (t : HT) : Prop := (∀ q, s.1 1 q = t.1 q) ∧ (∀ k, s.1 9 k = A0 9 k) ∧ s.2.2 = t.2 ∧ s.2.1 4 = 0 ∧ s.2.1 5 = 0 ∧ s.2.1 6 = 1
theorem Cw.step {P A0 : Dat} {J : Nat → Int} {Wl : Nat → Bool} {p : Nat} {s : WS} {t : HT} (h : Cw A0 s t) : Cw A0 (stepS P J Wl p s) (hS P A0 J Wl p t) ∧ hitS P J Wl p s = hH P A0 J Wl p t ∧ turnS P J Wl p s = hTu P A0 J Wl p t := by
  obtain ⟨h1, h9, hT, k4, k5, k6⟩ := h
  have ok : okT P s.1 s.2.1 s.2.2 (J p).toNat = okT P A0 Kf t.2 (J p).toNat := by rw [hT]; exact okT_row h9 (by rw [k4]; rfl)
  have bt : bitsN P s.1 s.2.1 s.2.2 (J p).toNat = bitsN P A0 Kf t.2 (J p).toNat := by rw [hT]; exact bitsN_row h9 (by rw [k4]; rfl)
  have kk : (stepS P J Wl p s).2.1 4 = 0 ∧ (stepS P J Wl p s).2.1 5 = 0 ∧ (stepS P J Wl p s).2.1 6 = 1 := by
    rw [stepS_K (by decide), stepS_K (by decide), stepS_K (by decide)]; exact ⟨k4, k5, k6⟩
  have e9 : ∀ k, (stepS P J Wl p s).1 9 k = A0 9 k := fun k => stepS_9.trans (h9 k)
  refine ⟨⟨fun q => ?_, e9, ?_, kk⟩, ?_, ?_⟩
  · by_cases hq : q = p
    · subst hq
      unfold hS
      by_cases hj : J q = -1
      · rw [st_none hj, if_pos hj]; exact h1 q
      · rw [if_neg hj]
        by_cases hw : Wl q = true
        · rw [if_pos hw]
          show _ = upK t.1 q _ q
          unfold upK
          rw [if_pos rfl, ← h1 q]
          by_cases ho : okT P s.1 s.2.1 s.2.2 (J q).toNat = true
          · rw [st_strike hj hw ho]
            show strikeA P s.1 s.2.1 q (J q).toNat 1 q = _
            unfold strikeA
            rw [k6]
            simp only []
            split
            · simp [up_at]
            · rw [if_neg (by decide)]; simp [up_at]
          · rw [st_wait hj hw (by simpa using ho)]
            simp [waitA, up_at]
        · rw [if_neg hw, st_heat hj (by simpa using hw)]
          show heatA P s.1 s.2.1 q (J q).toNat 1 q = upK t.1 q _ q
          unfold upK heatA
          rw [if_pos rfl, if_pos k5, ← h1 q]
          by_cases hc : s.1 1 q + P 1 q ≤ P 0 2
          · rw [if_pos hc, if_pos hc]; simp [up_at]
          · rw [if_neg hc, if_neg hc]; simp [up_at]
    · rw [stepS_oth (Or.inl (by decide)) hq, h1 q]
      unfold hS
      split
      · rfl
      · split
        · show _ = upK t.1 p _ q
          unfold upK; rw [if_neg hq]
        · show _ = upK t.1 p _ q
          unfold upK; rw [if_neg hq]
  · unfold hS
    by_cases hj : J p = -1
    · rw [st_none hj, if_pos hj]; exact hT
    · rw [if_neg hj]
      by_cases hw : Wl p = true
      · rw [if_pos hw]
        by_cases ho : okT P s.1 s.2.1 s.2.2 (J p).toNat = true
        · rw [st_strike hj hw ho]
          show tkT s.2.2 (bitsN P s.1 s.2.1 s.2.2 (J p).toNat) p = if okT P A0 Kf t.2 (J p).toNat then _ else _
          rw [← ok, if_pos ho, bt, hT]
        · rw [st_wait hj hw (by simpa using ho)]
          show s.2.2 = if okT P A0 Kf t.2 (J p).toNat then _ else _
          rw [← ok, if_neg ho]; exact hT
      · rw [if_neg hw, st_heat hj (by simpa using hw)]; exact hT
  · unfold hitS hH
    rw [ok, h1 p]
  · unfold turnS hTu
    rw [ok, bt]
theorem Cw.work {P A0 : Dat} {J : Nat → Int} {Wl : Nat → Bool} : ∀ (d p : Nat) (s : WS) (t : HT), Cw A0 s t → Cw A0 (workS P J Wl d p s) (hW P A0 J Wl d p t)
  | 0, _, _, _, h => h
  | d + 1, p, s, t, h => Cw.work d (p + 1) _ _ h.step.1
theorem wlN_own {P A B : Dat} {K : Nat → Int} {ro : Option Dat} {J : Nat → Int} {p : Nat} (h : ∀ i k, i ≠ 1 → B i k = A i k) (h1 : B 1 p = A 1 p) : wlN P B K ro J p = wlN P A K ro J p := by
  have e0 : ∀ k, B 0 k = A 0 k := fun k => h 0 k (by decide)
  have e2 : ∀ k, B 2 k = A 2 k := fun k => h 2 k (by decide)
  have e3 : ∀ k, B 3 k = A 3 k := fun k => h 3 k (by decide)
  have e6 : ∀ k, B 6 k = A 6 k := fun k => h 6 k (by decide)
  have e9 : ∀ k, B 9 k = A 9 k := fun k => h 9 k (by decide)
  have w : wds P B J p = wds P A J p := by
    funext i
    unfold wds wdI wornI
    simp only [e0, h1, e2, e3, e6, e9]
  unfold wlN wl hotB
  rw [w, h1]
def Wh (P A0 : Dat) (ro : Option Dat) (h : Nat → Int) : Nat → Bool := wlN P (setH A0 h) Kf ro (jbs P A0 Kf)
def hN (P A0 : Dat) (ro : Option Dat) (h : Nat → Int) : Nat → Int := (hW P A0 (jbs P A0 Kf) (Wh P A0 ro h) 3 0 (h, fun _ => -1)).1
def hB (P A0 : Dat) (ro : Option Dat) (h : Nat → Int) (q : Nat) : Int := hH P A0 (jbs P A0 Kf) (Wh P A0 ro h) q (hW P A0 (jbs P A0 Kf) (Wh P A0 ro h) q 0 (h, fun _ => -1))
theorem hS_oth {P A0 : Dat} {J : Nat → Int} {Wl : Nat → Bool} {p q : Nat} {s : HT} (h : q ≠ p ∨ J p = -1) : (hS P A0 J Wl p s).1 q = s.1 q := by
  unfold hS
  split
  · rfl
  · rename_i hj
    have hq := h.resolve_right hj
    split
    · show upK s.1 p _ q = _
      unfold upK; rw [if_neg hq]
    · show upK s.1 p _ q = _
      unfold upK; rw [if_neg hq]
theorem hS_rg {P A0 : Dat} {J : Nat → Int} {Wl : Nat → Bool} {p q : Nat} {s : HT} (hc : 0 ≤ P 0 1) (hb : 0 ≤ P 0 2) (hq : J p ≠ -1 → 0 ≤ P 1 p) (h : 0 ≤ s.1 q ∧ s.1 q ≤ P 0 2) : 0 ≤ (hS P A0 J Wl p s).1 q ∧ (hS P A0 J Wl p s).1 q ≤ P 0 2 := by
  by_cases hp : q = p
  · subst hp
    unfold hS
    by_cases hj : J q = -1
    · rw [if_pos hj]; exact h
    · have := hq hj
      rw [if_neg hj]
      split
      · show 0 ≤ upK s.1 q _ q ∧ upK s.1 q _ q ≤ _
        unfold upK; rw [if_pos rfl]; omega
      · show 0 ≤ upK s.1 q _ q ∧ upK s.1 q _ q ≤ _
        unfold upK; rw [if_pos rfl]
        split <;> omega
  · rw [hS_oth (Or.inl hp)]; exact h
theorem hW_rg {P A0 : Dat} {J : Nat → Int} {Wl : Nat → Bool} {q : Nat} (hc : 0 ≤ P 0 1) (hb : 0 ≤ P 0 2) (hq : ∀ p, J p ≠ -1 → 0 ≤ P 1 p) : ∀ (d p : Nat) (s : HT), 0 ≤ s.1 q ∧ s.1 q ≤ P 0 2 → 0 ≤ (hW P A0 J Wl d p s).1 q ∧ (hW P A0 J Wl d p s).1 q ≤ P 0 2
  | 0, _, _, h => h
  | d + 1, p, s, h => hW_rg hc hb hq d (p + 1) _ (hS_rg hc hb (hq p) h)
theorem hW_none {P A0 : Dat} {J : Nat → Int} {Wl : Nat → Bool} {q : Nat} (hj : J q = -1) : ∀ (d p : Nat) (s : HT), (hW P A0 J Wl d p s).1 q = s.1 q
  | 0, _, _ => rfl
  | d + 1, p, s => by
    show (hW P A0 J Wl d (p + 1) (hS P A0 J Wl p s)).1 q = _
    rw [hW_none hj d (p + 1), hS_oth]
    by_cases h : q = p
    · exact Or.inr (h ▸ hj)
    · exact Or.inl h
/-! heats as numbers -/
def dg (c p : Nat) : Nat := if p = 0 then c % 100 else if p = 1 then c / 100 % 100 else c / 10000 % 100
def hd (n : Nat) (A0 : Dat) (c : Nat) : Nat → Int := fun p => if p < n then (dg c p : Int) else A0 1 p
def encH (n : Nat) (h : Nat → Int) : Nat := (if 0 < n then (h 0).toNat else 0) + (if 1 < n then 100 * (h 1).toNat else 0) + (if 2 < n then 10000 * (h 2).toNat else 0)
theorem enc_lt {n : Nat} {h : Nat → Int} (hh : ∀ p, p < n → 0 ≤ h p ∧ h p ≤ 99) : encH n h < 1000000 := by
  unfold encH
  have h0 := hh 0
  have h1 := hh 1
  have h2 := hh 2
  split <;> split <;> split <;> omega
theorem dg_enc {n p : Nat} {h : Nat → Int} (hn : n ≤ 3) (hp : p < n) (hh : ∀ p, p < n → 0 ≤ h p ∧ h p ≤ 99) : (dg (encH n h) p : Int) = h p := by
  have h0 := hh 0
  have h1 := hh 1
  have h2 := hh 2
  unfold dg encH
  rcases (show n = 1 ∨ n = 2 ∨ n = 3 by omega) with rfl | rfl | rfl
  · have : p = 0 := by omega
    subst this
    simp; omega
  · rcases (show p = 0 ∨ p = 1 by omega) with rfl | rfl <;> simp <;> omega
  · rcases (show p = 0 ∨ p = 1 ∨ p = 2 by omega) with rfl | rfl | rfl <;> simp <;> omega
theorem hd_enc {n : Nat} {A0 : Dat} {h : Nat → Int} (hn : n ≤ 3) (hh : ∀ p, p < n → 0 ≤ h p ∧ h p ≤ 99) (ho : ∀ p, n ≤ p → h p = A0 1 p) : hd n A0 (encH n h) = h := by
  funext p
  unfold hd
  by_cases hp : p < n
  · rw [if_pos hp]; exact dg_enc hn hp hh
  · rw [if_neg hp]; exact (ho p (by omega)).symm
def gN (n : Nat) (P A0 : Dat) (ro : Option Dat) (c : Nat) : Nat := encH n (hN P A0 ro (hd n A0 c))
def Gd (n : Nat) (P A0 : Dat) (c : Nat) : Prop := ∀ p, p < n → 0 ≤ hd n A0 c p ∧ hd n A0 c p ≤ P 0 2
theorem jbs_Kf {P A : Dat} {q : Nat} : jbs P A Kf q = jobN P A q := if_neg (Kp2 q)
theorem gN_ok {n : Nat} {P A0 : Dat} {ro : Option Dat} {c : Nat} (wPl : WfPl P) (hn : P 0 4 = (n : Int)) (hc : Gd n P A0 c) : hd n A0 (gN n P A0 ro c) = hN P A0 ro (hd n A0 c) ∧ Gd n P A0 (gN n P A0 ro c) ∧ gN n P A0 ro c < 1000000 := by
  obtain ⟨n', hn', hn3⟩ := wPl.1.2.2.1
  have hb := wPl.2.2.1
  have b99 := wPl.2.2.2.2.2.1
  have jn : ∀ p, jbs P A0 Kf p ≠ -1 → (p : Int) < P 0 4 := fun p hj => by
    rcases Int.lt_or_le (p : Int) (P 0 4) with z | z
    · exact z
    · exact absurd (J_ge wPl.1 wPl.2.1 z) hj
  have rg : ∀ p, p < n → 0 ≤ hN P A0 ro (hd n A0 c) p ∧ hN P A0 ro (hd n A0 c) p ≤ P 0 2 := fun p hp => hW_rg hb.2.2.1 hb.2.2.2 (fun q hj => hb.2.1 q (jn q hj)) 3 0 _ (hc p hp)
  have rg9 : ∀ p, p < n → 0 ≤ hN P A0 ro (hd n A0 c) p ∧ hN P A0 ro (hd n A0 c) p ≤ 99 := fun p hp => by have := rg p hp; omega
  have e : hd n A0 (gN n P A0 ro c) = hN P A0 ro (hd n A0 c) := hd_enc (by omega) rg9 (fun p hp => by
    have : hN P A0 ro (hd n A0 c) p = hd n A0 c p := hW_none (J_ge wPl.1 wPl.2.1 (by omega)) 3 0 _
    rw [this]; unfold hd; rw [if_neg (by omega)])
  exact ⟨e, fun p hp => by rw [e]; exact rg p hp, enc_lt rg9⟩
