/-! THE REFERENCE, 6: a whole MOMENT (no ROUND) -/
theorem wearL_add {T : Nat → Int} : ∀ (a b k : Nat) (A : Dat), wearL T (a + b) k A = wearL T b (k + a) (wearL T a k A)
  | 0, b, k, A => by rw [Nat.zero_add]; rfl
  | a + 1, b, k, A => by
    rw [show a + 1 + b = (a + b) + 1 by omega]
    show wearL T (a + b) (k + 1) _ = _
    rw [wearL_add a b (k + 1), show k + 1 + a = k + (a + 1) by omega]; rfl
theorem wears2_r {F : Nat} {P : Dat} {T : Nat → Int} (wP : WfP P) (bT : BdT T) : ∀ (d n' k : Nat) (σ : Mem) (A : Dat), k + d = 3 → d < n' → RepA σ P A → Bd (1000000000 - 1000 * d) A → (∀ q, q < 3 → gI σ 495 q = w32 (T q)) → ∃ σ', m12_wears_2 F n' (w32 (k : Int)) σ = m12_wears_52 F F (0 : Int32) σ' ∧ RepA σ' P (wearL T d k A) ∧ Fr (fun c => c = 493) σ σ' ∧ Tl σ σ' := by
  intro d
  have w2 := wP
  obtain ⟨bP, ⟨m, hm', hm8⟩, ⟨n, hn, hn3⟩, -⟩ := w2
  induction d with
  | zero =>
    intro n' k σ A h1 h2 hA bA hT
    obtain ⟨n', rfl⟩ : ∃ k, n' = k + 1 := ⟨n' - 1, by omega⟩
    refine ⟨σ, ?_, hA, Fr.rf _ _, Tl.rf _⟩
    unfold m12_wears_2
    rw [if_pos (by rw [wl_3, w_le (by omega) (by omega) (by omega) (by omega)]; omega)]
  | succ d ih =>
    intro n' k σ A h1 h2 hA bA hT
    obtain ⟨n', rfl⟩ : ∃ k, n' = k + 1 := ⟨n' - 1, by omega⟩
    have e9 : gI σ 493 (95 + k) = w32 (A 9 k) := hA.1 9 k (by decide) (show k < 3 by omega)
    have b9 := bA 9 k
    have bt := bT k
    have ix : w32 95 + w32 (k : Int) = w32 ((95 + k : Nat) : Int) := by rw [w_add]; rfl
    unfold m12_wears_2 wearL
    rw [if_neg (by rw [wl_3, w_le (by omega) (by omega) (by omega) (by omega)]; omega), gd_pos (w_inB (by omega) (by omega) (by omega)), w_natk (k := k) (by omega), hT k (by omega), w_succ, wl_95, ix, gd_pos (w_inB (by omega) (by omega) (by omega)), w_natk (k := 95 + k) (by omega), e9, gd_pos (w_inB (by omega) (by omega) (by omega)), gd_pos (w_inB (by omega) (by omega) (by omega)), wl_1, w_add]
    by_cases h3 : T k = -1
    · rw [if_pos (by rw [wl_0, w_lt (by omega) (by omega) (by omega) (by omega)]; omega), if_pos h3]
      exact ih n' (k + 1) σ A (by omega) (by omega) hA (bA.mono (by omega)) hT
    · rw [if_neg (by rw [wl_0, w_lt (by omega) (by omega) (by omega) (by omega)]; omega), if_neg h3]
      by_cases h4 : 9999 ≤ A 9 k
      · rw [if_pos (by rw [wl_9999, w_le (by omega) (by omega) (by omega) (by omega)]; exact h4), if_pos h4]
        exact ih n' (k + 1) σ A (by omega) (by omega) hA (bA.mono (by omega)) hT
      · rw [if_neg (by rw [wl_9999, w_le (by omega) (by omega) (by omega) (by omega)]; exact h4), if_neg h4]
        obtain ⟨σ', m1, A1, f1, f0⟩ := ih n' (k + 1) (sI σ 493 (95 + k) (w32 (A 9 k + 1))) (up A 9 k (A 9 k + 1)) (by omega) (by omega) (hA.upd (by omega) (by omega) 9 k _ (by decide) (show k < 3 by omega)) (Bd.up (B := 1000000000 - 1000 * (d : Int)) (bA.mono (by omega)) (by omega) (by omega)) (fun q hq => by rw [gI_nec (by decide)]; exact hT q hq)
        exact ⟨σ', m1, A1, (show Fr (fun c => c = 493) σ (sI σ 493 (95 + k) (w32 (A 9 k + 1))) from (Fr.rf _ _).sI rfl).trans f1, Tl.trans ((Tl.rf _).at (by omega)) f0⟩
def c8L (P : Dat) (tu : Nat → Int) : Nat → Nat → Int
  | 0, _ => 0
  | d + 1, p => (if (p : Int) < P 0 4 ∧ tu p = 8 then 1 else 0) + c8L P tu d (p + 1)
theorem c8L_none {P : Dat} {tu : Nat → Int} : ∀ (d p : Nat), P 0 4 ≤ (p : Int) → c8L P tu d p = 0
  | 0, _, _ => rfl
  | d + 1, p, h => by
    unfold c8L
    rw [if_neg (by omega), c8L_none d (p + 1) (by omega)]; rfl
theorem wears52_r {F : Nat} {P : Dat} {tu : Nat → Int} (wP : WfP P) (bt : ∀ q, -1000 ≤ tu q ∧ tu q ≤ 1000) : ∀ (d n' p : Nat) (σ : Mem) (A : Dat), p + d = 3 → d < n' → RepA σ P A → (∀ q : Nat, (q : Int) < P 0 4 → gI σ 494 q = w32 (tu q)) → ∃ σ', m12_wears_52 F n' (w32 (p : Int)) σ = some σ' ∧ RepA σ' P (up A 9 3 (A 9 3 + c8L P tu d p)) ∧ Tl σ σ' := by
  intro d
  have w2 := wP
  obtain ⟨bP, ⟨m, hm', hm8⟩, ⟨n, hn, hn3⟩, -⟩ := w2
  induction d with
  | zero =>
    intro n' p σ A h1 h2 hA hT
    obtain ⟨n', rfl⟩ : ∃ k, n' = k + 1 := ⟨n' - 1, by omega⟩
    have e3 : gI σ 493 3 = w32 (P 0 4) := hA.2.1 3 (by decide)
    refine ⟨σ, ?_, ?_, Tl.rf _⟩
    · unfold m12_wears_52
      rw [gd_pos (by decide), show (3 : Int32).toNatClampNeg = 3 from rfl, e3, if_pos (by rw [w_le (by omega) (by omega) (by omega) (by omega)]; omega)]
    · rw [up_self (by unfold c8L; omega)]; exact hA
  | succ d ih =>
    intro n' p σ A h1 h2 hA hT
    obtain ⟨n', rfl⟩ : ∃ k, n' = k + 1 := ⟨n' - 1, by omega⟩
    have e3 : gI σ 493 3 = w32 (P 0 4) := hA.2.1 3 (by decide)
    by_cases hpn : (p : Int) < P 0 4
    · have btp := bt p
      unfold m12_wears_52 c8L
      rw [gd_pos (by decide), show (3 : Int32).toNatClampNeg = 3 from rfl, e3, if_neg (by rw [w_le (by omega) (by omega) (by omega) (by omega)]; omega), gd_pos (w_inB (by omega) (by omega) (by omega)), w_natk (k := p) (by omega), hT p hpn, w_succ, hA.2.2.2.2.2, wl_1, w_add, wl_0, w_add]
      have next : ∀ v : Int, ∃ σ', m12_wears_52 F n' (w32 ((p + 1 : Nat) : Int)) (sI σ 483 27 (w32 (A 9 3 + v))) = some σ' ∧ RepA σ' P (up A 9 3 (A 9 3 + (v + c8L P tu d (p + 1)))) ∧ Tl σ σ' := by
        intro v
        obtain ⟨σ', m1, A1, t1⟩ := ih n' (p + 1) (sI σ 483 27 (w32 (A 9 3 + v))) (up A 9 3 (A 9 3 + v)) (by omega) (by omega) (hA.up3 _) (fun q hq => by rw [gI_nec (by decide)]; exact hT q hq)
        refine ⟨σ', m1, ?_, Tl.trans ((Tl.rf _).ne (by decide)) t1⟩
        rw [up_same, up_eq] at A1
        rw [← Int.add_assoc]
        exact A1
      by_cases h8 : tu p = 8
      · rw [if_pos (by rw [h8]; rfl), if_pos ⟨hpn, h8⟩]
        exact next 1
      · rw [if_neg (by rw [wl_8, w_eq (by omega) (by omega) (by omega) (by omega)]; exact h8), if_neg (fun z => h8 z.2)]
        exact next 0
    · refine ⟨σ, ?_, ?_, Tl.rf _⟩
      · unfold m12_wears_52
        rw [gd_pos (by decide), show (3 : Int32).toNatClampNeg = 3 from rfl, e3, if_pos (by rw [w_le (by omega) (by omega) (by omega) (by omega)]; omega)]
      · rw [up_self (by rw [c8L_none _ _ (by omega)]; omega)]; exact hA
/-- the parts of a JOB, as bits, or the second face -/
theorem bitsN_rg {P A : Dat} {K T : Nat → Int} {j : Nat} (h : bitrel (P 3 j) (P 4 j)) : bitsN P A K T j = 1 ∨ bitsN P A K T j = 2 ∨ bitsN P A K T j = 4 ∨ bitsN P A K T j = 3 ∨ bitsN P A K T j = 8 := by
  have hb : P 4 j = 1 ∨ P 4 j = 2 ∨ P 4 j = 4 ∨ P 4 j = 3 := by
    rcases h with h | h | h | h
    · exact Or.inl h.2
    · exact Or.inr (Or.inl h.2)
    · exact Or.inr (Or.inr (Or.inl h.2))
    · exact Or.inr (Or.inr (Or.inr h.2))
  unfold bitsN
  split
  · omega
  · split
    · split
      · omega
      · omega
    · omega
theorem step8 {P : Dat} {J : Nat → Int} {Wl : Nat → Bool} {p : Nat} {s : WS} (hp : p < 3) (hb : J p ≠ -1 → bitrel (P 3 (J p).toNat) (P 4 (J p).toNat)) : (if (stepS P J Wl p s).2.2 3 = -1 then (0 : Int) else 1) = (if turnS P J Wl p s = 8 then 1 else 0) + (if s.2.2 3 = -1 then 0 else 1) := by
  by_cases hj : J p = -1
  · rw [st_none hj, tu_none hj, if_neg (show ¬ ((16 : Int) = 8) by decide), Int.zero_add]
  · by_cases hw : Wl p = true
    · by_cases ho : okT P s.1 s.2.1 s.2.2 (J p).toNat = true
      · rw [st_strike hj hw ho, tu_strike hj hw ho]
        have hr := bitsN_rg (A := s.1) (K := s.2.1) (T := s.2.2) (hb hj)
        have ho2 := ho
        unfold okT at ho2
        generalize bitsN P s.1 s.2.1 s.2.2 (J p).toNat = b at hr ho2 ⊢
        show (if tkT s.2.2 b p 3 = -1 then (0 : Int) else 1) = _
        unfold tkT
        rcases hr with rfl | rfl | rfl | rfl | rfl
        · rw [if_neg (show ¬ (bitI 1 3 = true) by decide), if_neg (show ¬ ((1 : Int) = 8) by decide), Int.zero_add]
        · rw [if_neg (show ¬ (bitI 2 3 = true) by decide), if_neg (show ¬ ((2 : Int) = 8) by decide), Int.zero_add]
        · rw [if_neg (show ¬ (bitI 4 3 = true) by decide), if_neg (show ¬ ((4 : Int) = 8) by decide), Int.zero_add]
        · rw [if_neg (show ¬ (bitI 3 3 = true) by decide), if_neg (show ¬ ((3 : Int) = 8) by decide), Int.zero_add]
        · have hf : freeN P s.1 s.2.2 3 = true := by
            simp only [okL, show bitI 8 0 = false by decide, show bitI 8 1 = false by decide, show bitI 8 2 = false by decide, show bitI 8 3 = true by decide, if_true] at ho2
            cases h : freeN P s.1 s.2.2 3 with
            | true => rfl
            | false => rw [h] at ho2; cases ho2
          have ht : s.2.2 3 = -1 := by
            unfold freeN at hf
            exact of_decide_eq_true (Bool.and_eq_true_iff.mp hf).1
          rw [if_pos (show bitI 8 3 = true by decide), if_neg (by omega), ht, if_pos rfl, if_pos rfl]; rfl
      · have ho : okT P s.1 s.2.1 s.2.2 (J p).toNat = false := by simpa using ho
        rw [st_wait hj hw ho, tu_wait hj hw ho, if_neg (show ¬ ((0 : Int) = 8) by decide), Int.zero_add]
    · have hw : Wl p = false := by simpa using hw
      rw [st_heat hj hw, tu_heat hj hw, if_neg (show ¬ ((16 : Int) = 8) by decide), Int.zero_add]
theorem c8_work {P : Dat} {J : Nat → Int} {Wl : Nat → Bool} {tu : Nat → Int} (hb : ∀ p, J p ≠ -1 → bitrel (P 3 (J p).toNat) (P 4 (J p).toNat) ∧ (p : Int) < P 0 4) : ∀ (d p : Nat) (s : WS), p + d ≤ 3 → (∀ q, p ≤ q → q < p + d → tu q = turnS P J Wl q (workS P J Wl (q - p) p s)) → (if (workS P J Wl d p s).2.2 3 = -1 then (0 : Int) else 1) = c8L P tu d p + (if s.2.2 3 = -1 then 0 else 1)
  | 0, p, s, _, _ => by unfold c8L; rw [Int.zero_add]; rfl
  | d + 1, p, s, h, ht => by
    have e := c8_work (tu := tu) (Wl := Wl) hb d (p + 1) (stepS P J Wl p s) (by omega) (fun q h1 h2 => by rw [ht q (by omega) (by omega), show q - p = (q - (p + 1)) + 1 by omega]; rfl)
    show (if (workS P J Wl d (p + 1) (stepS P J Wl p s)).2.2 3 = -1 then (0 : Int) else 1) = _
    rw [e, step8 (by omega) (fun hj => (hb p hj).1)]
    have tp := ht p (Nat.le_refl _) (by omega)
    rw [Nat.sub_self] at tp
    have tp : tu p = turnS P J Wl p s := tp
    rw [show c8L P tu (d + 1) p = (if (p : Int) < P 0 4 ∧ tu p = 8 then 1 else 0) + c8L P tu d (p + 1) from rfl, ← tp]
    by_cases h8 : tu p = 8
    · have hj : J p ≠ -1 := fun z => by rw [tp, tu_none z] at h8; exact absurd h8 (by decide)
      rw [if_pos h8, if_pos (show (p : Int) < P 0 4 ∧ tu p = 8 from ⟨(hb p hj).2, h8⟩)]; omega
    · rw [if_neg h8, if_neg (show ¬ ((p : Int) < P 0 4 ∧ tu p = 8) from fun z => h8 z.2)]; omega
def hitL (P : Dat) (J : Nat → Int) (Wl : Nat → Bool) : Nat → Nat → WS → Int
  | 0, _, _ => 0
  | d + 1, p, s => hitS P J Wl p s + hitL P J Wl d (p + 1) (stepS P J Wl p s)
theorem hitL_none {P : Dat} {J : Nat → Int} {Wl : Nat → Bool} : ∀ (d p : Nat) (s : WS), (∀ q, p ≤ q → J q = -1) → hitL P J Wl d p s = 0
  | 0, _, _, _ => rfl
  | d + 1, p, s, h => by
    unfold hitL hitS
    rw [if_pos (h p (Nat.le_refl _)), hitL_none d (p + 1) _ (fun q hq => h q (by omega))]; rfl
theorem workR_none {P : Dat} {J : Nat → Int} {Wl : Nat → Bool} : ∀ (d p : Nat) (s : WS), (∀ q, p ≤ q → J q = -1) → P 0 4 ≤ (p : Int) → workR P J Wl d p s = s
  | 0, _, _, _, _ => rfl
  | d + 1, p, s, h, hp => by
    unfold workR stepR
    rw [if_pos (h p (Nat.le_refl _)), if_neg (by omega)]
    exact workR_none d (p + 1) s (fun q hq => h q (by omega)) (by omega)
theorem stepR_K {P : Dat} {J : Nat → Int} {Wl : Nat → Bool} {p : Nat} {s : WS} {j : Nat} (hj : j < 11) : (stepR P J Wl p s).2.1 j = s.2.1 j := by
  unfold stepR
  split
  · rfl
  · exact stepS_K hj
theorem stepR_bd {B : Int} {P : Dat} {J : Nat → Int} {Wl : Nat → Bool} {p : Nat} {s : WS} (bA : Bd B s.1) (bP : Bd 1000 P) (hB : 10000 ≤ B) : Bd (B + 1000) (stepR P J Wl p s).1 := by
  unfold stepR
  split
  · dsimp only
    split
    · exact (bA.mono (by omega)).up (by omega) (by omega)
    · exact bA.mono (by omega)
  · exact stepS_bd bA bP hB
theorem stepR_0 {P : Dat} {J : Nat → Int} {Wl : Nat → Bool} {p : Nat} {s : WS} : (stepR P J Wl p s).1 0 0 = s.1 0 0 := by
  unfold stepR
  split
  · dsimp only
    split
    · simp [up_at]
    · rfl
  · exact stepS_0
theorem stepR_wf {P : Dat} {J : Nat → Int} {Wl : Nat → Bool} {p : Nat} {s : WS} (wA : WfA P s.1) (wB : WfB P) (wJ : WfJ P) (hJ : J p = -1 ∨ (0 ≤ J p ∧ J p < P 0 5 ∧ P 2 (J p).toNat = p ∧ 0 < s.1 6 (J p).toNat)) (h0 : 0 ≤ s.1 0 0) : WfA P (stepR P J Wl p s).1 := by
  unfold stepR
  split
  · dsimp only
    split
    · exact wA.up2
    · exact wA
  · exact stepS_wf wA wB wJ hJ h0
theorem stepR_6 {P : Dat} {J : Nat → Int} {Wl : Nat → Bool} {p : Nat} {s : WS} {k : Nat} (h : J p = -1 ∨ k ≠ (J p).toNat) : (stepR P J Wl p s).1 6 k = s.1 6 k := by
  unfold stepR
  split
  · dsimp only
    split
    · simp [up_at]
    · rfl
  · exact stepS_6 h
theorem stepR_8 {P : Dat} {J : Nat → Int} {Wl : Nat → Bool} {p : Nat} {s : WS} {k : Nat} : (stepR P J Wl p s).1 8 k = s.1 8 k := by
  unfold stepR
  split
  · dsimp only
    split
    · simp [up_at]
    · rfl
  · exact stepS_8
def passEnd (F : Nat) (x1 : Int32) (σ : Mem) : Option (Int32 × Mem) :=
  if (gI σ 483 25) = (0 : Int32) then (
    Option.bind (m12_wears F σ) fun p1 =>
    gd (inB (5 : Int32) 132 = true) <|
    gd (inB (5 : Int32) 132 = true) <|
    let σ2 : Mem := sI p1 493 ((5 : Int32)).toNatClampNeg (((gI p1 493 ((5 : Int32)).toNatClampNeg) + (1 : Int32)))
    some (x1, σ2)
    ) else (
    some (x1, σ)
    )
theorem pass_end {F n : Nat} {P A : Dat} {σ : Mem} {t : Int32} {x : Int} (hA : RepA σ P A) (wP : WfP P) (h1 : P 0 4 ≤ x) (h2 : x ≤ 1000) : m12_passes_8 F (n + 1) t (w32 x) σ = passEnd F t σ := by
  have e3 : gI σ 493 3 = w32 (P 0 4) := hA.2.1 3 (by decide)
  obtain ⟨n, hn, hn3⟩ := wP.2.2.1
  unfold m12_passes_8 passEnd
  rw [show (3 : Int32).toNatClampNeg = 3 from rfl, e3, if_pos (by rw [w_le (by omega) (by omega) (by omega) (by omega)]; exact h1), gd_pos (by decide)]
/-- the SMITHS one after another -/
theorem pass8_r {F : Nat} {P : Dat} {K : Nat → Int} {J : Nat → Int} {Wl : Nat → Bool} (wP : WfP P) (wJ : WfJ P) (wB : WfB P) (bK : BdK K) (hK6 : K 6 = 0) (hJn : ∀ q : Nat, P 0 4 ≤ (q : Int) → J q = -1) (hF : 100 ≤ F) :
    ∀ (d n' p : Nat) (σ : Mem) (s s' : WS) (tot : Int), p + d = 3 → d < n' → RepA σ P s'.1 → RepQ σ K → WfA P s'.1 → Bd (900000000 - 1000 * d) s'.1 → 0 ≤ s'.1 0 0 → s'.1 0 0 + 1 ≤ 9999 → Ag (fun i j => i = 2 ∧ J j = -1) s.1 s'.1 → s'.2 = s.2 → s.2.1 5 = K 5 → s.2.1 6 = K 6 → (∀ q : Nat, p ≤ q → jbs P s'.1 K q = J q) → (∀ q : Nat, p ≤ q → (q : Int) < P 0 4 → gI σ 494 q = w32 (turnS P J Wl q (workS P J Wl (q - p) p s))) →
    ∃ σ', m12_passes_8 F n' (w32 tot) (w32 (p : Int)) σ = passEnd F (w32 (tot + hitL P J Wl d p s)) σ' ∧ RepA σ' P (workR P J Wl d p s').1 ∧ RepQ σ' K ∧ Fr (fun c => c = 493 ∨ c = 496) σ σ' ∧ (∀ q : Nat, p ≤ q → (q : Int) < P 0 4 → gI σ' 496 q = w32 (hitS P J Wl q (workS P J Wl (q - p) p s))) ∧ (∀ q, q < p → gI σ' 496 q = gI σ 496 q) ∧ Tl σ σ' := by
  intro d
  have w2 := wP
  obtain ⟨bP, ⟨m, hm', hm8⟩, ⟨n, hn, hn3⟩, -⟩ := w2
  induction d with
  | zero =>
    intro n' p σ s s' tot h1 h2 hA hQ wA bA m0 m1 hag h22 h5 h6 hJ hT
    obtain ⟨n', rfl⟩ : ∃ k, n' = k + 1 := ⟨n' - 1, by omega⟩
    refine ⟨σ, ?_, hA, hQ, Fr.rf _ _, fun q a b => by omega, fun q _ => rfl, Tl.rf _⟩
    rw [pass_end hA wP (by omega) (by omega)]
    unfold hitL
    rw [Int.add_zero]
  | succ d ih =>
    intro n' p σ s s' tot h1 h2 hA hQ wA bA m0 m1 hag h22 h5 h6 hJ hT
    obtain ⟨n', rfl⟩ : ∃ k, n' = k + 1 := ⟨n' - 1, by omega⟩
    have e3 : gI σ 493 3 = w32 (P 0 4) := hA.2.1 3 (by decide)
    by_cases hpn : (p : Int) < P 0 4
    · have hEx : Ex J (fun i j => i = 2 ∧ J j = -1) := fun i j h => Or.inl h
      have htp := hT p (Nat.le_refl _) hpn
      rw [Nat.sub_self] at htp
      have htp : gI σ 494 p = w32 (turnS P J Wl p s) := htp
      have jl := jbs_lt (A := s'.1) (K := K) wP p
      rw [hJ p (Nat.le_refl _)] at jl
      have A1 : RepA (sI σ 496 p (0 : Int32)) P s'.1 := hA.same (by rw [gI_ne _ _ _ (by decide)]) (by rw [gI_nec (by decide)])
      have Q1 : RepQ (sI σ 496 p (0 : Int32)) K := hQ.sl (V := fun _ => False) (fun j _ => by rw [gI_nec (by decide)]) (fun j a b c h => h)
      obtain ⟨σ1, g1, g2, g3, g4, g5⟩ := goesOn_r (F := F) (J := J) (Wl := Wl) (s := s') (p := p) A1 Q1 wA wP (bA.mono (by omega)) bK hK6 hpn (by rw [h22]; exact h5) (by rw [h22]; exact h6) (hJ p (Nat.le_refl _)) (by rw [gI_nec (by decide), htp, turnS_ag hEx hag h22]) (fun j hjj => by
        have hjm := (jl.resolve_left (by omega)).2.1
        have := bitsN_rg (A := s'.1) (K := s'.2.1) (T := s'.2.2) (wJ j (by omega)).1
        omega) m1 (by rw [gI_eq]; rfl) hF
      have f1 := f12_goesOn g1
      have l1 := f12_goesOn_s g1
      have f2 : Fr (fun c => c = 493 ∨ c = 496) σ σ1 := (show Fr (fun c => c = 493 ∨ c = 496) σ (sI σ 496 p (0 : Int32)) from (Fr.rf _ _).sI (Or.inr rfl)).trans (f1.mono (fun c h => by unfold Wm12_goesOn at h; omega))
      have Q2 : RepQ σ1 K := Q1.sl l1 (fun j a b c h => by unfold Vm12_goesOn at h; first | exact h | omega)
      have hh : hitS P J Wl p s' = hitS P J Wl p s := hitS_ag hEx hag h22
      have ag := stepR_ag (P := P) (Wl := Wl) (p := p) hEx (fun q hq => ⟨rfl, hq⟩) hag h22
      obtain ⟨σ', r1, r2, r3, r4, r5, r6, r7⟩ := ih n' (p + 1) σ1 (stepS P J Wl p s) (stepR P J Wl p s') (tot + hitS P J Wl p s) (by omega) (by omega) g2 Q2 (stepR_wf wA wB wJ jl m0) ((stepR_bd bA bP (by omega)).mono (by omega)) (by rw [stepR_0]; exact m0) (by rw [stepR_0]; exact m1) ag.1 ag.2 (by rw [stepS_K (by decide)]; exact h5) (by rw [stepS_K (by decide)]; exact h6)
        (fun q hq => by
          rw [← hJ q (by omega)]
          refine jbs_congr (fun j hj => stepR_6 ?_) (fun j => stepR_8)
          by_cases hjp : J p = -1
          · exact Or.inl hjp
          · refine Or.inr (fun e => ?_)
            have := (jl.resolve_left hjp).2.2.1
            rw [← e, hj] at this
            omega)
        (fun q a b => by
          rw [f2.gI (by omega), hT q (by omega) b, show q - p = (q - (p + 1)) + 1 by omega]; rfl)
      refine ⟨σ', ?_, r2, r3, f2.trans r4, fun q a b => ?_, fun q hq => ?_, Tl.trans (Tl.trans ((Tl.rf _).ne (by decide)) g5) r7⟩
      · rw [show hitL P J Wl (d + 1) p s = hitS P J Wl p s + hitL P J Wl d (p + 1) (stepS P J Wl p s) from rfl, ← Int.add_assoc, ← r1, m12_passes_8]
        dsimp only
        rw [gd_pos (by decide), show (3 : Int32).toNatClampNeg = 3 from rfl, e3, if_neg (by rw [w_le (by omega) (by omega) (by omega) (by omega)]; omega), gd_pos (w_inB (by omega) (by omega) (by omega)), w_natk (k := p) (by omega), g1, Option.bind_some, gd_pos (w_inB (by omega) (by omega) (by omega)), g3, w_add, hh, w_succ]
      · rcases Nat.lt_or_ge p q with z | z
        · rw [r5 q (by omega) b, show q - p = (q - (p + 1)) + 1 by omega]; rfl
        · rw [show q = p by omega, r6 p (by omega), g3, hh, Nat.sub_self]; rfl
      · rw [r6 q (by omega), g4 q (by omega), gI_nej (by omega)]
    · have hq : ∀ q, p ≤ q → J q = -1 := fun q hq => hJn q (by omega)
      refine ⟨σ, ?_, ?_, hQ, Fr.rf _ _, fun q a b => by omega, fun q _ => rfl, Tl.rf _⟩
      · rw [hitL_none _ _ _ hq, Int.add_zero, pass_end hA wP (by omega) (by omega)]
      · rw [workR_none _ _ _ hq (by omega)]; exact hA
def passRA (P : Dat) (K : Nat → Int) (ro : Option Dat) (A : Dat) : Dat :=
  let s := workR P (jbs P A K) (wlN P A K ro (jbs P A K)) 3 0 (A, K0 K, fun _ => -1)
  up (wearL s.2.2 4 0 s.1) 0 0 (min 9999 (wearL s.2.2 4 0 s.1 0 0 + 1))
def hits (P : Dat) (K : Nat → Int) (ro : Option Dat) (A : Dat) (q : Nat) : Int := hitS P (jbs P A K) (wlN P A K ro (jbs P A K)) q (workS P (jbs P A K) (wlN P A K ro (jbs P A K)) q 0 (A, K0 K, fun _ => -1))
def hitN (P : Dat) (K : Nat → Int) (ro : Option Dat) (A : Dat) : Int := hitL P (jbs P A K) (wlN P A K ro (jbs P A K)) 3 0 (A, K0 K, fun _ => -1)
theorem wearL_lo {T : Nat → Int} {i q : Nat} : ∀ (d k : Nat) (A : Dat), (i ≠ 9 ∨ k + d ≤ q ∨ q < k) → wearL T d k A i q = A i q
  | 0, _, _, _ => rfl
  | d + 1, k, A, h => by
    unfold wearL
    rw [wearL_lo d (k + 1) _ (by omega)]
    split
    · rfl
    · split
      · rfl
      · rw [up_at, if_neg (by omega)]
theorem wearL_bd {T : Nat → Int} : ∀ (d k : Nat) (A : Dat) (B : Int), 1000 ≤ B → Bd B A → Bd (B + 1000 * d) (wearL T d k A)
  | 0, _, _, _, _, h => h.mono (by omega)
  | d + 1, k, A, B, hB, h => by
    unfold wearL
    have b := h 9 k
    refine (wearL_bd d (k + 1) _ (B + 1000) (by omega) ?_).mono (by omega)
    split
    · exact h.mono (by omega)
    · split
      · exact h.mono (by omega)
      · exact (h.mono (by omega)).up (by omega) (by omega)
theorem workR_bd {P : Dat} {J : Nat → Int} {Wl : Nat → Bool} (bP : Bd 1000 P) : ∀ (d p : Nat) (s : WS) (B : Int), 10000 ≤ B → Bd B s.1 → Bd (B + 1000 * d) (workR P J Wl d p s).1
  | 0, _, _, _, _, h => h.mono (by omega)
  | d + 1, p, s, B, hB, h => (workR_bd bP d (p + 1) (stepR P J Wl p s) (B + 1000) (by omega) (stepR_bd h bP hB)).mono (by omega)
theorem workR_0 {P : Dat} {J : Nat → Int} {Wl : Nat → Bool} : ∀ (d p : Nat) (s : WS), (workR P J Wl d p s).1 0 0 = s.1 0 0
  | 0, _, _ => rfl
  | d + 1, p, s => (workR_0 d (p + 1) (stepR P J Wl p s)).trans stepR_0
theorem passes_r {F : Nat} {σ : Mem} {P A : Dat} {K : Nat → Int} {ro : Option Dat} (hA : RepA σ P A) (hQ : RepQ σ K) (hR : RepFo σ ro) (wA : WfA P A) (wP : WfP P) (wJ : WfJ P) (wB : WfB P) (bA : Bd 800000000 A) (bK : BdK K) (bK3 : -1 ≤ K 3) (hK6 : K 6 = 0) (m0 : 0 ≤ A 0 0) (m1 : A 0 0 + 1 ≤ 9999) (h93 : A 9 3 < 9999) (hF : 1000 ≤ F) :
    ∃ σ', m12_passes F σ = some (w32 (hitN P K ro A), σ') ∧ RepA σ' P (passRA P K ro A) ∧ (∀ q : Nat, (q : Int) < P 0 4 → gI σ' 496 q = w32 (hits P K ro A q)) ∧ (∀ k, k < 3 → gI σ' 495 k = w32 ((passW P K ro A).2.2 k)) ∧ Tl σ σ' := by
  have w2 := wP
  obtain ⟨bP, ⟨m, hm', hm8⟩, ⟨n, hn, hn3⟩, -⟩ := w2
  obtain ⟨σ1, t1, t2, t3⟩ := turns_r (F := F) hA hQ hR wA wP wJ (bA.mono (by decide)) bK bK3 hF
  have f1 := f12_takesTurns t1
  have l1 := f12_takesTurns_s t1
  have A1 : RepA σ1 P A := hA.same (f1.gI (by unfold Wm12_takesTurns; omega)) (l1 27 (by unfold Vm12_takesTurns; omega))
  have Q1 : RepQ σ1 K := hQ.sl l1 (fun j a b c => by unfold Vm12_takesTurns; omega)
  have hK0 : ∀ j, j < 11 → K0 K j = K j := fun j hj => by unfold K0; rw [upK_lo (by omega), upK_lo (by omega), upK_lo (by omega)]
  obtain ⟨σ2, r1, A2, Q2, f2, r5, -, r7⟩ := pass8_r (F := F) (J := jbs P A K) (Wl := wlN P A K ro (jbs P A K)) wP wJ wB bK hK6 (fun q hq => J_ge wP wJ hq) (by omega) 3 F 0 σ1 (A, K0 K, fun _ => -1) (A, K0 K, fun _ => -1) 0 (by omega) (by omega) A1 Q1 wA (bA.mono (by omega)) m0 m1 (Ag.rf _ _) rfl (hK0 5 (by decide)) (hK0 6 (by decide)) (fun q _ => rfl) (fun q _ b => by rw [Nat.sub_zero]; exact t2 q b)
  have hEx : Ex (jbs P A K) (fun i j => i = 2 ∧ jbs P A K j = -1) := fun i j h => Or.inl h
  have hag := workR_ag (P := P) (Wl := wlN P A K ro (jbs P A K)) hEx (fun q hq => ⟨rfl, hq⟩) 3 0 (A, K0 K, fun _ => -1) (A, K0 K, fun _ => -1) (Ag.rf _ _) rfl
  have hT2 : ∀ k, k < 3 → gI σ2 495 k = w32 ((passW P K ro A).2.2 k) := fun k hk => by rw [f2.gI (by decide)]; exact t3 k hk
  have bT : BdT (passW P K ro A).2.2 := workS_T 3 0 (A, K0 K, fun _ => -1) (by decide) (fun k => by show -1 ≤ (-1 : Int) ∧ (-1 : Int) ≤ 3; omega)
  have bW := workR_bd (J := jbs P A K) (Wl := wlN P A K ro (jbs P A K)) bP 3 0 (A, K0 K, fun _ => -1) 800000000 (by decide) bA
  obtain ⟨σ3, u1, A3, f3, u2⟩ := wears2_r (F := F) wP bT 3 F 0 σ2 _ (by omega) (by omega) A2 (bW.mono (by decide)) hT2
  have btu : ∀ q, -1000 ≤ turnS P (jbs P A K) (wlN P A K ro (jbs P A K)) q (workS P (jbs P A K) (wlN P A K ro (jbs P A K)) q 0 (A, K0 K, fun _ => -1)) ∧ turnS P (jbs P A K) (wlN P A K ro (jbs P A K)) q (workS P (jbs P A K) (wlN P A K ro (jbs P A K)) q 0 (A, K0 K, fun _ => -1)) ≤ 1000 := fun q => by
    unfold turnS
    split
    · decide
    · split
      · split
        · unfold bitsN
          have := bP 4 (jbs P A K q).toNat
          split
          · exact this
          · split
            · split
              · exact this
              · decide
            · exact this
        · decide
      · decide
  obtain ⟨σ4, v1, A4, v2⟩ := wears52_r (F := F) (tu := fun q => turnS P (jbs P A K) (wlN P A K ro (jbs P A K)) q (workS P (jbs P A K) (wlN P A K ro (jbs P A K)) q 0 (A, K0 K, fun _ => -1))) wP btu 3 F 0 σ3 _ (by omega) (by omega) A3 (fun q hq => by rw [f3.gI (by decide), f2.gI (by decide)]; exact t2 q hq)
  have f4 := f12_wears_s52 (F := F) _ _ _ v1
  have f4' := f12_wears_52 (F := F) _ _ _ v1
  have hc8 := c8_work (P := P) (J := jbs P A K) (Wl := wlN P A K ro (jbs P A K)) (tu := fun q => turnS P (jbs P A K) (wlN P A K ro (jbs P A K)) q (workS P (jbs P A K) (wlN P A K ro (jbs P A K)) q 0 (A, K0 K, fun _ => -1))) (fun p hj => by
    have jl := (jbs_lt (A := A) (K := K) wP p).resolve_left hj
    have hw := wJ (jbs P A K p).toNat (by omega)
    exact ⟨hw.1, by rw [← jl.2.2.1]; exact hw.2.2⟩) 3 0 (A, K0 K, fun _ => -1) (by decide) (fun q _ _ => by rw [Nat.sub_zero])
  have hc8 : (if (passW P K ro A).2.2 3 = -1 then (0 : Int) else 1) = c8L P (fun q => turnS P (jbs P A K) (wlN P A K ro (jbs P A K)) q (workS P (jbs P A K) (wlN P A K ro (jbs P A K)) q 0 (A, K0 K, fun _ => -1))) 3 0 := by
    rw [if_pos (show (-1 : Int) = -1 from rfl)] at hc8
    rw [Int.add_zero] at hc8
    exact hc8
  have hwl : wearL (passW P K ro A).2.2 4 0 (workR P (jbs P A K) (wlN P A K ro (jbs P A K)) 3 0 (A, K0 K, fun _ => -1)).1 = up (wearL (passW P K ro A).2.2 3 0 (workR P (jbs P A K) (wlN P A K ro (jbs P A K)) 3 0 (A, K0 K, fun _ => -1)).1) 9 3 (wearL (passW P K ro A).2.2 3 0 (workR P (jbs P A K) (wlN P A K ro (jbs P A K)) 3 0 (A, K0 K, fun _ => -1)).1 9 3 + c8L P (fun q => turnS P (jbs P A K) (wlN P A K ro (jbs P A K)) q (workS P (jbs P A K) (wlN P A K ro (jbs P A K)) q 0 (A, K0 K, fun _ => -1))) 3 0) := by
    have h93' : wearL (passW P K ro A).2.2 3 0 (workR P (jbs P A K) (wlN P A K ro (jbs P A K)) 3 0 (A, K0 K, fun _ => -1)).1 9 3 = A 9 3 := by
      rw [wearL_lo 3 0 _ (by omega), hag.1 9 3 (by omega), workS_9]
    rw [← hc8, wearL_add 3 1 0, h93']
    show (if (passW P K ro A).2.2 3 = -1 then _ else _) = _
    by_cases h3 : (passW P K ro A).2.2 3 = -1
    · rw [if_pos h3, if_pos h3, up_self (by rw [h93']; omega)]
    · rw [if_neg h3, if_neg h3, if_neg (by rw [h93']; omega), h93']
  rw [← hwl] at A4
  have hT : (workR P (jbs P A K) (wlN P A K ro (jbs P A K)) 3 0 (A, K0 K, fun _ => -1)).2.2 = (passW P K ro A).2.2 := by rw [hag.2]; rfl
  have m00 : wearL (passW P K ro A).2.2 4 0 (workR P (jbs P A K) (wlN P A K ro (jbs P A K)) 3 0 (A, K0 K, fun _ => -1)).1 0 0 = A 0 0 := by
    rw [wearL_lo 4 0 _ (by omega), workR_0]
  have e5 : gI σ4 493 5 = w32 (A 0 0) := by rw [← m00]; exact A4.1 0 0 (by decide) rfl
  refine ⟨sI σ4 493 5 (w32 (A 0 0 + 1)), ?_, ?_, fun q hq => ?_, fun k hk => ?_, (Tl.trans (Tl.trans (Tl.trans (Tl.fr f1 (by unfold Wm12_takesTurns; omega)) r7) u2) v2).at (by decide)⟩
  · unfold m12_passes
    rw [t1, Option.bind_some]
    rw [Int.zero_add] at r1
    rw [show (0 : Int32) = w32 ((0 : Nat) : Int) from rfl]
    refine r1.trans ?_
    unfold passEnd m12_wears
    rw [Q2.2.2.1, if_pos (by rw [hK6]; rfl)]
    rw [show (0 : Int32) = w32 ((0 : Nat) : Int) from rfl, u1, show (0 : Int32) = w32 ((0 : Nat) : Int) from rfl, v1, Option.bind_some, gd_pos (by decide), gd_pos (by decide), show (5 : Int32).toNatClampNeg = 5 from rfl, e5, wl_1, w_add]
    rfl
  · have A5 := A4.upd (by omega) (by omega) 0 0 (A 0 0 + 1) (by decide) rfl
    unfold passRA
    dsimp only
    rw [hT, m00, Int.min_eq_right m1]
    exact A5
  · rw [gI_nec (by decide), f4'.gI (by unfold Wm12_wears; omega), f3.gI (by decide), r5 q (Nat.zero_le _) hq, Nat.sub_zero]
    rfl
  · rw [gI_nec (by decide), f4'.gI (by unfold Wm12_wears; omega), f3.gI (by decide)]
    exact hT2 k hk
