/-! QUERIES: ruled, look, 1: from the begin on; NOTES -/
def bgn (P : Dat) : Dat := fun i j => if i = 8 ∧ 8 ≤ j then 0 else beginA P i j
theorem bgn_S {c : Nat} {σ : Mem} {P : Dat} (h : RepS c σ (beginA P)) : RepS c σ (bgn P) := fun i hi j hj => by
  unfold bgn
  rw [if_neg (show ¬ (i = 8 ∧ 8 ≤ j) from fun z => by rw [z.1] at hj; have : j < 8 := hj; omega)]
  exact h i hi j hj
theorem bgn_0 {P : Dat} {j : Nat} : bgn P 0 j = 0 := by unfold bgn beginA; simp
theorem bgn_s {P : Dat} {i j : Nat} (h : (1 ≤ i ∧ i ≤ 5) ∨ i = 10) : bgn P i j = 0 := by
  unfold bgn beginA
  rw [if_neg (by omega), if_neg (by omega), if_neg (by omega), if_neg (by omega), if_neg (by omega)]
theorem bgn_6 {P : Dat} {j : Nat} : bgn P 6 j = P 5 j := by unfold bgn beginA; simp
theorem bgn_7 {P : Dat} {j : Nat} : bgn P 7 j = -1 := by unfold bgn beginA; simp
theorem bgn_8 {P : Dat} {j : Nat} (h : j < 8) : bgn P 8 j = (j : Int) := by
  unfold bgn beginA
  rw [if_neg (by omega)]; simp
theorem bgn_9 {P : Dat} {k : Nat} : bgn P 9 k = if k < 3 then P 8 k else 0 := by unfold bgn beginA; simp
theorem bgn_wf {P : Dat} (wPl : WfPl P) : WfSt P (bgn P) 0 := by
  obtain ⟨wP, wJ, wB, -, -, -, -, -, h8, -⟩ := id wPl
  obtain ⟨bP, ⟨m, hm, hm8⟩, ⟨n, hn, hn3⟩, -⟩ := id wP
  have wI : WfI P (bgn P) 0 := by
    refine ⟨⟨fun j hj => ?_, fun p hp => ?_, fun k hk => ?_⟩, by rw [bgn_0]; decide, by rw [bgn_0]; decide, fun i j => ?_, fun p _ _ => bgn_s (by decide), by rw [bgn_9, if_neg (by decide)]; decide⟩
    · have := wB.1 j hj
      rw [bgn_6, bgn_7]; omega
    · rw [bgn_s (by decide)]; exact ⟨Int.le_refl _, wB.2.2.2⟩
    · rw [bgn_9]
      split
      · exact h8 k (by assumption)
      · exact Int.le_refl _
    · unfold bgn beginA
      have b5 := bP 5 j
      have b8 := bP 8 j
      by_cases a : i = 8 ∧ 8 ≤ j
      · rw [if_pos a]; omega
      · rw [if_neg a]
        split
        · omega
        · split
          · omega
          · split
            · omega
            · split
              · split <;> omega
              · omega
  refine ⟨wI, by rw [bgn_9, if_neg (by decide)], fun p hp => ?_, fun j => ?_⟩
  · rw [bgn_s (by decide)]
    have loop : ∀ (d j : Nat), j + d ≤ m → earnL P (bgn P) (p : Int) d j 0 = 0 := by
      intro d
      induction d with
      | zero => intro j _; rfl
      | succ d ih =>
        intro j h
        unfold earnL
        have := wB.1 j (by omega)
        rw [if_neg (fun z => by rw [bgn_6] at z; omega)]
        exact ih (j + 1) (by omega)
    unfold earnN
    rw [hm, Int.toNat_natCast]
    exact (loop m 0 (by omega)).symm
  · unfold bgn
    by_cases a : 8 ≤ j
    · rw [if_pos ⟨rfl, a⟩]; omega
    · rw [if_neg (fun z => a z.2)]
      show 0 ≤ (j : Int) ∧ (j : Int) ≤ _
      omega
/-! the reference's begin -/
theorem bg21 {F p : Nat} {k9 : Int32 → Mem → Option Mem} (hp : p < 3) : ∀ (d n' k : Nat) (σ : Mem), k + d = 7 → d < n' → ∃ σ', m12_begins_21 F k9 n' (w32 (p : Int)) (w32 (k : Int)) σ = k9 (w32 ((p + 1 : Nat) : Int)) σ' ∧ (∀ k', k ≤ k' → k' < 7 → k' ≠ 5 → gI σ' 493 (10 + 7 * p + k') = w32 0) ∧ (∀ c, (c < 10 + 7 * p + k ∨ 17 + 7 * p ≤ c ∨ c = 15 + 7 * p) → gI σ' 493 c = gI σ 493 c) := by
  intro d
  induction d with
  | zero =>
    intro n' k σ h1 h2
    obtain ⟨n', rfl⟩ : ∃ q, n' = q + 1 := ⟨n' - 1, by omega⟩
    unfold m12_begins_21
    rw [if_pos (by rw [wl_7, w_le (by omega) (by omega) (by omega) (by omega)]; omega), w_succ]
    exact ⟨σ, rfl, fun k' a b _ => by omega, fun _ _ => rfl⟩
  | succ d ih =>
    intro n' k σ h1 h2
    obtain ⟨n', rfl⟩ : ∃ q, n' = q + 1 := ⟨n' - 1, by omega⟩
    have i0 : ((w32 10 + (w32 7 * w32 (p : Int))) + w32 (k : Int)) = w32 ((10 + 7 * p + k : Nat) : Int) := by rw [w_mul, w_add, w_add]; congr 1 <;> omega
    unfold m12_begins_21
    rw [if_neg (by rw [wl_7, w_le (by omega) (by omega) (by omega) (by omega)]; omega), w_succ]
    by_cases h5 : k = 5
    · rw [if_pos (by rw [h5]; rfl)]
      obtain ⟨σ', m1, a, b⟩ := ih n' (k + 1) σ (by omega) (by omega)
      exact ⟨σ', m1, fun k' a1 a2 a3 => a k' (by omega) a2 a3, fun c hc => b c (by omega)⟩
    · rw [if_neg (by rw [wl_5, w_eq (by omega) (by omega) (by omega) (by omega)]; omega), wl_10, wl_7, i0, gd_pos (w_inB (by omega) (by omega) (by omega)), w_natk (by omega)]
      obtain ⟨σ', m1, a, b⟩ := ih n' (k + 1) (sI σ 493 (10 + 7 * p + k) (0 : Int32)) (by omega) (by omega)
      refine ⟨σ', m1, fun k' a1 a2 a3 => ?_, fun c hc => ?_⟩
      · by_cases z : k' = k
        · rw [z, b _ (by omega), gI_eq]; rfl
        · exact a k' (by omega) a2 a3
      · rw [b c (by omega), gI_nej (by omega)]
theorem bg9 {F n : Nat} (hn3 : n ≤ 3) (hF : 100 ≤ F) : ∀ (d n' p : Nat) (σ : Mem), p + d = n → d < n' → gI σ 493 3 = w32 (n : Int) → ∃ σ', m12_begins_9 F n' (w32 (p : Int)) σ = m12_begins_61 F F (0 : Int32) σ' ∧ (∀ p' k', p ≤ p' → p' < n → k' < 7 → k' ≠ 5 → gI σ' 493 (10 + 7 * p' + k') = w32 0) ∧ (∀ c, (c < 10 + 7 * p ∨ 31 ≤ c ∨ ∃ p', c = 15 + 7 * p') → gI σ' 493 c = gI σ 493 c) := by
  intro d
  induction d with
  | zero =>
    intro n' p σ h1 h2 e3
    obtain ⟨n', rfl⟩ : ∃ q, n' = q + 1 := ⟨n' - 1, by omega⟩
    unfold m12_begins_9
    rw [gd_pos (by decide), show (3 : Int32).toNatClampNeg = 3 from rfl, e3, if_pos (by rw [w_le (by omega) (by omega) (by omega) (by omega)]; omega)]
    exact ⟨σ, rfl, fun p' k' a b => by omega, fun _ _ => rfl⟩
  | succ d ih =>
    intro n' p σ h1 h2 e3
    obtain ⟨n', rfl⟩ : ∃ q, n' = q + 1 := ⟨n' - 1, by omega⟩
    unfold m12_begins_9
    rw [gd_pos (by decide), show (3 : Int32).toNatClampNeg = 3 from rfl, e3, if_neg (by rw [w_le (by omega) (by omega) (by omega) (by omega)]; omega)]
    obtain ⟨σ1, m1, a1, b1⟩ := bg21 (F := F) (p := p) (k9 := fun x1 σ => m12_begins_9 F n' x1 σ) (by omega) 7 F 0 σ (by omega) (by omega)
    have m1' : m12_begins_21 F (fun x1 σ => m12_begins_9 F n' x1 σ) F (w32 (p : Int)) (0 : Int32) σ = _ := m1
    rw [m1']
    obtain ⟨σ2, m2, a2, b2⟩ := ih n' (p + 1) σ1 (by omega) (by omega) (by rw [b1 3 (by omega)]; exact e3)
    refine ⟨σ2, m2, fun p' k' x1 x2 x3 x4 => ?_, fun c hc => ?_⟩
    · by_cases z : p' = p
      · rw [z, b2 _ (by omega)]; exact a1 k' (Nat.zero_le _) x3 x4
      · exact a2 p' k' (by omega) x2 x3 x4
    · rcases hc with h | h | ⟨p', h⟩
      · rw [b2 c (Or.inl (by omega)), b1 c (Or.inl (by omega))]
      · rw [b2 c (Or.inr (Or.inl h)), b1 c (Or.inr (Or.inl (by omega)))]
      · rw [b2 c (Or.inr (Or.inr ⟨p', h⟩)), b1 c (by omega)]
theorem bg61 {F m : Nat} (hm8 : m ≤ 8) (hF : 100 ≤ F) : ∀ (d n' j : Nat) (σ : Mem), j + d = m → d < n' → gI σ 493 4 = w32 (m : Int) → ∃ σ', m12_begins_61 F n' (w32 (j : Int)) σ = m12_begins_123 F F (0 : Int32) σ' ∧ (∀ j', j ≤ j' → j' < m → gI σ' 493 (33 + 8 * j') = gI σ 493 (38 + 8 * j') ∧ gI σ' 493 (36 + 8 * j') = w32 (-1) ∧ gI σ' 493 (37 + 8 * j') = w32 (j' : Int)) ∧ (∀ c, (c < 31 + 8 * j ∨ 95 ≤ c ∨ (c - 31) % 8 = 0 ∨ (c - 31) % 8 = 1 ∨ (c - 31) % 8 = 3 ∨ (c - 31) % 8 = 4 ∨ (c - 31) % 8 = 7) → gI σ' 493 c = gI σ 493 c) := by
  intro d
  induction d with
  | zero =>
    intro n' j σ h1 h2 e4
    obtain ⟨n', rfl⟩ : ∃ q, n' = q + 1 := ⟨n' - 1, by omega⟩
    unfold m12_begins_61
    rw [gd_pos (by decide), show (4 : Int32).toNatClampNeg = 4 from rfl, e4, if_pos (by rw [w_le (by omega) (by omega) (by omega) (by omega)]; omega)]
    exact ⟨σ, rfl, fun j' a b => by omega, fun _ _ => rfl⟩
  | succ d ih =>
    intro n' j σ h1 h2 e4
    obtain ⟨n', rfl⟩ : ∃ q, n' = q + 1 := ⟨n' - 1, by omega⟩
    have i0 : w32 31 + (w32 8 * w32 (j : Int)) = w32 ((31 + 8 * j : Nat) : Int) := by rw [w_mul, w_add]; congr 1 <;> omega
    have ik : ∀ k : Int, w32 ((31 + 8 * j : Nat) : Int) + w32 k = w32 (((31 + 8 * j : Nat) : Int) + k) := fun k => by rw [w_add]
    unfold m12_begins_61
    rw [gd_pos (by decide), show (4 : Int32).toNatClampNeg = 4 from rfl, e4, if_neg (by rw [w_le (by omega) (by omega) (by omega) (by omega)]; omega), wl_31, wl_8, i0, wl_7, wl_2, wl_5, wl_6, ik, ik, ik, ik, gd_pos (w_inB (by omega) (by omega) (by omega)), gd_pos (w_inB (by omega) (by omega) (by omega)), gd_pos (w_inB (by omega) (by omega) (by omega)), gd_pos (w_inB (by omega) (by omega) (by omega)), w_nat (by omega) (by omega), w_nat (by omega) (by omega), w_nat (by omega) (by omega), w_nat (by omega) (by omega), w_succ]
    rw [show (((31 + 8 * j : Nat) : Int) + 7).toNat = 38 + 8 * j by omega, show (((31 + 8 * j : Nat) : Int) + 2).toNat = 33 + 8 * j by omega, show (((31 + 8 * j : Nat) : Int) + 5).toNat = 36 + 8 * j by omega, show (((31 + 8 * j : Nat) : Int) + 6).toNat = 37 + 8 * j by omega]
    obtain ⟨σ', m1, a, b⟩ := ih n' (j + 1) (sI (sI (sI σ 493 (33 + 8 * j) (gI σ 493 (38 + 8 * j))) 493 (36 + 8 * j) (-1 : Int32)) 493 (37 + 8 * j) (w32 (j : Int))) (by omega) (by omega) (by rw [gI_nej (by omega), gI_nej (by omega), gI_nej (by omega)]; exact e4)
    refine ⟨σ', m1, fun j' x1 x2 => ?_, fun c hc => ?_⟩
    · by_cases z : j' = j
      · rw [z, b _ (Or.inl (by omega)), b _ (Or.inl (by omega)), b _ (Or.inl (by omega)), gI_nej (by omega), gI_nej (by omega), gI_eq, gI_nej (by omega), gI_eq, gI_eq]
        exact ⟨rfl, rfl, rfl⟩
      · obtain ⟨y1, y2, y3⟩ := a j' (by omega) x2
        exact ⟨by rw [y1, gI_nej (by omega), gI_nej (by omega), gI_nej (by omega)], y2, y3⟩
    · rw [b c (by omega), gI_nej (by omega), gI_nej (by omega), gI_nej (by omega)]
theorem bg123 {F : Nat} : ∀ (d n' k : Nat) (σ : Mem), k + d = 3 → d < n' → ∃ σ', m12_begins_123 F n' (w32 (k : Int)) σ = some σ' ∧ (∀ k', k ≤ k' → k' < 3 → gI σ' 493 (95 + k') = gI σ 493 (98 + k')) ∧ (∀ c, (c < 95 + k ∨ 98 ≤ c) → gI σ' 493 c = gI σ 493 c) := by
  intro d
  induction d with
  | zero =>
    intro n' k σ h1 h2
    obtain ⟨n', rfl⟩ : ∃ q, n' = q + 1 := ⟨n' - 1, by omega⟩
    unfold m12_begins_123
    rw [if_pos (by rw [wl_3, w_le (by omega) (by omega) (by omega) (by omega)]; omega)]
    exact ⟨σ, rfl, fun k' a b => by omega, fun _ _ => rfl⟩
  | succ d ih =>
    intro n' k σ h1 h2
    obtain ⟨n', rfl⟩ : ∃ q, n' = q + 1 := ⟨n' - 1, by omega⟩
    have i8 : w32 98 + w32 (k : Int) = w32 ((98 + k : Nat) : Int) := by rw [w_add]; congr 1
    have i5 : w32 95 + w32 (k : Int) = w32 ((95 + k : Nat) : Int) := by rw [w_add]; congr 1
    unfold m12_begins_123
    rw [if_neg (by rw [wl_3, w_le (by omega) (by omega) (by omega) (by omega)]; omega), wl_98, wl_95, i8, i5, gd_pos (w_inB (by omega) (by omega) (by omega)), gd_pos (w_inB (by omega) (by omega) (by omega)), w_natk (by omega), w_natk (by omega), w_succ]
    obtain ⟨σ', m1, a, b⟩ := ih n' (k + 1) (sI σ 493 (95 + k) (gI σ 493 (98 + k))) (by omega) (by omega)
    refine ⟨σ', m1, fun k' x1 x2 => ?_, fun c hc => ?_⟩
    · by_cases z : k' = k
      · rw [z, b _ (by omega), gI_eq]
      · rw [a k' (by omega) x2, gI_nej (by omega)]
    · rw [b c (by omega), gI_nej (by omega)]
theorem begins_r {F : Nat} {σ : Mem} {P A : Dat} (wPl : WfPl P) (hA : RepA σ P A) (h27 : gI σ 483 27 = w32 0) (hF : 100 ≤ F) : ∃ σ', m12_begins F σ = some σ' ∧ RepA σ' P (bgn P) ∧ Tl σ σ' := by
  obtain ⟨bP, ⟨m, hm, hm8⟩, ⟨n, hn, hn3⟩, -⟩ := id wPl.1
  obtain ⟨x1, x2, x3, x4, x5, x6⟩ := id hA
  have e3 : gI σ 493 3 = w32 (n : Int) := by rw [← hn]; exact x2 3 (by decide)
  have e4 : gI σ 493 4 = w32 (m : Int) := by rw [← hm]; exact x2 4 (by decide)
  obtain ⟨σ1, m1, a1, b1⟩ := bg9 (F := F) hn3 hF n F 0 (sI σ 493 5 (0 : Int32)) (by omega) (by omega) (by rw [gI_nej (by decide)]; exact e3)
  obtain ⟨σ2, m2, a2, b2⟩ := bg61 (F := F) hm8 hF m F 0 σ1 (by omega) (by omega) (by rw [b1 4 (by omega), gI_nej (by decide)]; exact e4)
  obtain ⟨σ3, m3, a3, b3⟩ := bg123 (F := F) 3 F 0 σ2 (by omega) (by omega)
  have mm : m12_begins F σ = some σ3 := by
    unfold m12_begins
    rw [gd_pos (by decide), show (5 : Int32).toNatClampNeg = 5 from rfl]
    have m1' : m12_begins_9 F F (0 : Int32) (sI σ 493 5 (0 : Int32)) = _ := m1
    have m2' : m12_begins_61 F F (0 : Int32) σ1 = _ := m2
    dsimp only
    rw [m1', m2']
    exact m3
  have f := f12_begins mm
  have s := f12_begins_s mm
  have k1 : ∀ c, (c < 5 ∨ 98 ≤ c) → gI σ3 493 c = gI σ 493 c := fun c hc => by
    rw [b3 c (by omega), b2 c (by omega), b1 c (by omega), gI_nej (by omega)]
  have sm : ∀ p k, p < n → k < 7 → k ≠ 5 → gI σ3 493 (10 + 7 * p + k) = w32 0 := fun p k hp hk h5 => by
    rw [b3 _ (by omega), b2 _ (by omega), a1 p k (Nat.zero_le _) hp hk h5]
  have jb : ∀ j, j < m → gI σ3 493 (33 + 8 * j) = w32 (P 5 j) ∧ gI σ3 493 (36 + 8 * j) = w32 (-1) ∧ gI σ3 493 (37 + 8 * j) = w32 (j : Int) := fun j hj => by
    obtain ⟨y1, y2, y3⟩ := a2 j (Nat.zero_le _) hj
    have q := (x4 j (by omega)).2.2.2.2
    refine ⟨?_, ?_, ?_⟩
    · rw [b3 _ (by omega), y1, b1 _ (by omega), gI_nej (by omega)]; exact q
    · rw [b3 _ (by omega)]; exact y2
    · rw [b3 _ (by omega)]; exact y3
  refine ⟨σ3, mm, ⟨fun i j hi hs => ?_, fun j hj => by rw [k1 j (by omega)]; exact x2 j hj, fun p hp => ?_, fun j hj => ?_, fun k hk => by rw [k1 _ (by omega)]; exact x5 k hk, ?_⟩, fun k hk => k1 k (by omega)⟩
  · rcases (show i = 0 ∨ i = 1 ∨ i = 2 ∨ i = 3 ∨ i = 4 ∨ i = 5 ∨ i = 6 ∨ i = 7 ∨ i = 8 ∨ i = 9 ∨ i = 10 by omega) with rfl | rfl | rfl | rfl | rfl | rfl | rfl | rfl | rfl | rfl | rfl
    · rw [bgn_0]
      show gI σ3 493 5 = w32 0
      rw [b3 5 (by omega), b2 5 (by omega), b1 5 (by omega), gI_eq]; rfl
    · rw [bgn_s (by decide)]
      exact sm j 0 (by have : (j : Int) < P 0 4 := hs; omega) (by decide) (by decide)
    · rw [bgn_s (by decide)]
      have := sm j 1 (by have : (j : Int) < P 0 4 := hs; omega) (by decide) (by decide)
      rw [show 10 + 7 * j + 1 = 11 + 7 * j by omega] at this
      exact this
    · rw [bgn_s (by decide)]
      have := sm j 2 (by have : (j : Int) < P 0 4 := hs; omega) (by decide) (by decide)
      rw [show 10 + 7 * j + 2 = 12 + 7 * j by omega] at this
      exact this
    · rw [bgn_s (by decide)]
      have := sm j 4 (by have : (j : Int) < P 0 4 := hs; omega) (by decide) (by decide)
      rw [show 10 + 7 * j + 4 = 14 + 7 * j by omega] at this
      exact this
    · rw [bgn_s (by decide)]
      have := sm j 6 (by have : (j : Int) < P 0 4 := hs; omega) (by decide) (by decide)
      rw [show 10 + 7 * j + 6 = 16 + 7 * j by omega] at this
      exact this
    · rw [bgn_6]; exact (jb j (by have : (j : Int) < P 0 5 := hs; omega)).1
    · rw [bgn_7]; exact (jb j (by have : (j : Int) < P 0 5 := hs; omega)).2.1
    · have hj : (j : Int) < P 0 5 := hs
      rw [bgn_8 (by omega)]; exact (jb j (by omega)).2.2
    · have hj : j < 3 := hs
      rw [bgn_9, if_pos hj]
      show gI σ3 493 (95 + j) = _
      rw [a3 j (Nat.zero_le _) hj, b2 _ (by omega), b1 _ (by omega), gI_nej (by omega)]
      exact x5 j hj
    · rw [bgn_s (by decide)]
      have := sm j 3 (by have : (j : Int) < P 0 4 := hs; omega) (by decide) (by decide)
      rw [show 10 + 7 * j + 3 = 13 + 7 * j by omega] at this
      exact this
  · rw [b3 _ (by omega), b2 _ (by omega), b1 _ (Or.inr (Or.inr ⟨p, rfl⟩)), gI_nej (by omega)]
    exact x3 p hp
  · obtain ⟨y1, y2, y3, y4, y5⟩ := x4 j hj
    refine ⟨?_, ?_, ?_, ?_, ?_⟩
    · rw [b3 _ (by omega), b2 _ (by omega), b1 _ (by omega), gI_nej (by omega)]; exact y1
    · rw [b3 _ (by omega), b2 _ (by omega), b1 _ (by omega), gI_nej (by omega)]; exact y2
    · rw [b3 _ (by omega), b2 _ (by omega), b1 _ (by omega), gI_nej (by omega)]; exact y3
    · rw [b3 _ (by omega), b2 _ (by omega), b1 _ (by omega), gI_nej (by omega)]; exact y4
    · rw [b3 _ (by omega), b2 _ (by omega), b1 _ (by omega), gI_nej (by omega)]; exact y5
  · rw [s 27 (fun z => by unfold Vm12_begins at z; exact z), h27, bgn_9]; rfl
/-! are the NOTES so -/
def agL (N A : Dat) (m : Nat) : Nat → Nat → Bool
  | 0, _ => true
  | d + 1, i => if N 1 i = (m : Int) ∧ ¬ A 9 (N 2 i).toNat = N 3 i then false else agL N A m d (i + 1)
def agN (N A : Dat) (m : Nat) : Bool := agL N A m (N 0 0).toNat 0
theorem agL_none {N A : Dat} {m : Nat} : ∀ (d i : Nat), (∀ k, i ≤ k → k < i + d → N 1 k ≠ (m : Int)) → agL N A m d i = true
  | 0, _, _ => rfl
  | d + 1, i, h => by
    unfold agL
    rw [if_neg (fun z => h i (Nat.le_refl _) (by omega) z.1)]
    exact agL_none d (i + 1) (fun k h1 h2 => h k (by omega) (by omega))
theorem agree_c {F : Nat} {σ : Mem} {N A : Dat} {m : Nat} (hN : RepN 36 σ N) (hS : RepS 136 σ A) (wN : WfN N) (bA : Bd 1000000000 A) (hm : m ≤ 1000) (hF : 100 ≤ F) : m3_agree F 36 (w32 (m : Int)) 136 σ = some (if agN N A m then (1 : Int32) else 0) := by
  obtain ⟨w1, w2, w3⟩ := wN
  have e0 := hN.1
  have loop : ∀ (d n i : Nat), (i : Int) + d = N 0 0 → d < n → m3_agree_2 F 36 (w32 (m : Int)) 136 σ n (w32 (i : Int)) = some (if agL N A m d i then (1 : Int32) else 0) := by
    intro d
    induction d with
    | zero =>
      intro n i h1 h2
      obtain ⟨n, rfl⟩ : ∃ k, n = k + 1 := ⟨n - 1, by omega⟩
      unfold m3_agree_2 agL
      rw [e0, if_pos (by rw [w_le (by omega) (by omega) (by omega) (by omega)]; omega)]; rfl
    | succ d ih =>
      intro n i h1 h2
      obtain ⟨n, rfl⟩ : ∃ k, n = k + 1 := ⟨n - 1, by omega⟩
      obtain ⟨y1, y2, y3, y4, y5, y6⟩ := w3 i (by omega)
      have q1 := hN.2 1 (by decide) (by decide) i (by omega)
      have q2 := hN.2 2 (by decide) (by decide) i (by omega)
      have q3 := hN.2 3 (by decide) (by decide) i (by omega)
      have q9 := hS.at 9 (N 2 i).toNat
      have b9 := bA 9 (N 2 i).toNat
      unfold m3_agree_2
      rw [e0, if_neg (by rw [w_le (by omega) (by omega) (by omega) (by omega)]; omega), gd_pos (w_inB (by omega) (by omega) (by omega)), w_natk (by omega), q1, w_succ]
      by_cases h : N 1 i = (m : Int)
      · rw [if_pos (by rw [h]), gd_pos (w_inB (by omega) (by omega) (by omega)), q2, gd_pos (w_inB (by omega) (by omega) (by omega)), gd_pos (w_inB (by omega) (by omega) (by omega)), w_nat (by omega) (by omega), q3, q9]
        by_cases h3 : A 9 (N 2 i).toNat = N 3 i
        · rw [if_pos (by rw [h3]), show agL N A m (d + 1) i = agL N A m d (i + 1) from if_neg (fun z => z.2 h3)]
          exact ih n (i + 1) (by omega) (by omega)
        · rw [if_neg (by rw [w_eq (by omega) (by omega) (by omega) (by omega)]; exact h3), show agL N A m (d + 1) i = false from if_pos ⟨h, h3⟩]; rfl
      · rw [if_neg (by rw [w_eq (by omega) (by omega) (by omega) (by omega)]; exact h), show agL N A m (d + 1) i = agL N A m d (i + 1) from if_neg (fun z => h z.1)]
        exact ih n (i + 1) (by omega) (by omega)
  unfold m3_agree agN
  exact loop (N 0 0).toNat F 0 (by omega) (by omega)
theorem notesSo_r {F : Nat} {σ : Mem} {P N A : Dat} {m : Nat} (hN : NoteR (gI σ 493) N) (hA : RepA σ P A) (hm : A 0 0 = (m : Int)) (wN : WfN N) (bA : Bd 1000000000 A) (hm1 : m ≤ 1000) (hF : 100 ≤ F) : m12_areNotesSo F σ = some (if agN N A m then (1 : Int32) else 0) := by
  obtain ⟨w1, w2, w3⟩ := wN
  have e0 := hN.1
  have e5 : gI σ 493 5 = w32 (m : Int) := by rw [← hm]; exact hA.1 0 0 (by decide) rfl
  have loop : ∀ (d n i : Nat), (i : Int) + d = N 0 0 → d < n → m12_areNotesSo_2 F σ n (w32 (i : Int)) = some (if agL N A m d i then (1 : Int32) else 0) := by
    intro d
    induction d with
    | zero =>
      intro n i h1 h2
      obtain ⟨n, rfl⟩ : ∃ k, n = k + 1 := ⟨n - 1, by omega⟩
      unfold m12_areNotesSo_2 agL
      rw [gd_pos (by decide), show (131 : Int32).toNatClampNeg = 131 from rfl, e0, if_pos (by rw [w_le (by omega) (by omega) (by omega) (by omega)]; omega)]; rfl
    | succ d ih =>
      intro n i h1 h2
      obtain ⟨n, rfl⟩ : ∃ k, n = k + 1 := ⟨n - 1, by omega⟩
      obtain ⟨y1, y2, y3, y4, y5, y6⟩ := w3 i (by omega)
      obtain ⟨q1, q2, q3⟩ := hN.2 i (by omega)
      have q9 : gI σ 493 (95 + (N 2 i).toNat) = w32 (A 9 (N 2 i).toNat) := hA.1 9 (N 2 i).toNat (by decide) (show (N 2 i).toNat < 3 by omega)
      have b9 := bA 9 (N 2 i).toNat
      have i0 : w32 101 + (w32 3 * w32 (i : Int)) = w32 ((101 + 3 * i : Nat) : Int) := by rw [w_mul, w_add]; congr 1 <;> omega
      have i1 : w32 ((101 + 3 * i : Nat) : Int) + w32 1 = w32 ((102 + 3 * i : Nat) : Int) := by rw [w_add]; congr 1; omega
      have i2 : w32 ((101 + 3 * i : Nat) : Int) + w32 2 = w32 ((103 + 3 * i : Nat) : Int) := by rw [w_add]; congr 1; omega
      have i9 : w32 95 + w32 (N 2 i) = w32 ((95 + (N 2 i).toNat : Nat) : Int) := by rw [w_add]; congr 1; omega
      unfold m12_areNotesSo_2
      rw [gd_pos (by decide), show (131 : Int32).toNatClampNeg = 131 from rfl, e0, if_neg (by rw [w_le (by omega) (by omega) (by omega) (by omega)]; omega), w_succ, wl_101, wl_3, i0, gd_pos (w_inB (by omega) (by omega) (by omega)), gd_pos (by decide), w_natk (by omega), q1, show (5 : Int32).toNatClampNeg = 5 from rfl, e5]
      by_cases h : N 1 i = (m : Int)
      · rw [if_pos (by rw [h]), wl_1, i1, gd_pos (w_inB (by omega) (by omega) (by omega)), w_natk (by omega), q2, wl_95, i9, gd_pos (w_inB (by omega) (by omega) (by omega)), w_natk (by omega), wl_2, i2, gd_pos (w_inB (by omega) (by omega) (by omega)), w_natk (by omega), q3, q9]
        by_cases h3 : A 9 (N 2 i).toNat = N 3 i
        · rw [if_pos (by rw [h3]), show agL N A m (d + 1) i = agL N A m d (i + 1) from if_neg (fun z => z.2 h3)]
          exact ih n (i + 1) (by omega) (by omega)
        · rw [if_neg (by rw [w_eq (by omega) (by omega) (by omega) (by omega)]; exact h3), show agL N A m (d + 1) i = false from if_pos ⟨h, h3⟩]; rfl
      · rw [if_neg (by rw [w_eq (by omega) (by omega) (by omega) (by omega)]; exact h), show agL N A m (d + 1) i = agL N A m d (i + 1) from if_neg (fun z => h z.1)]
        exact ih n (i + 1) (by omega) (by omega)
  unfold m12_areNotesSo agN
  exact loop (N 0 0).toNat F 0 (by omega) (by omega)
