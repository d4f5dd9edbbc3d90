/-! THE FORGE OF THE CLASS: who takes what, a whole MOMENT -/
def freeN (P A : Dat) (T : Nat → Int) (k : Nat) : Bool := decide (T k = -1) && decide (A 9 k < P 0 3)
def RepT (σ : Mem) (T : Nat → Int) : Prop := ∀ k, k < 4 → gI σ 43 k = w32 (T k)
def BdT (T : Nat → Int) : Prop := ∀ k, -1 ≤ T k ∧ T k ≤ 3
theorem isFree_ok {F c1 : Nat} {σ : Mem} {P A : Dat} {T : Nat → Int} {k : Nat} (hP : RepP 17 σ P) (hS : RepS c1 σ A) (hT : RepT σ T) (bP : Bd 1000000000 P) (bA : Bd 1000000000 A) (bT : BdT T) (hk : k < 4) : m2_isFree F c1 (w32 (k : Int)) σ = some (if freeN P A T k then w32 1 else w32 0) := by
  have e1 := hT k hk
  have e2 := hS.at 9 k
  have e3 : gI σ 17 3 = w32 (P 0 3) := hP.at 0 3
  have b1 := bT k
  have b2 := bA 9 k
  have b3 := bP 0 3
  unfold m2_isFree freeN
  simp (disch := omega) only [wl_0, wl_1, wl_2, wl_3, wl_4, wl_5, wl_6, wl_7, wl_8, wl_9, wl_10, wl_11, wl_12, wl_13, wl_14, wl_15, wl_16, wl_20, wl_24, wl_26, wl_30, wl_31, wl_32, wl_40, wl_41, wl_47, wl_48, wl_50, wl_58, wl_59, wl_60, wl_61, wl_64, wl_91, wl_93, wl_95, wl_97, wl_98, wl_99, wl_100, wl_101, wl_122, wl_131, wl_132, wl_200, wl_255, wl_400, wl_500, wl_501, wl_999, wl_1960, wl_9999, wl_99999, wl_4000000, wl_m1, wl_m2, wl_m3, wl_m8, wl_m20, wl_m21, wl_m22, wl_m23, wl_m24, wl_m25, wl_m26, wl_m27, wl_m28, wl_m29, wl_m30, wl_m31, wl_m32, wl_m100000, w_add, w_sub, w_mul, w_neg, w_eq, w_lt, w_le, w_natk, w_nat, Int.toNat_natCast, tn_0, tn_1, tn_2, tn_3, tn_4, tn_5, tn_6, tn_7, tn_8, tn_9, tn_10, tn_11, tn_12, tn_13, tn_14, tn_15, tn_16, tn_20, tn_24, tn_26, tn_30, tn_31, tn_32, tn_40, tn_41, tn_47, tn_48, tn_50, tn_58, tn_59, tn_60, tn_61, tn_64, tn_91, tn_93, tn_95, tn_97, tn_98, tn_99, tn_100, tn_101, tn_122, tn_131, tn_132, w_inB, gd_T, Option.bind_some, ↓reduceIte, if_true, if_false, ite_true, ite_false, e1, e2, e3]
  by_cases h1 : T k = -1
  · by_cases h2 : P 0 3 ≤ A 9 k
    · simp [h1, h2]; omega
    · simp [h1, h2]
      first | done | omega
  · simp [h1]
def okL (P A : Dat) (T : Nat → Int) (b : Int) : Nat → Nat → Bool
  | 0, _ => true
  | d + 1, k => if bitI b k then (if freeN P A T k then okL P A T b d (k + 1) else false) else okL P A T b d (k + 1)
theorem takes42_ok {F c1 : Nat} {σ : Mem} {P A : Dat} {T : Nat → Int} {b : Int} {i2 : Int32} (hP : RepP 17 σ P) (hS : RepS c1 σ A) (hT : RepT σ T) (bP : Bd 1000000000 P) (bA : Bd 1000000000 A) (bT : BdT T) : ∀ (d n k : Nat), k + d = 4 → d < n → m2_takes_42 F c1 i2 n (w32 b) (w32 (k : Int)) σ = if okL P A T b d k then m2_takes_79 F c1 i2 F (w32 b) (0 : Int32) σ else some ((0 : Int32), σ) := by
  intro d
  induction d with
  | zero =>
    intro n k h1 h2
    obtain ⟨n, rfl⟩ : ∃ k, n = k + 1 := ⟨n - 1, by omega⟩
    unfold m2_takes_42 okL
    rw [if_pos (by rw [wl_3, w_lt (by omega) (by omega) (by omega) (by omega)]; omega), if_pos rfl]
  | succ d ih =>
    intro n k h1 h2
    obtain ⟨n, rfl⟩ : ∃ k, n = k + 1 := ⟨n - 1, by omega⟩
    unfold m2_takes_42 okL
    rw [if_neg (by rw [wl_3, w_lt (by omega) (by omega) (by omega) (by omega)]; omega), w_succ, wl_31, wl_1, isFree_ok hP hS hT bP bA bT (by omega), Option.bind_some]
    simp (disch := omega) only [bit_w]
    by_cases hb : bitI b k = true
    · rw [if_pos hb, if_pos hb]
      by_cases hf : freeN P A T k = true
      · rw [if_pos hf, if_pos hf, if_neg (by decide)]
        exact ih n (k + 1) (by omega) (by omega)
      · rw [if_neg hf, if_neg hf, if_pos (by decide)]
        rfl
    · rw [if_neg hb, if_neg hb]
      exact ih n (k + 1) (by omega) (by omega)
def tkT (T : Nat → Int) (b : Int) (p : Nat) : Nat → Int := fun k => if bitI b k then (p : Int) else T k
theorem takes79_ok {F c1 : Nat} {b : Int} {p : Nat} : ∀ (d n k : Nat) (σ : Mem), k + d = 4 → d < n → ∃ σ', m2_takes_79 F c1 (w32 (p : Int)) n (w32 b) (w32 (k : Int)) σ = some ((1 : Int32), σ') ∧ ∀ q, q < 4 → gI σ' 43 q = if k ≤ q ∧ bitI b q = true then w32 (p : Int) else gI σ 43 q := by
  intro d
  induction d with
  | zero =>
    intro n k σ h1 h2
    obtain ⟨n, rfl⟩ : ∃ k, n = k + 1 := ⟨n - 1, by omega⟩
    refine ⟨σ, ?_, fun q hq => ?_⟩
    · unfold m2_takes_79
      rw [if_pos (by rw [wl_3, w_lt (by omega) (by omega) (by omega) (by omega)]; omega)]
    · rw [if_neg (by omega)]
  | succ d ih =>
    intro n k σ h1 h2
    obtain ⟨n, rfl⟩ : ∃ k, n = k + 1 := ⟨n - 1, by omega⟩
    unfold m2_takes_79
    rw [if_neg (by rw [wl_3, w_lt (by omega) (by omega) (by omega) (by omega)]; omega), w_succ, wl_31, wl_1]
    simp (disch := omega) only [bit_w]
    by_cases hb : bitI b k = true
    · rw [if_pos hb, gd_pos (w_inB (by omega) (by omega) (by omega)), w_natk (by omega)]
      obtain ⟨σ', m, g⟩ := ih n (k + 1) (sI σ 43 k (w32 (p : Int))) (by omega) (by omega)
      refine ⟨σ', m, fun q hq => ?_⟩
      rw [g q hq, gI_sI]
      by_cases hqk : q = k
      · rw [hqk, if_neg (by omega), if_pos ⟨rfl, rfl⟩, if_pos ⟨Nat.le_refl _, hb⟩]
      · rw [if_neg (c := 43 = 43 ∧ q = k) (fun z => hqk z.2)]
        by_cases hx : k ≤ q ∧ bitI b q = true
        · rw [if_pos hx, if_pos ⟨by omega, hx.2⟩]
        · rw [if_neg hx, if_neg (fun z => hx ⟨by omega, z.2⟩)]
    · rw [if_neg hb]
      obtain ⟨σ', m, g⟩ := ih n (k + 1) σ (by omega) (by omega)
      refine ⟨σ', m, fun q hq => ?_⟩
      rw [g q hq]
      by_cases hx : k ≤ q ∧ bitI b q = true
      · rw [if_pos hx, if_pos ⟨by rcases Nat.lt_or_ge k q with z | z; exact z; exact absurd ((show q = k by omega) ▸ hx.2) hb, hx.2⟩]
      · rw [if_neg hx, if_neg (fun z => hx ⟨by omega, z.2⟩)]
/-- the parts that a SMITH needs: the second face, where there is one and the first is taken -/
def bitsN (P A : Dat) (K T : Nat → Int) (j : Nat) : Int := if K 4 = 0 then P 4 j else if P 4 j = 1 then (if freeN P A T 0 then P 4 j else 8) else P 4 j
def okT (P A : Dat) (K T : Nat → Int) (j : Nat) : Bool := okL P A T (bitsN P A K T j) 4 0
theorem takes_ok {F c1 : Nat} {σ : Mem} {P A : Dat} {K T : Nat → Int} {p j : Nat} (hP : RepP 17 σ P) (hS : RepS c1 σ A) (hK : RepK σ K) (hT : RepT σ T) (bP : Bd 1000000000 P) (bA : Bd 1000000000 A) (bT : BdT T) (bK : -1000000000 ≤ K 4 ∧ K 4 ≤ 1000000000) (hp : p < 3) (hj : j < 8) (hJ : gI σ 41 p = w32 (j : Int)) (hF : 100 ≤ F) :
    ∃ σ', m2_takes F c1 (w32 (p : Int)) σ = some (if okT P A K T j then (1 : Int32) else 0, σ') ∧ RepT σ' (if okT P A K T j then tkT T (bitsN P A K T j) p else T) := by
  have e4 := hK 4 (by decide)
  have eb : gI σ 21 j = w32 (P 4 j) := hP.at 4 j
  have b4 := bP 4 j
  have main : ∀ b : Int, ∃ σ', m2_takes_42 F c1 (w32 (p : Int)) F (w32 b) (0 : Int32) σ = some (if okL P A T b 4 0 then (1 : Int32) else 0, σ') ∧ RepT σ' (if okL P A T b 4 0 then tkT T b p else T) := by
    intro b
    have h := takes42_ok (F := F) (i2 := w32 (p : Int)) (b := b) hP hS hT bP bA bT 4 F 0 (by omega) (by omega)
    rw [show w32 ((0 : Nat) : Int) = (0 : Int32) from rfl] at h
    rw [h]
    by_cases ho : okL P A T b 4 0 = true
    · rw [if_pos ho, if_pos ho, if_pos ho]
      obtain ⟨σ', m, g⟩ := takes79_ok (F := F) (c1 := c1) (b := b) (p := p) 4 F 0 σ (by omega) (by omega)
      refine ⟨σ', m, fun k hk => ?_⟩
      rw [g k hk, hT k hk]
      unfold tkT
      by_cases hx : bitI b k = true
      · rw [if_pos ⟨Nat.zero_le _, hx⟩, if_pos hx]
      · rw [if_neg (fun z => hx z.2), if_neg hx]
    · rw [if_neg ho, if_neg ho, if_neg ho]
      exact ⟨σ, rfl, hT⟩
  have f0 := isFree_ok (F := F) (k := 0) hP hS hT bP bA bT (by decide)
  rw [show w32 ((0 : Nat) : Int) = (0 : Int32) from rfl] at f0
  unfold m2_takes okT bitsN
  rw [gd_pos (w_inB (by omega) (by omega) (by omega)), w_natk (by omega), hJ, gd_pos (w_inB (by omega) (by omega) (by omega)), w_natk (by omega), eb, e4, f0, Option.bind_some, wl_1, wl_8]
  by_cases hk : K 4 = 0
  · rw [if_pos (by rw [hk]; rfl), if_pos hk]
    exact main _
  · rw [if_neg (by rw [wl_0, w_eq (by omega) (by omega) (by omega) (by omega)]; exact hk), if_neg hk]
    by_cases h1 : P 4 j = 1
    · rw [if_pos (by rw [h1]), if_pos h1]
      by_cases hf : freeN P A T 0 = true
      · rw [if_pos hf, if_pos hf, if_neg (by decide)]
        exact main _
      · rw [if_neg hf, if_neg hf, if_pos (by decide)]
        exact main 8
    · rw [if_neg (by rw [w_eq (by omega) (by omega) (by omega) (by omega)]; exact h1), if_neg h1]
      exact main _
def waitA (P A : Dat) (p : Nat) : Dat := up (up A 2 p (A 2 p + 1)) 1 p (max 0 (A 1 p - P 0 1))
abbrev WS : Type := Dat × (Nat → Int) × (Nat → Int)
/-- what a SMITH does: state, the forge's numbers, who has taken what -/
def stepS (P : Dat) (J : Nat → Int) (Wl : Nat → Bool) (p : Nat) (s : WS) : WS :=
  if J p = -1 then s
  else if Wl p then (if okT P s.1 s.2.1 s.2.2 (J p).toNat then (strikeA P s.1 s.2.1 p (J p).toNat, strikeK P s.1 s.2.1 p (J p).toNat, tkT s.2.2 (bitsN P s.1 s.2.1 s.2.2 (J p).toNat) p) else (waitA P s.1 p, s.2.1, s.2.2))
  else (heatA P s.1 s.2.1 p (J p).toNat, heatK P s.1 s.2.1 p, s.2.2)
def workS (P : Dat) (J : Nat → Int) (Wl : Nat → Bool) : Nat → Nat → WS → WS
  | 0, _, s => s
  | d + 1, p, s => workS P J Wl d (p + 1) (stepS P J Wl p s)
theorem heatA_bd {B : Int} {P A : Dat} {K : Nat → Int} {p j : Nat} (bA : Bd B A) (bP : Bd 1000 P) (hB : 1000 ≤ B) : Bd (B + 1000) (heatA P A K p j) := by
  have m := bA.mono (show B ≤ B + 1000 by omega)
  have b1 := bA 1 p
  have b2 := bP 1 p
  have b3 := bP 5 j
  have b4 := bA 4 p
  unfold heatA
  split
  · split
    · exact (m.up (by omega) (by omega)).up (by omega) (by omega)
    · exact ((((m.up (by omega) (by omega)).up (by omega) (by omega)).up (by omega) (by omega)).up (by omega) (by omega)).up (by omega) (by omega)
  · split
    · exact (m.up (by omega) (by omega))
    · exact (((m.up (by omega) (by omega)).up (by omega) (by omega)).up (by omega) (by omega)).up (by omega) (by omega)
theorem waitA_bd {B : Int} {P A : Dat} {p : Nat} (bA : Bd B A) (bP : Bd 1000 P) (hB : 1000 ≤ B) : Bd (B + 1000) (waitA P A p) := by
  have m := bA.mono (show B ≤ B + 1000 by omega)
  have b1 := bA 1 p
  have b2 := bP 0 1
  have b3 := bA 2 p
  exact (m.up (by omega) (by omega)).up (by omega) (by omega)
theorem strikeA_bd {B : Int} {P A : Dat} {K : Nat → Int} {p j : Nat} (bA : Bd B A) (bP : Bd 1000 P) (hB : 10000 ≤ B) : Bd (B + 1000) (strikeA P A K p j) := by
  have m := bA.mono (show B ≤ B + 1000 by omega)
  have b1 := bA 1 p
  have b2 := bP 0 1
  have b3 := bA 3 p
  have b4 := bA 5 p
  have b5 := bA 6 j
  have b6 := bA 0 0
  have m1 : Bd (B + 1000) (up (up A 2 p 0) 1 p (max 0 (A 1 p - P 0 1))) := (m.up (by omega) (by omega)).up (by omega) (by omega)
  unfold strikeA
  split
  · exact m1.up (by omega) (by omega)
  · split
    · simp only []
      split
      · have b7 := bA 10 p
        have b8 := bP 7 j
        exact ((((m1.up (by omega) (by omega)).up (by omega) (by omega)).up (by omega) (by omega)).up (by omega) (by omega)).up (by omega) (by omega)
      · exact m1.up (by omega) (by omega)
    · exact m1
theorem stepS_bd {B : Int} {P : Dat} {J : Nat → Int} {Wl : Nat → Bool} {p : Nat} {s : WS} (bA : Bd B s.1) (bP : Bd 1000 P) (hB : 10000 ≤ B) : Bd (B + 1000) (stepS P J Wl p s).1 := by
  unfold stepS
  split
  · exact bA.mono (by omega)
  · split
    · split
      · exact strikeA_bd bA bP hB
      · exact waitA_bd bA bP (by omega)
    · exact heatA_bd bA bP (by omega)
theorem upK_lo {K : Nat → Int} {i j : Nat} {v : Int} (h : j ≠ i) : upK K i v j = K j := if_neg h
theorem stepS_K {P : Dat} {J : Nat → Int} {Wl : Nat → Bool} {p : Nat} {s : WS} {j : Nat} (hj : j < 11) : (stepS P J Wl p s).2.1 j = s.2.1 j := by
  unfold stepS
  split
  · rfl
  · split
    · split
      · simp only [strikeK]
        split
        · rfl
        · rw [upK_lo (by omega), upK_lo (by omega)]
      · rfl
    · show heatK P s.1 s.2.1 p j = s.2.1 j
      unfold heatK
      by_cases h : (if s.2.1 5 = 0 then s.1 1 p + P 1 p else s.1 1 p) ≤ P 0 2
      · rw [if_pos h]
      · rw [if_neg h, upK_lo (by omega)]
theorem stepS_T {P : Dat} {J : Nat → Int} {Wl : Nat → Bool} {p : Nat} {s : WS} (hp : p < 3) (bT : BdT s.2.2) : BdT (stepS P J Wl p s).2.2 := by
  unfold stepS
  split
  · exact bT
  · split
    · split
      · intro k
        simp only [tkT]
        split
        · omega
        · exact bT k
      · exact bT
    · exact bT
theorem work37_ok {F c1 : Nat} {P : Dat} {J : Nat → Int} {Wl : Nat → Bool} (bP : Bd 1000 P) (hc : StC c1) (hF : 100 ≤ F) (hJ1 : ∀ p, p < 3 → J p = -1 ∨ (0 ≤ J p ∧ J p < 8)) :
    ∀ (d n p : Nat) (σ : Mem) (s : WS), p + d = 3 → d < n → RepP 17 σ P → RepS c1 σ s.1 → RepK σ s.2.1 → RepT σ s.2.2 → Bd (1000000000 - 1000 * d) s.1 → BdT s.2.2 → (∀ j, 2 ≤ j → j ≤ 6 → -1000 ≤ s.2.1 j ∧ s.2.1 j ≤ 1000) → (∀ q, q < 3 → gI σ 41 q = w32 (J q)) → (∀ q, q < 3 → gI σ 42 q = w32 (if Wl q then 1 else 0)) →
    ∃ σ', m2_work_37 F c1 n (w32 (p : Int)) σ = some σ' ∧ RepS c1 σ' (workS P J Wl d p s).1 ∧ RepK σ' (workS P J Wl d p s).2.1 ∧ RepT σ' (workS P J Wl d p s).2.2 := by
  intro d
  induction d with
  | zero =>
    intro n p σ s h1 h2 hP hS hK hT bA bT bK hJ hW
    obtain ⟨n, rfl⟩ : ∃ k, n = k + 1 := ⟨n - 1, by omega⟩
    refine ⟨σ, ?_, hS, hK, hT⟩
    unfold m2_work_37
    rw [if_pos (by rw [wl_3, w_le (by omega) (by omega) (by omega) (by omega)]; omega)]
  | succ d ih =>
    intro n p σ s h1 h2 hP hS hK hT bA bT bK hJ hW
    obtain ⟨n, rfl⟩ : ∃ k, n = k + 1 := ⟨n - 1, by omega⟩
    have hp : p < 3 := by omega
    have bP9 : Bd 1000000000 P := bP.mono (by decide)
    have bA9 : Bd 1000000000 s.1 := bA.mono (by omega)
    have k4 := bK 4 (by decide) (by decide)
    have k5 := bK 5 (by decide) (by decide)
    have k6 := bK 6 (by decide) (by decide)
    have next : ∀ σ1 : Mem, Fr (Wm2_work c1) σ σ1 → RepS c1 σ1 (stepS P J Wl p s).1 → RepK σ1 (stepS P J Wl p s).2.1 → RepT σ1 (stepS P J Wl p s).2.2 → ∃ σ', m2_work_37 F c1 n (w32 ((p + 1 : Nat) : Int)) σ1 = some σ' ∧ RepS c1 σ' (workS P J Wl (d + 1) p s).1 ∧ RepK σ' (workS P J Wl (d + 1) p s).2.1 ∧ RepT σ' (workS P J Wl (d + 1) p s).2.2 := by
      intro σ1 f g1 g2 g3
      obtain ⟨c_1, c_2, c_3⟩ := hc
      exact ih n (p + 1) σ1 (stepS P J Wl p s) (by omega) (by omega) (hP.fr f (fun i hi => by unfold Wm2_work; omega)) g1 g2 g3 ((stepS_bd bA bP (by omega)).mono (by omega)) (stepS_T hp bT) (fun j q1 q2 => by rw [stepS_K (by omega)]; exact bK j q1 q2)
        (fun q hq => by rw [f.gI (by unfold Wm2_work; omega)]; exact hJ q hq) (fun q hq => by rw [f.gI (by unfold Wm2_work; omega)]; exact hW q hq)
    unfold m2_work_37
    rw [if_neg (by rw [wl_3, w_le (by omega) (by omega) (by omega) (by omega)]; omega), gd_pos (w_inB (by omega) (by omega) (by omega)), w_natk (by omega), hJ p hp, w_succ, gd_pos (w_inB (by omega) (by omega) (by omega)), hW p hp]
    unfold stepS at next
    have rj := hJ1 p hp
    by_cases hj : J p = -1
    · rw [if_pos (by rw [hj]; rfl)]
      simp only [hj, if_true] at next
      exact next σ (Fr.rf _ _) hS hK hT
    · have rj := rj.resolve_left hj
      have hjn : ((J p).toNat : Int) = J p := by omega
      have hJp : gI σ 41 p = w32 (((J p).toNat : Nat) : Int) := by rw [hjn]; exact hJ p hp
      rw [if_neg (by rw [wl_m1, w_eq (by omega) (by omega) (by omega) (by omega)]; exact hj)]
      simp only [hj, if_false] at next
      by_cases hw : Wl p = true
      · rw [if_pos hw, if_neg (by decide)]
        simp only [hw, if_true] at next
        obtain ⟨σ1, m1, t1⟩ := takes_ok (F := F) hP hS hK hT bP9 bA9 bT (by omega) hp (by omega) hJp hF
        have f1 := f2_takes m1
        rw [m1, Option.bind_some]
        have hP1 := hP.fr f1 (fun i hi => by unfold Wm2_takes; omega)
        obtain ⟨c_1, c_2, c_3⟩ := id hc
        have hS1 := hS.fr f1 (fun i hi => by unfold Wm2_takes; omega)
        have hK1 := hK.fr f1 (by unfold Wm2_takes; omega)
        have fm := f1.mono (V := Wm2_work c1) (fun c h => by unfold Wm2_takes at h; unfold Wm2_work; omega)
        by_cases ho : okT P s.1 s.2.1 s.2.2 (J p).toNat = true
        · simp only [ho, if_true] at next t1 ⊢
          rw [if_neg (by decide)]
          obtain ⟨σ2, m2, s2, k2⟩ := strikeOnce_ok (F := F) (j := (J p).toNat) hP1 hS1 hK1 bP9 bA9 (by omega) hc hp (by omega) (by rw [f1.gI (by unfold Wm2_takes; omega)]; exact hJp)
          have f2 := f2_strikeOnce m2
          rw [m2, Option.bind_some]
          refine next σ2 (fm.trans (f2.mono (fun c h => by unfold Wm2_strikeOnce at h; unfold Wm2_work; omega))) s2 k2 (fun k hk => by rw [f2.gI (by unfold Wm2_strikeOnce; omega)]; exact t1 k hk)
        · simp only [ho, if_false] at next t1 ⊢
          rw [if_pos (by decide)]
          have e2 := hS1.at 2 p
          have e1 := hS1.at 1 p
          have eq1 : gI σ1 17 1 = w32 (P 0 1) := hP1.at 0 1
          have b1 := bA9 1 p
          have b2 := bP 0 1
          simp (disch := omega) only [wl_0, wl_1, wl_2, wl_3, wl_4, wl_5, wl_6, wl_7, wl_8, wl_9, wl_10, wl_11, wl_12, wl_13, wl_14, wl_15, wl_16, wl_20, wl_24, wl_26, wl_30, wl_31, wl_32, wl_40, wl_41, wl_47, wl_48, wl_50, wl_58, wl_59, wl_60, wl_61, wl_64, wl_91, wl_93, wl_95, wl_97, wl_98, wl_99, wl_100, wl_101, wl_122, wl_131, wl_132, wl_200, wl_255, wl_400, wl_500, wl_501, wl_999, wl_1960, wl_9999, wl_99999, wl_4000000, wl_m1, wl_m2, wl_m3, wl_m8, wl_m20, wl_m21, wl_m22, wl_m23, wl_m24, wl_m25, wl_m26, wl_m27, wl_m28, wl_m29, wl_m30, wl_m31, wl_m32, wl_m100000, w_add, w_sub, w_mul, w_neg, w_eq, w_lt, w_le, w_natk, w_nat, Int.toNat_natCast, tn_0, tn_1, tn_2, tn_3, tn_4, tn_5, tn_6, tn_7, tn_8, tn_9, tn_10, tn_11, tn_12, tn_13, tn_14, tn_15, tn_16, tn_20, tn_24, tn_26, tn_30, tn_31, tn_32, tn_40, tn_41, tn_47, tn_48, tn_50, tn_58, tn_59, tn_60, tn_61, tn_64, tn_91, tn_93, tn_95, tn_97, tn_98, tn_99, tn_100, tn_101, tn_122, tn_131, tn_132, w_inB, gd_T, Option.bind_some, ↓reduceIte, if_true, if_false, ite_true, ite_false, gI_eq, gI_nec, gI_nej, gI_sL, gL_sI, gI_sR, gL_sR, gR_sI, gR_sL, gR_sR, e2, e1, eq1, mxI_w]
          refine next _ ?_ ((hS1.up 2 p _).up 1 p _) ((hK1.ne (by omega)).ne (by omega)) (fun k hk => by rw [gI_nec (by omega), gI_nec (by omega)]; exact t1 k hk)
          exact fm.trans (((Fr.rf _ _).sI (by unfold Wm2_work; omega)).sI (by unfold Wm2_work; omega))
      · rw [if_neg hw, if_pos (by decide)]
        simp only [hw] at next
        obtain ⟨σ1, m1, s1, k1⟩ := heatUp_ok (F := F) hP hS hK bP9 bA9 (by omega) hc hp (by omega) hJp
        have f1 := f2_heatUp m1
        rw [m1, Option.bind_some]
        obtain ⟨c_1, c_2, c_3⟩ := id hc
        refine next σ1 (f1.mono (fun c h => by unfold Wm2_heatUp at h; unfold Wm2_work; omega)) s1 k1 (fun k hk => by rw [f1.gI (by unfold Wm2_heatUp; omega)]; exact hT k hk)
