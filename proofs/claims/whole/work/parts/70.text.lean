/-! TEXTS, 1: places, blanks, runs of letters and digits, words -/
def Txt (B : Nat → Int) (L : Nat) : Prop := L ≤ 400 ∧ ∀ i, i < L → 0 ≤ B i ∧ B i ≤ 255
def ch (B : Nat → Int) (L p : Nat) : Int := if p < L then B p else -1
def skL (B : Nat → Int) : Nat → Nat → Nat
  | 0, p => p
  | d + 1, p => if B p = 32 then skL B d (p + 1) else p
def sk (B : Nat → Int) (L p : Nat) : Nat := skL B (L - p) p
def rnL (B : Nat → Int) (lo hi : Int) : Nat → Nat → Nat
  | 0, _ => 0
  | d + 1, p => if lo ≤ B p ∧ B p ≤ hi then rnL B lo hi d (p + 1) + 1 else 0
def rn (B : Nat → Int) (L : Nat) (lo hi : Int) (p : Nat) : Nat := rnL B lo hi (L - p) p
theorem skL_rg {B : Nat → Int} : ∀ (d p : Nat), p ≤ skL B d p ∧ skL B d p ≤ p + d
  | 0, p => ⟨Nat.le_refl _, Nat.le_refl _⟩
  | d + 1, p => by
    unfold skL
    have := skL_rg (B := B) d (p + 1)
    split <;> omega
theorem sk_rg {B : Nat → Int} {L p : Nat} : p ≤ sk B L p ∧ sk B L p ≤ max p L := by
  have := skL_rg (B := B) (L - p) p
  unfold sk
  omega
theorem skL_stop {B : Nat → Int} : ∀ (d p : Nat), skL B d p = p + d ∨ B (skL B d p) ≠ 32
  | 0, p => Or.inl rfl
  | d + 1, p => by
    unfold skL
    by_cases h : B p = 32
    · rw [if_pos h]
      have := skL_stop (B := B) d (p + 1)
      rcases this with e | e
      · exact Or.inl (by rw [e]; omega)
      · exact Or.inr e
    · rw [if_neg h]; exact Or.inr h
theorem sk_sk {B : Nat → Int} {L p : Nat} : sk B L (sk B L p) = sk B L p := by
  have h := skL_stop (B := B) (L - p) p
  have r := skL_rg (B := B) (L - p) p
  unfold sk
  rcases h with e | e
  · rw [show L - skL B (L - p) p = 0 by omega]; rfl
  · generalize skL B (L - p) p = q at *
    cases L - q with
    | zero => rfl
    | succ d => unfold skL; rw [if_neg e]
theorem sk_lt {B : Nat → Int} {L p : Nat} (h : ch B L (sk B L p) ≠ -1) : sk B L p < L := by
  unfold ch at h
  by_cases q : sk B L p < L
  · exact q
  · rw [if_neg q] at h; exact absurd rfl h
theorem ch_lt {B : Nat → Int} {L p : Nat} (h : ch B L p ≠ -1) : p < L := by
  unfold ch at h
  by_cases q : p < L
  · exact q
  · rw [if_neg q] at h; exact absurd rfl h
theorem ch_eq {B : Nat → Int} {L p : Nat} (h : p < L) : ch B L p = B p := if_pos h
theorem ch_rg {B : Nat → Int} {L p : Nat} (hT : Txt B L) : -1 ≤ ch B L p ∧ ch B L p ≤ 255 := by
  unfold ch
  split
  · have := hT.2 p (by assumption); omega
  · decide
theorem rnL_rg {B : Nat → Int} {lo hi : Int} : ∀ (d p : Nat), rnL B lo hi d p ≤ d ∧ ∀ k, k < rnL B lo hi d p → lo ≤ B (p + k) ∧ B (p + k) ≤ hi
  | 0, p => ⟨Nat.le_refl _, fun k h => absurd h (Nat.not_lt_zero k)⟩
  | d + 1, p => by
    unfold rnL
    obtain ⟨a, b⟩ := rnL_rg (B := B) (lo := lo) (hi := hi) d (p + 1)
    split
    · rename_i h
      refine ⟨by omega, fun k hk => ?_⟩
      cases k with
      | zero => exact h
      | succ k =>
        have := b k (by omega)
        rw [show p + 1 + k = p + (k + 1) by omega] at this
        exact this
    · exact ⟨Nat.zero_le _, fun k h => absurd h (Nat.not_lt_zero k)⟩
theorem rn_rg {B : Nat → Int} {L p : Nat} {lo hi : Int} : rn B L lo hi p ≤ L - p ∧ ∀ k, k < rn B L lo hi p → lo ≤ B (p + k) ∧ B (p + k) ≤ hi := rnL_rg (L - p) p
theorem rn_pos {B : Nat → Int} {L p : Nat} {lo hi : Int} (hl : 0 ≤ lo) (h1 : lo ≤ ch B L p) (h2 : ch B L p ≤ hi) : 0 < rn B L lo hi p := by
  have hp : p < L := ch_lt (B := B) (L := L) (by omega)
  rw [ch_eq hp] at h1 h2
  unfold rn
  obtain ⟨d, hd⟩ : ∃ d, L - p = d + 1 := ⟨L - p - 1, by omega⟩
  rw [hd]
  unfold rnL
  rw [if_pos ⟨h1, h2⟩]
  omega
theorem rn_zero {B : Nat → Int} {L p : Nat} {lo hi : Int} (h : ¬ (lo ≤ ch B L p ∧ ch B L p ≤ hi)) : rn B L lo hi p = 0 := by
  unfold rn
  by_cases hp : p < L
  · rw [ch_eq hp] at h
    obtain ⟨d, hd⟩ : ∃ d, L - p = d + 1 := ⟨L - p - 1, by omega⟩
    rw [hd]
    unfold rnL
    rw [if_neg h]
  · rw [show L - p = 0 by omega]; rfl
/-- is the word w at the place q -/
def alb (B : Nat → Int) : Nat → List Int → Bool
  | _, [] => true
  | q, c :: w => decide (B q = c) && alb B (q + 1) w
def isw (B : Nat → Int) (p n : Nat) (w : List Int) : Bool := decide (w.length = n) && (decide (0 < n) && alb B p w)
def wdx (B : Nat → Int) (p n : Nat) : List (List Int) → Int → Int
  | [], _ => -1
  | w :: ws, i => if isw B p n w = true then i else wdx B p n ws (i + 1)
theorem wdx_rg {B : Nat → Int} {p n : Nat} : ∀ (ws : List (List Int)) (i : Int), 0 ≤ i → wdx B p n ws i = -1 ∨ (i ≤ wdx B p n ws i ∧ wdx B p n ws i < i + ws.length)
  | [], _, _ => Or.inl rfl
  | w :: ws, i, h => by
    unfold wdx
    rw [List.length_cons]
    split
    · exact Or.inr ⟨Int.le_refl _, by omega⟩
    · rcases wdx_rg (B := B) (p := p) (n := n) ws (i + 1) (by omega) with e | e
      · exact Or.inl e
      · exact Or.inr (by omega)
theorem wdx_0 {B : Nat → Int} {p : Nat} : ∀ (ws : List (List Int)) (i : Int), wdx B p 0 ws i = -1
  | [], _ => rfl
  | w :: ws, i => by
    unfold wdx
    rw [if_neg (by unfold isw; simp), wdx_0 ws]
theorem wdx_n {B : Nat → Int} {p n : Nat} {ws : List (List Int)} {i : Int} (h : wdx B p n ws i ≠ -1) : 0 < n := by
  cases n with
  | zero => exact absurd (wdx_0 ws i) h
  | succ n => omega
/-! the class's way of looking a word up -/
def tlu (B : Nat → Int) (p n : Nat) : List Int → Int → Nat → Nat → Int
  | [], _, _, _ => -1
  | c :: cs, i, a, z => if c = 32 then (if z = n ∧ a = n ∧ 0 < n then i else tlu B p n cs (i + 1) 0 0) else tlu B p n cs i (if z < n ∧ B (p + z) = c then a + 1 else a) (z + 1)
def mt (B : Nat → Int) (p n : Nat) : List Int → Nat → Nat
  | [], _ => 0
  | c :: w, z => (if z < n ∧ B (p + z) = c then 1 else 0) + mt B p n w (z + 1)
theorem mt_le {B : Nat → Int} {p n : Nat} : ∀ (w : List Int) (z : Nat), mt B p n w z ≤ w.length
  | [], _ => Nat.le_refl _
  | c :: w, z => by
    unfold mt
    rw [List.length_cons]
    have := mt_le (B := B) (p := p) (n := n) w (z + 1)
    split <;> omega
theorem mt_al {B : Nat → Int} {p n : Nat} : ∀ (w : List Int) (z : Nat), z + w.length ≤ n → (mt B p n w z = w.length ↔ alb B (p + z) w = true)
  | [], _, _ => ⟨fun _ => rfl, fun _ => rfl⟩
  | c :: w, z, h => by
    rw [List.length_cons] at h ⊢
    have ih := mt_al (B := B) (p := p) (n := n) w (z + 1) (by omega)
    have le := mt_le (B := B) (p := p) (n := n) w (z + 1)
    unfold mt alb
    rw [Bool.and_eq_true, decide_eq_true_eq]
    by_cases e : B (p + z) = c
    · rw [if_pos ⟨by omega, e⟩]
      constructor
      · intro q
        exact ⟨e, ih.mp (by omega)⟩
      · intro q
        have := ih.mpr q.2
        omega
    · rw [if_neg (fun q => e q.2)]
      constructor
      · intro q; omega
      · intro q; exact absurd q.1 e
theorem tlu_word {B : Nat → Int} {p n : Nat} : ∀ (w cs : List Int) (i : Int) (a z : Nat), (∀ c ∈ w, c ≠ 32) → tlu B p n (w ++ cs) i a z = tlu B p n cs i (a + mt B p n w z) (z + w.length)
  | [], cs, i, a, z, _ => by rfl
  | c :: w, cs, i, a, z, h => by
    rw [List.cons_append]
    rw [tlu, if_neg (h c List.mem_cons_self), mt, List.length_cons, tlu_word w cs i _ (z + 1) (fun x hx => h x (List.mem_cons_of_mem _ hx))]
    rw [show z + 1 + w.length = z + (w.length + 1) by omega]
    congr 1
    by_cases g : z < n ∧ B (p + z) = c
    · rw [if_pos g, if_pos g]; omega
    · rw [if_neg g, if_neg g]; omega
def joinW : List (List Int) → List Int
  | [] => []
  | w :: ws => w ++ 32 :: joinW ws
theorem tlu_join {B : Nat → Int} {p n : Nat} : ∀ (ws : List (List Int)) (i : Int), (∀ w ∈ ws, ∀ c ∈ w, c ≠ 32) → tlu B p n (joinW ws) i 0 0 = wdx B p n ws i
  | [], _, _ => rfl
  | w :: ws, i, h => by
    unfold joinW wdx
    rw [tlu_word w _ i 0 0 (h w List.mem_cons_self), Nat.zero_add, Nat.zero_add]
    have ih := tlu_join (B := B) (p := p) (n := n) ws (i + 1) (fun x hx => h x (List.mem_cons_of_mem _ hx))
    have hc : (w.length = n ∧ mt B p n w 0 = n ∧ 0 < n) ↔ isw B p n w = true := by
      unfold isw
      rw [Bool.and_eq_true, Bool.and_eq_true, decide_eq_true_eq, decide_eq_true_eq]
      constructor
      · intro ⟨a, b, c⟩
        exact ⟨a, c, (mt_al (n := n) w 0 (by omega)).mp (by omega)⟩
      · intro ⟨a, c, b⟩
        exact ⟨a, by rw [(mt_al w 0 (by omega)).mpr b]; exact a, c⟩
    rw [tlu, if_pos rfl, ih]
    by_cases g : isw B p n w = true
    · rw [if_pos (hc.mpr g), if_pos g]
    · rw [if_neg (fun q => g (hc.mp q)), if_neg g]
def ltr (s : String) : List Int := s.toList.map (fun c => (c.toNat : Int))
/-- the words of the class's lists -/
def tws (c1 : Nat) : List (List Int) := match c1 with
  | 0 => [[115, 109, 105, 116, 104, 121], [115, 109, 105, 116, 104], [106, 111, 98], [112, 97, 114, 116]]
  | 1 => [[102, 97, 99, 101], [98, 101, 97, 107], [104, 101, 101, 108], [119, 101, 108, 100]]
  | 2 => [[115, 116, 114, 105, 107, 101]]
  | 3 => [[115, 109, 105, 116, 104], [104, 101, 97, 116], [104, 111, 116], [110, 101, 101, 100], [108, 101, 102, 116], [112, 97, 121], [113, 117, 105, 99, 107], [109, 111, 109, 101, 110, 116], [119, 111, 114, 110], [114, 105, 118, 97, 108, 115], [119, 97, 105, 116, 115], [98, 117, 114, 110], [100, 111, 110, 101]]
  | 4 => [[105, 102]]
  | 5 => [[110, 111, 116]]
  | _ => [[97, 110, 100], [111, 114]]
theorem tws_no : ∀ c1, c1 < 7 → ∀ w ∈ tws c1, ∀ c ∈ w, c ≠ 32 := by decide +kernel
theorem tws_len : ∀ c1, c1 < 7 → lenS.getD c1 0 + 1 = (joinW (tws c1)).length ∧ lenS.getD c1 0 ≤ 100 := by decide +kernel
theorem tws_byt : ∀ c1, c1 < 7 → ∀ x, x < lenS.getD c1 0 → (bytS.getD c1 []).getD x 0 = w32 ((joinW (tws c1)).getD x 0) := by decide +kernel
theorem tws_end : ∀ c1, c1 < 7 → (joinW (tws c1)).getD (lenS.getD c1 0) 0 = 32 := by decide +kernel
theorem tws_rg : ∀ c1, c1 < 7 → ∀ x, x < 101 → -1000 ≤ (joinW (tws c1)).getD x 0 ∧ (joinW (tws c1)).getD x 0 ≤ 1000 := by decide +kernel
/-! the class's TAPE -/
def TC (B : Nat → Int) (L p : Nat) (f : Int) (σ : Mem) : Prop := gI σ 1 1 = w32 (L : Int) ∧ (∀ i, i < L → gI σ 2 i = w32 (B i)) ∧ gI σ 1 2 = w32 (p : Int) ∧ gI σ 1 3 = w32 f
theorem TC.fr {W : Nat → Prop} {B : Nat → Int} {L p : Nat} {f : Int} {σ σ' : Mem} (h : TC B L p f σ) (g : Fr W σ σ') (hw : ¬ W 1 ∧ ¬ W 2) : TC B L p f σ' :=
  ⟨by rw [g.gI hw.1]; exact h.1, fun i hi => by rw [g.gI hw.2]; exact h.2.1 i hi, by rw [g.gI hw.1]; exact h.2.2.1, by rw [g.gI hw.1]; exact h.2.2.2⟩
theorem TC.at {B : Nat → Int} {L p : Nat} {f : Int} {σ : Mem} (h : TC B L p f σ) (q : Nat) : TC B L q f (sI σ 1 2 (w32 (q : Int))) :=
  ⟨by rw [gI_nej (by decide)]; exact h.1, fun i hi => by rw [gI_nec (by decide)]; exact h.2.1 i hi, gI_eq .., by rw [gI_nej (by decide)]; exact h.2.2.2⟩
theorem TC.ne {B : Nat → Int} {L p : Nat} {f : Int} {σ : Mem} (h : TC B L p f σ) {c j : Nat} {v : Int32} (hc : c ≠ 1 ∧ c ≠ 2) : TC B L p f (sI σ c j v) :=
  ⟨by rw [gI_nec (by omega)]; exact h.1, fun i hi => by rw [gI_nec (by omega)]; exact h.2.1 i hi, by rw [gI_nec (by omega)]; exact h.2.2.1, by rw [gI_nec (by omega)]; exact h.2.2.2⟩
theorem next38 {F : Nat} {B : Nat → Int} {L p : Nat} {f : Int} {σ : Mem} (hT : Txt B L) (h : TC B L p f σ) (hp : p ≤ 1000000) : m8_next_38 F σ = some (w32 (ch B L p), σ) := by
  obtain ⟨h1, h2, h3, h4⟩ := h
  have hL := hT.1
  unfold m8_next_38 ch
  rw [h1, h3]
  by_cases q : p < L
  · rw [if_neg (by rw [w_le (by omega) (by omega) (by omega) (by omega)]; omega), if_pos q, gd_pos (w_inB (by omega) (by omega) (by omega)), w_natk (by omega), h2 p q]
  · rw [if_pos (by rw [w_le (by omega) (by omega) (by omega) (by omega)]; omega), if_neg q]; rfl
theorem next_c {F : Nat} {B : Nat → Int} {L p : Nat} {f : Int} {σ : Mem} (hT : Txt B L) (h : TC B L p f σ) (hp : p ≤ 1000000) (hF : 1000 ≤ F) : ∃ σ', m8_next F σ = some (w32 (ch B L (sk B L p)), σ') ∧ TC B L (sk B L p) f σ' ∧ Fr (fun c => c = 1) σ σ' := by
  have hL := hT.1
  have loop : ∀ (d n p : Nat) (σ : Mem), L - p = d → p ≤ 1000000 → d < n → TC B L p f σ → ∃ σ', m8_next_0 F n σ = some (w32 (ch B L (skL B d p)), σ') ∧ TC B L (skL B d p) f σ' ∧ Fr (fun c => c = 1) σ σ' := by
    intro d
    induction d with
    | zero =>
      intro n p σ h1 hp h2 h
      obtain ⟨n, rfl⟩ : ∃ k, n = k + 1 := ⟨n - 1, by omega⟩
      unfold m8_next_0
      rw [h.1, h.2.2.1, if_pos (by rw [w_le (by omega) (by omega) (by omega) (by omega)]; omega), next38 hT h hp]
      exact ⟨σ, rfl, h, Fr.rf _ σ⟩
    | succ d ih =>
      intro n p σ h1 hp h2 h
      obtain ⟨n, rfl⟩ : ∃ k, n = k + 1 := ⟨n - 1, by omega⟩
      have b := hT.2 p (by omega)
      unfold m8_next_0 skL
      rw [h.1, h.2.2.1, if_neg (by rw [w_le (by omega) (by omega) (by omega) (by omega)]; omega), gd_pos (w_inB (by omega) (by omega) (by omega)), w_natk (by omega), h.2.1 p (by omega)]
      by_cases q : B p = 32
      · rw [if_pos (by rw [q]; rfl), if_pos q, w_succ]
        obtain ⟨σ', m, t, g⟩ := ih n (p + 1) _ (by omega) (by omega) (by omega) (h.at (p + 1))
        exact ⟨σ', m, t, ((Fr.rf (fun c => c = 1) σ).sI rfl).trans g⟩
      · rw [if_neg (by rw [wl_32, w_eq (by omega) (by omega) (by omega) (by omega)]; exact q), if_neg q, next38 hT h hp]
        exact ⟨σ, rfl, h, Fr.rf _ σ⟩
  exact loop (L - p) F p σ rfl hp (by omega) h
theorem run_c {F : Nat} {B : Nat → Int} {L p : Nat} {f : Int} {σ : Mem} {lo hi : Int} (hT : Txt B L) (h : TC B L p f σ) (hp : p ≤ 1000000) (hF : 1000 ≤ F) (b1 : 0 ≤ lo ∧ lo ≤ 255) (b2 : 0 ≤ hi ∧ hi ≤ 255) : m8_run F (w32 lo) (w32 hi) σ = some (w32 (rn B L lo hi p : Int)) := by
  have hL := hT.1
  obtain ⟨h1, h2, h3, h4⟩ := h
  have fin : ∀ q : Nat, p ≤ q → w32 (q : Int) - w32 (p : Int) = w32 ((q - p : Nat) : Int) := fun q hq => by rw [w_sub]; congr 1; omega
  have loop : ∀ (d n q : Nat), L - q = d → p ≤ q → q ≤ 1000000 → d < n → m8_run_5 F (w32 lo) (w32 hi) σ n (w32 (q : Int)) = some (w32 ((q - p + rnL B lo hi d q : Nat) : Int)) := by
    intro d
    induction d with
    | zero =>
      intro n q e1 e2 e3 e4
      obtain ⟨n, rfl⟩ : ∃ k, n = k + 1 := ⟨n - 1, by omega⟩
      unfold m8_run_5
      rw [h1, if_pos (by rw [w_le (by omega) (by omega) (by omega) (by omega)]; omega), h3, fin q e2]; rfl
    | succ d ih =>
      intro n q e1 e2 e3 e4
      obtain ⟨n, rfl⟩ : ∃ k, n = k + 1 := ⟨n - 1, by omega⟩
      have b := hT.2 q (by omega)
      unfold m8_run_5 rnL
      rw [h1, if_neg (by rw [w_le (by omega) (by omega) (by omega) (by omega)]; omega), gd_pos (w_inB (by omega) (by omega) (by omega)), gd_pos (w_inB (by omega) (by omega) (by omega)), w_natk (by omega), h2 q (by omega), h3, fin q e2, w_succ]
      by_cases z1 : B q < lo
      · rw [if_pos (by rw [w_lt (by omega) (by omega) (by omega) (by omega)]; exact z1), if_neg (by omega)]; rfl
      · rw [if_neg (by rw [w_lt (by omega) (by omega) (by omega) (by omega)]; exact z1)]
        by_cases z2 : hi < B q
        · rw [if_pos (by rw [w_lt (by omega) (by omega) (by omega) (by omega)]; exact z2), if_neg (by omega)]; rfl
        · rw [if_neg (by rw [w_lt (by omega) (by omega) (by omega) (by omega)]; exact z2), if_pos (by omega), ih n (q + 1) (by omega) (by omega) (by omega) (by omega)]
          congr 2
          omega
  unfold m8_run rn
  rw [h3, loop (L - p) F p rfl (Nat.le_refl _) hp (by omega), Nat.sub_self, Nat.zero_add]
theorem run97_c {F : Nat} {B : Nat → Int} {L p : Nat} {f : Int} {σ : Mem} (hT : Txt B L) (h : TC B L p f σ) (hp : p ≤ 1000000) (hF : 1000 ≤ F) : m8_run F (97 : Int32) (122 : Int32) σ = some (w32 (rn B L 97 122 p : Int)) := run_c hT h hp hF (lo := 97) (hi := 122) (by decide) (by decide)
theorem run48_c {F : Nat} {B : Nat → Int} {L p : Nat} {f : Int} {σ : Mem} (hT : Txt B L) (h : TC B L p f σ) (hp : p ≤ 1000000) (hF : 1000 ≤ F) : m8_run F (48 : Int32) (57 : Int32) σ = some (w32 (rn B L 48 57 p : Int)) := run_c hT h hp hF (lo := 48) (hi := 57) (by decide) (by decide)
theorem word49 {F c1 : Nat} {B : Nat → Int} {L p n : Nat} {f : Int} {σ : Mem} {k20 : Int32 → Int32 → Int32 → Int32 → Int32 → Option Int32} (hT : Txt B L) (h : TC B L p f σ) (hp : p ≤ 1000000) (hn : n ≤ L - p) {c i x : Int} {a z : Nat} {r : Option Int32} (hc : -1000 ≤ c ∧ c ≤ 1000) (hi : 0 ≤ i ∧ i ≤ 1000) (hx : 0 ≤ x ∧ x ≤ 1000) (ha : a ≤ 1000) (hz : z ≤ 1000)
    (e1 : c = 32 → ¬ (z = n ∧ a = n ∧ 0 < n) → k20 (w32 (n : Int)) (w32 (i + 1)) (0 : Int32) (0 : Int32) (w32 (x + 1)) = r)
    (e2 : c = 32 → (z = n ∧ a = n ∧ 0 < n) → some (w32 i) = r)
    (e3 : c ≠ 32 → k20 (w32 (n : Int)) (w32 i) (w32 ((if z < n ∧ B (p + z) = c then a + 1 else a : Nat) : Int)) (w32 ((z + 1 : Nat) : Int)) (w32 (x + 1)) = r) :
    m8_word_49 F c1 σ k20 (w32 (n : Int)) (w32 i) (w32 (a : Int)) (w32 (z : Int)) (w32 x) (w32 c) = r := by
  have hL := hT.1
  obtain ⟨h1, h2, h3, h4⟩ := h
  have s1 : ∀ y : Int, w32 y + (1 : Int32) = w32 (y + 1) := fun y => by rw [wl_1, w_add]
  unfold m8_word_49
  rw [s1, s1, s1, s1]
  by_cases hc32 : c = 32
  · rw [if_pos (by rw [hc32]; rfl)]
    by_cases g1 : z = n
    · rw [if_pos (by rw [g1])]
      by_cases g2 : a = n
      · rw [if_pos (by rw [g2])]
        by_cases g3 : 0 < n
        · rw [if_neg (by rw [wl_0, w_le (by omega) (by omega) (by omega) (by omega)]; omega)]
          exact e2 hc32 ⟨g1, g2, g3⟩
        · rw [if_pos (by rw [wl_0, w_le (by omega) (by omega) (by omega) (by omega)]; omega)]
          exact e1 hc32 (fun q => g3 q.2.2)
      · rw [if_neg (by rw [w_eq (by omega) (by omega) (by omega) (by omega)]; omega)]
        exact e1 hc32 (fun q => g2 q.2.1)
    · rw [if_neg (by rw [w_eq (by omega) (by omega) (by omega) (by omega)]; omega)]
      exact e1 hc32 (fun q => g1 q.1)
  · rw [if_neg (by rw [wl_32, w_eq (by omega) (by omega) (by omega) (by omega)]; exact hc32)]
    have e3 := e3 hc32
    by_cases g1 : n ≤ z
    · rw [if_pos (by rw [w_le (by omega) (by omega) (by omega) (by omega)]; omega), wl_0, w_add, Int.add_zero]
      rw [if_neg (fun q => by omega)] at e3
      exact e3
    · have b := hT.2 (p + z) (by omega)
      rw [if_neg (by rw [w_le (by omega) (by omega) (by omega) (by omega)]; omega), h3, w_add, gd_pos (w_inB (by omega) (by omega) (by omega)), show (p : Int) + (z : Int) = ((p + z : Nat) : Int) by omega, w_natk (by omega), h2 _ (by omega)]
      by_cases g2 : B (p + z) = c
      · rw [if_pos (by rw [g2])]
        rw [if_pos ⟨by omega, g2⟩] at e3
        exact e3
      · rw [if_neg (by rw [w_eq (by omega) (by omega) (by omega) (by omega)]; exact g2), wl_0, w_add, Int.add_zero]
        rw [if_neg (fun q => g2 q.2)] at e3
        exact e3
theorem word_c {F c1 : Nat} {B : Nat → Int} {L p : Nat} {f : Int} {σ : Mem} (hc1 : c1 < 7) (hT : Txt B L) (h : TC B L p f σ) (hp : p ≤ 1000000) (hF : 1000 ≤ F) : m8_word F c1 σ = some (w32 (wdx B p (rn B L 97 122 p) (tws c1) 0)) := by
  have hL := hT.1
  obtain ⟨l1, l2⟩ := tws_len c1 hc1
  have hn := (rn_rg (B := B) (L := L) (p := p) (lo := 97) (hi := 122)).1
  have loop : ∀ (d m x : Nat) (i : Int) (a z : Nat), x + d = (joinW (tws c1)).length → d < m → 0 ≤ i → i ≤ x → a ≤ x → z ≤ x → m8_word_20 F c1 σ m (w32 (rn B L 97 122 p : Int)) (w32 i) (w32 (a : Int)) (w32 (z : Int)) (w32 (x : Int)) = some (w32 (tlu B p (rn B L 97 122 p) ((joinW (tws c1)).drop x) i a z)) := by
    intro d
    induction d with
    | zero =>
      intro m x i a z h1 h2 h3 h4 h5 h6
      obtain ⟨m, rfl⟩ : ∃ k, m = k + 1 := ⟨m - 1, by omega⟩
      unfold m8_word_20
      rw [nI_w, if_pos (by rw [w_lt (by omega) (by omega) (by omega) (by omega)]; omega), List.drop_of_length_le (by omega)]; rfl
    | succ d ih =>
      intro m x i a z h1 h2 h3 h4 h5 h6
      obtain ⟨m, rfl⟩ : ∃ k, m = k + 1 := ⟨m - 1, by omega⟩
      have hx : x < (joinW (tws c1)).length := by omega
      have hd : (joinW (tws c1)).drop x = (joinW (tws c1)).getD x 0 :: (joinW (tws c1)).drop (x + 1) := by
        rw [List.drop_eq_getElem_cons hx, List.getD_eq_getElem?_getD, List.getElem?_eq_getElem hx]; rfl
      have rg := tws_rg c1 hc1 x (by omega)
      have key : m8_word_49 F c1 σ (fun x2 x3 x4 x5 x6 => m8_word_20 F c1 σ m x2 x3 x4 x5 x6) (w32 (rn B L 97 122 p : Int)) (w32 i) (w32 (a : Int)) (w32 (z : Int)) (w32 (x : Int)) (w32 ((joinW (tws c1)).getD x 0)) = some (w32 (tlu B p (rn B L 97 122 p) ((joinW (tws c1)).drop x) i a z)) := by
        refine word49 hT h hp hn rg ⟨h3, by omega⟩ ⟨by omega, by omega⟩ (by omega) (by omega) (fun e q => ?_) (fun e q => ?_) (fun e => ?_)
        · rw [hd, tlu, if_pos e, if_neg q]
          exact ih m (x + 1) (i + 1) 0 0 (by omega) (by omega) (by omega) (by omega) (by omega) (by omega)
        · rw [hd, tlu, if_pos e, if_pos q]
        · rw [hd, tlu, if_neg e]
          exact ih m (x + 1) i _ (z + 1) (by omega) (by omega) (by omega) (by omega) (by split <;> omega) (by omega)
      unfold m8_word_20
      rw [nI_w, if_neg (by rw [w_lt (by omega) (by omega) (by omega) (by omega)]; omega)]
      by_cases g : lenS.getD c1 0 ≤ x
      · rw [if_pos (by rw [w_le (by omega) (by omega) (by omega) (by omega)]; omega)]
        have ex : x = lenS.getD c1 0 := by omega
        have e32 : w32 ((joinW (tws c1)).getD x 0) = (32 : Int32) := by rw [ex, tws_end c1 hc1]; rfl
        rw [e32] at key
        exact key
      · rw [if_neg (by rw [w_le (by omega) (by omega) (by omega) (by omega)]; omega), gd_pos (w_inB (by omega) (by omega) (by omega)), w_natk (by omega), tws_byt c1 hc1 x (by omega)]
        exact key
  unfold m8_word
  rw [run97_c hT h hp hF, Option.bind_some]
  have := loop (joinW (tws c1)).length F 0 0 0 0 (by omega) (by omega) (by omega) (by omega) (by omega) (by omega)
  rw [List.drop_zero, tlu_join _ _ (tws_no c1 hc1)] at this
  exact this
theorem passWord_c {F : Nat} {B : Nat → Int} {L p : Nat} {f : Int} {σ : Mem} (hT : Txt B L) (h : TC B L p f σ) (hp : p ≤ 1000000) (hF : 1000 ≤ F) : ∃ σ', m8_passWord F σ = some σ' ∧ TC B L (p + rn B L 97 122 p) f σ' ∧ Fr (fun c => c = 1) σ σ' := by
  unfold m8_passWord
  rw [run97_c hT h hp hF, Option.bind_some, h.2.2.1, w_add, show (p : Int) + (rn B L 97 122 p : Int) = ((p + rn B L 97 122 p : Nat) : Int) by omega]
  exact ⟨_, rfl, h.at _, (Fr.rf (fun c => c = 1) σ).sI rfl⟩
def ff (f : Int) (a : Nat) (c : Int) : Int := if f = 0 then 1 + 8 * (a : Int) + c else f
theorem ff_ne {f : Int} {a : Nat} {c : Int} (hc : 0 ≤ c) : ff f a c ≠ 0 := by
  unfold ff
  split <;> omega
theorem fail_c {F : Nat} {B : Nat → Int} {L p a : Nat} {f c : Int} {σ : Mem} (h : TC B L p f σ) (ha : a ≤ 1000000) (hf : -2147483648 ≤ f ∧ f ≤ 2147483647) : ∃ σ', m8_fail F (w32 (a : Int)) (w32 c) σ = some σ' ∧ TC B L p (ff f a c) σ' ∧ Fr (fun c => c = 1) σ σ' := by
  unfold m8_fail ff
  rw [h.2.2.2]
  by_cases q : f = 0
  · rw [if_pos (by rw [q]; rfl), if_pos q, wl_1, wl_8, w_mul, w_add, w_add]
    exact ⟨_, rfl, ⟨by rw [gI_nej (by decide)]; exact h.1, fun i hi => by rw [gI_nec (by decide)]; exact h.2.1 i hi, by rw [gI_nej (by decide)]; exact h.2.2.1, gI_eq ..⟩, (Fr.rf (fun c => c = 1) σ).sI rfl⟩
  · rw [if_neg (by rw [wl_0, w_eq (by omega) (by omega) (by omega) (by omega)]; exact q), if_neg q]
    exact ⟨σ, rfl, h, Fr.rf _ σ⟩
/-! NUMBERS -/
def nv (B : Nat → Int) (p : Nat) : Nat → Int
  | 0 => 0
  | k + 1 => nv B p k * 10 + B (p + k) - 48
theorem nv_rg {B : Nat → Int} {p : Nat} : ∀ k, (∀ j, j < k → 48 ≤ B (p + j) ∧ B (p + j) ≤ 57) → k ≤ 5 → 0 ≤ nv B p k ∧ nv B p k + 1 ≤ (10 : Int) ^ k
  | 0, _, _ => ⟨Int.le_refl _, Int.le_refl _⟩
  | k + 1, h, h5 => by
    have ih := nv_rg (B := B) (p := p) k (fun j hj => h j (by omega)) (by omega)
    have hk := h k (Nat.lt_succ_self _)
    unfold nv
    rw [Int.pow_succ]
    omega
theorem nv_99999 {B : Nat → Int} {L p k : Nat} (h : k ≤ rn B L 48 57 p) (h5 : k ≤ 5) : 0 ≤ nv B p k ∧ nv B p k ≤ 99999 := by
  have := nv_rg (B := B) (p := p) k (fun j hj => (rn_rg (L := L)).2 j (by omega)) h5
  have hp : (10 : Int) ^ k ≤ (10 : Int) ^ 5 := by
    rcases (show k = 0 ∨ k = 1 ∨ k = 2 ∨ k = 3 ∨ k = 4 ∨ k = 5 by omega) with rfl | rfl | rfl | rfl | rfl | rfl <;> decide
  have h10 : (10 : Int) ^ 5 = 100000 := by decide
  omega
/-- the FAULT of a number of n digits at q -/
def nfa (lo hi : Int) (q n : Nat) (v f : Int) : Int := if n = 0 then ff f q 0 else if 5 < n ∨ v < lo ∨ hi < v then ff f q 1 else f
theorem num103 {F : Nat} {B : Nat → Int} {L p n : Nat} {f lo v : Int} {i2 : Int32} {σ : Mem} (h : TC B L p f σ) (hf : -2147483648 ≤ f ∧ f ≤ 2147483647) : ∃ σ', m8_number_103 F (w32 lo) i2 (w32 (n : Int)) (w32 v) σ = some (w32 (if f = 0 then v else lo), σ') ∧ TC B L (p + n) f σ' ∧ Fr (fun c => c = 1) σ σ' := by
  unfold m8_number_103
  rw [h.2.2.1, w_add, show (p : Int) + (n : Int) = ((p + n : Nat) : Int) by omega]
  have t := h.at (p + n)
  have g : Fr (fun c => c = 1) σ (sI σ 1 2 (w32 ((p + n : Nat) : Int))) := (Fr.rf (fun c => c = 1) σ).sI rfl
  dsimp only
  rw [t.2.2.2]
  by_cases q : f = 0
  · rw [if_pos (by rw [q]; rfl), if_pos q]
    exact ⟨_, rfl, t, g⟩
  · rw [if_neg (by rw [wl_0, w_eq (by omega) (by omega) (by omega) (by omega)]; exact q), if_neg q]
    exact ⟨_, rfl, t, g⟩
theorem ff_rg {f : Int} {a : Nat} {c : Int} (hf : -100000000 ≤ f ∧ f ≤ 100000000) (ha : a ≤ 1000000) (hc : 0 ≤ c ∧ c ≤ 10) : -100000000 ≤ ff f a c ∧ ff f a c ≤ 100000000 := by
  unfold ff
  split <;> omega
theorem nfa_rg {lo hi v f : Int} {q n : Nat} (hf : -100000000 ≤ f ∧ f ≤ 100000000) (hq : q ≤ 1000000) : -100000000 ≤ nfa lo hi q n v f ∧ nfa lo hi q n v f ≤ 100000000 := by
  unfold nfa
  split
  · exact ff_rg hf hq (by decide)
  · split
    · exact ff_rg hf hq (by decide)
    · exact hf
theorem number_c {F : Nat} {B : Nat → Int} {L p : Nat} {f lo hi : Int} {σ : Mem} (hT : Txt B L) (h : TC B L p f σ) (hp : p ≤ 1000000) (hF : 1000 ≤ F) (hf : -100000000 ≤ f ∧ f ≤ 100000000) (b1 : -1000000 ≤ lo ∧ lo ≤ 1000000) (b2 : -1000000 ≤ hi ∧ hi ≤ 1000000) : ∃ σ', m8_number F (w32 lo) (w32 hi) σ = some (w32 (if nfa lo hi (sk B L p) (rn B L 48 57 (sk B L p)) (nv B (sk B L p) (min (rn B L 48 57 (sk B L p)) 5)) f = 0 then nv B (sk B L p) (min (rn B L 48 57 (sk B L p)) 5) else lo), σ') ∧ TC B L (sk B L p + rn B L 48 57 (sk B L p)) (nfa lo hi (sk B L p) (rn B L 48 57 (sk B L p)) (nv B (sk B L p) (min (rn B L 48 57 (sk B L p)) 5)) f) σ' ∧ Fr (fun c => c = 1) σ σ' := by
  have hL := hT.1
  obtain ⟨σ1, m1, t1, g1⟩ := next_c (F := F) hT h hp hF
  have hq := sk_rg (B := B) (L := L) (p := p)
  generalize hqd : sk B L p = q at *
  have hn := (rn_rg (B := B) (L := L) (p := q) (lo := 48) (hi := 57))
  have hr := run48_c (F := F) hT t1 (by omega) hF
  generalize hnd : rn B L 48 57 q = n at *
  have n61 : ∀ v : Int, 0 ≤ v → v ≤ 99999 → ∃ σ', m8_number_61 F (w32 lo) (w32 hi) (w32 (n : Int)) (w32 v) σ1 = some (w32 (if nfa lo hi q n v f = 0 then v else lo), σ') ∧ TC B L (q + n) (nfa lo hi q n v f) σ' ∧ Fr (fun c => c = 1) σ1 σ' := by
    intro v v0 v1
    have bad : ∃ σ', m8_number_94 F (w32 lo) (w32 hi) (fun x3 x4 σ => m8_number_103 F (w32 lo) (w32 hi) x3 x4 σ) (w32 (n : Int)) (w32 v) σ1 = some (w32 (if ff f q 1 = 0 then v else lo), σ') ∧ TC B L (q + n) (ff f q 1) σ' ∧ Fr (fun c => c = 1) σ1 σ' := by
      unfold m8_number_94
      obtain ⟨σ2, m2, t2, g2⟩ := fail_c (F := F) (c := 1) t1 (show q ≤ 1000000 by omega) (by omega)
      obtain ⟨σ3, m3, t3, g3⟩ := num103 (F := F) (n := n) (lo := lo) (v := v) (i2 := w32 hi) t2 (by have := ff_rg hf (show q ≤ 1000000 by omega) (c := 1) (by decide); omega)
      rw [t1.2.2.1, wl_1, m2, Option.bind_some]
      exact ⟨σ3, m3, t3, g2.trans g3⟩
    have good : nfa lo hi q n v f = f → ∃ σ', m8_number_103 F (w32 lo) (w32 hi) (w32 (n : Int)) (w32 v) σ1 = some (w32 (if nfa lo hi q n v f = 0 then v else lo), σ') ∧ TC B L (q + n) (nfa lo hi q n v f) σ' ∧ Fr (fun c => c = 1) σ1 σ' := by
      intro e
      rw [e]
      exact num103 t1 (by omega)
    unfold m8_number_61
    by_cases z0 : n = 0
    · rw [if_pos (by rw [z0]; rfl), t1.2.2.1, show nfa lo hi q n v f = ff f q 0 from if_pos z0]
      obtain ⟨σ2, m2, t2, g2⟩ := fail_c (F := F) (c := 0) t1 (show q ≤ 1000000 by omega) (by omega)
      obtain ⟨σ3, m3, t3, g3⟩ := num103 (F := F) (n := n) (lo := lo) (v := v) (i2 := w32 hi) t2 (by have := ff_rg hf (show q ≤ 1000000 by omega) (c := 0) (by decide); omega)
      rw [wl_0, m2, Option.bind_some]
      exact ⟨σ3, m3, t3, g2.trans g3⟩
    · rw [if_neg (by rw [wl_0, w_eq (by omega) (by omega) (by omega) (by omega)]; omega)]
      by_cases z1 : 5 < n
      · rw [if_pos (by rw [wl_5, w_lt (by omega) (by omega) (by omega) (by omega)]; omega), show nfa lo hi q n v f = ff f q 1 from (if_neg z0).trans (if_pos (Or.inl z1))]
        exact bad
      · rw [if_neg (by rw [wl_5, w_lt (by omega) (by omega) (by omega) (by omega)]; omega)]
        by_cases z2 : v < lo
        · rw [if_pos (by rw [w_lt (by omega) (by omega) (by omega) (by omega)]; exact z2), show nfa lo hi q n v f = ff f q 1 from (if_neg z0).trans (if_pos (Or.inr (Or.inl z2)))]
          exact bad
        · rw [if_neg (by rw [w_lt (by omega) (by omega) (by omega) (by omega)]; exact z2)]
          by_cases z3 : hi < v
          · rw [if_neg (by rw [w_le (by omega) (by omega) (by omega) (by omega)]; omega), show nfa lo hi q n v f = ff f q 1 from (if_neg z0).trans (if_pos (Or.inr (Or.inr z3)))]
            exact bad
          · rw [if_pos (by rw [w_le (by omega) (by omega) (by omega) (by omega)]; omega)]
            exact good ((if_neg z0).trans (if_neg (fun z => by omega)))
  have loop : ∀ (d m i : Nat), i + d = min n 5 → d < m → ∃ σ', m8_number_20 F (w32 lo) (w32 hi) m (w32 (n : Int)) (w32 (nv B q i)) (w32 (i : Int)) σ1 = some (w32 (if nfa lo hi q n (nv B q (min n 5)) f = 0 then nv B q (min n 5) else lo), σ') ∧ TC B L (q + n) (nfa lo hi q n (nv B q (min n 5)) f) σ' ∧ Fr (fun c => c = 1) σ1 σ' := by
    intro d
    induction d with
    | zero =>
      intro m i e1 e2
      obtain ⟨m, rfl⟩ : ∃ k, m = k + 1 := ⟨m - 1, by omega⟩
      have v9 := nv_99999 (B := B) (L := L) (p := q) (k := min n 5) (by omega) (by omega)
      have ei : i = min n 5 := by omega
      unfold m8_number_20
      rw [ei]
      by_cases z : n ≤ i
      · rw [if_pos (by rw [w_le (by omega) (by omega) (by omega) (by omega)]; omega)]
        exact n61 _ v9.1 v9.2
      · rw [if_neg (by rw [w_le (by omega) (by omega) (by omega) (by omega)]; omega), if_pos (by rw [wl_5, w_le (by omega) (by omega) (by omega) (by omega)]; omega)]
        exact n61 _ v9.1 v9.2
    | succ d ih =>
      intro m i e1 e2
      obtain ⟨m, rfl⟩ : ∃ k, m = k + 1 := ⟨m - 1, by omega⟩
      unfold m8_number_20
      rw [if_neg (by rw [w_le (by omega) (by omega) (by omega) (by omega)]; omega), if_neg (by rw [wl_5, w_le (by omega) (by omega) (by omega) (by omega)]; omega), t1.2.2.1, w_add, gd_pos (w_inB (by omega) (by omega) (by omega)), show (q : Int) + (i : Int) = ((q + i : Nat) : Int) by omega, w_natk (by omega), t1.2.1 _ (by omega), wl_10, w_mul, w_add, show (48 : Int32) = w32 48 from rfl, w_sub, w_succ]
      exact ih m (i + 1) (by omega) (by omega)
  obtain ⟨σ2, m2, t2, g2⟩ := loop (min n 5) F 0 (by omega) (by omega)
  refine ⟨σ2, ?_, t2, g1.trans g2⟩
  unfold m8_number
  rw [m1, Option.bind_some]
  dsimp only
  rw [hr, Option.bind_some]
  exact m2
