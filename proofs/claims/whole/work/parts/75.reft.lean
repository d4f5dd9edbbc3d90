/-! TEXTS, 6: the reference's tape -/
def sb (b : Int) : Int := if b < 128 then b else b - 256
theorem sb_cs (b : Int) : (b < 128 ∧ sb b = b) ∨ (128 ≤ b ∧ sb b = b - 256) := by
  unfold sb
  split
  · exact Or.inl ⟨by assumption, rfl⟩
  · exact Or.inr ⟨by omega, rfl⟩
theorem sb_w {b : Int} (h1 : 0 ≤ b) (h2 : b ≤ 255) : (w32 b).toInt8.toInt32 = w32 (sb b) ∧ w32 (sb b) &&& 255 = w32 b := by
  have key : ∀ n : Nat, n < 256 → (w32 (n : Int)).toInt8.toInt32 = w32 (sb (n : Int)) ∧ w32 (sb (n : Int)) &&& 255 = w32 (n : Int) := by decide +kernel
  have := key b.toNat (by omega)
  rwa [show ((b.toNat : Nat) : Int) = b by omega] at this
def V8 (j : Nat) : Prop := 8 ≤ j ∧ j ≤ 10
def Qs (σ σ' : Mem) : Prop := Fr (fun c => c = 483) σ σ' ∧ Sl V8 σ σ'
theorem Qs.rf (σ : Mem) : Qs σ σ := ⟨Fr.rf _ σ, Sl.rf _ σ⟩
theorem Qs.trans {σ σ1 σ2 : Mem} (h : Qs σ σ1) (g : Qs σ1 σ2) : Qs σ σ2 := ⟨h.1.trans g.1, h.2.trans g.2⟩
theorem Qs.s {σ σ1 : Mem} {j : Nat} {v : Int32} (h : Qs σ σ1) (hj : V8 j) : Qs σ (sI σ1 483 j v) := ⟨h.1.sI rfl, h.2.at hj⟩
theorem Qs.c {σ σ1 : Mem} (h : Qs σ σ1) {c : Nat} (hc : c ≠ 483) : gI σ1 c = gI σ c := h.1.gI hc
theorem Qs.j {σ σ1 : Mem} (h : Qs σ σ1) {j : Nat} (hj : ¬ V8 j) : gI σ1 483 j = gI σ 483 j := h.2 j hj
def RT (B : Nat → Int) (L p : Nat) (f : Int) (σ : Mem) : Prop := gI σ 483 1 = w32 (L : Int) ∧ (∀ i, i < L → gI σ 484 i = (w32 (B i)).toInt8.toInt32) ∧ gI σ 483 8 = w32 (p : Int) ∧ gI σ 483 9 = w32 f
theorem RT.b {B : Nat → Int} {L p q : Nat} {f : Int} {σ : Mem} (h : RT B L p f σ) (hT : Txt B L) (hq : q < L) : gI σ 484 q = w32 (sb (B q)) := by
  have := hT.2 q hq
  rw [h.2.1 q hq, (sb_w this.1 this.2).1]
theorem RT.at {B : Nat → Int} {L p : Nat} {f : Int} {σ : Mem} (h : RT B L p f σ) (q : Nat) : RT B L q f (sI σ 483 8 (w32 (q : Int))) :=
  ⟨by rw [gI_nej (by decide)]; exact h.1, fun i hi => by rw [gI_nec (by decide)]; exact h.2.1 i hi, gI_eq .., by rw [gI_nej (by decide)]; exact h.2.2.2⟩
theorem RT.ne {B : Nat → Int} {L p : Nat} {f : Int} {σ : Mem} (h : RT B L p f σ) {c j : Nat} {v : Int32} (hc : c ≠ 484 ∧ (c ≠ 483 ∨ (j ≠ 1 ∧ j ≠ 8 ∧ j ≠ 9))) : RT B L p f (sI σ c j v) :=
  ⟨by rw [gI_sI, if_neg (by omega)]; exact h.1, fun i hi => by rw [gI_nec (by omega)]; exact h.2.1 i hi, by rw [gI_sI, if_neg (by omega)]; exact h.2.2.1, by rw [gI_sI, if_neg (by omega)]; exact h.2.2.2⟩
theorem see38 {F : Nat} {B : Nat → Int} {L p : Nat} {f : Int} {σ : Mem} (hT : Txt B L) (h : RT B L p f σ) (hp : p ≤ 1000000) : m12_see_38 F σ = some (w32 (ch B L p), σ) := by
  have hL := hT.1
  unfold m12_see_38 ch
  rw [h.1, h.2.2.1]
  by_cases q : p < L
  · have b := hT.2 p q
    rw [if_neg (by rw [w_le (by omega) (by omega) (by omega) (by omega)]; omega), if_pos q, gd_pos (w_inB (by omega) (by omega) (by omega)), w_natk (by omega), h.b hT q, (sb_w b.1 b.2).2]
  · rw [if_pos (by rw [w_le (by omega) (by omega) (by omega) (by omega)]; omega), if_neg q]; rfl
theorem see_r {F : Nat} {B : Nat → Int} {L p : Nat} {f : Int} {σ : Mem} (hT : Txt B L) (h : RT B L p f σ) (hp : p ≤ 1000000) (hF : 1000 ≤ F) : ∃ σ', m12_see F σ = some (w32 (ch B L (sk B L p)), σ') ∧ RT B L (sk B L p) f σ' ∧ Qs σ σ' := by
  have hL := hT.1
  have loop : ∀ (d n p : Nat) (σ : Mem), L - p = d → p ≤ 1000000 → d < n → RT B L p f σ → ∃ σ', m12_see_0 F n σ = some (w32 (ch B L (skL B d p)), σ') ∧ RT B L (skL B d p) f σ' ∧ Qs σ σ' := by
    intro d
    induction d with
    | zero =>
      intro n p σ h1 hp h2 h
      obtain ⟨n, rfl⟩ : ∃ k, n = k + 1 := ⟨n - 1, by omega⟩
      unfold m12_see_0
      rw [h.1, h.2.2.1, if_pos (by rw [w_le (by omega) (by omega) (by omega) (by omega)]; omega), see38 hT h hp]
      exact ⟨σ, rfl, h, Qs.rf σ⟩
    | succ d ih =>
      intro n p σ h1 hp h2 h
      obtain ⟨n, rfl⟩ : ∃ k, n = k + 1 := ⟨n - 1, by omega⟩
      have b := hT.2 p (by omega)
      have cs := sb_cs (B p)
      unfold m12_see_0 skL
      rw [h.1, h.2.2.1, if_neg (by rw [w_le (by omega) (by omega) (by omega) (by omega)]; omega), gd_pos (w_inB (by omega) (by omega) (by omega)), w_natk (by omega), h.b hT (by omega)]
      by_cases q : B p = 32
      · rw [if_pos (by rw [q]; rfl), if_pos q, w_succ]
        obtain ⟨σ', m, t, g⟩ := ih n (p + 1) _ (by omega) (by omega) (by omega) (h.at (p + 1))
        exact ⟨σ', m, t, ((Qs.rf σ).s (by unfold V8; omega)).trans g⟩
      · rw [if_neg (by rw [wl_32, w_eq (by omega) (by omega) (by omega) (by omega)]; omega), if_neg q, see38 hT h hp]
        exact ⟨σ, rfl, h, Qs.rf σ⟩
  exact loop (L - p) F p σ rfl hp (by omega) h
theorem isDigit_r {F : Nat} {B : Nat → Int} {L p q : Nat} {f : Int} {σ : Mem} (hT : Txt B L) (h : RT B L p f σ) (hq : q ≤ 1000000) : m12_isDigit F (w32 (q : Int)) σ = some (if 48 ≤ ch B L q ∧ ch B L q ≤ 57 then 1 else 0) := by
  have hL := hT.1
  unfold m12_isDigit ch
  rw [h.1]
  by_cases z : q < L
  · have b := hT.2 q z
    have cs := sb_cs (B q)
    rw [if_neg (by rw [w_le (by omega) (by omega) (by omega) (by omega)]; omega), gd_pos (w_inB (by omega) (by omega) (by omega)), gd_pos (w_inB (by omega) (by omega) (by omega)), w_natk (by omega), h.b hT z, if_pos z]
    by_cases z1 : sb (B q) < 48
    · rw [if_pos (by rw [show (48 : Int32) = w32 48 from rfl, w_lt (by omega) (by omega) (by omega) (by omega)]; exact z1), if_neg (by omega)]
    · rw [if_neg (by rw [show (48 : Int32) = w32 48 from rfl, w_lt (by omega) (by omega) (by omega) (by omega)]; exact z1)]
      by_cases z2 : 57 < sb (B q)
      · rw [if_pos (by rw [show (57 : Int32) = w32 57 from rfl, w_lt (by omega) (by omega) (by omega) (by omega)]; exact z2), if_neg (by omega)]
      · rw [if_neg (by rw [show (57 : Int32) = w32 57 from rfl, w_lt (by omega) (by omega) (by omega) (by omega)]; exact z2), if_pos (by omega)]
  · rw [if_pos (by rw [w_le (by omega) (by omega) (by omega) (by omega)]; omega), if_neg z, if_neg (by decide)]
theorem isLetter_r {F : Nat} {B : Nat → Int} {L p q : Nat} {f : Int} {σ : Mem} (hT : Txt B L) (h : RT B L p f σ) (hq : q ≤ 1000000) : m12_isLetter F (w32 (q : Int)) σ = some (if 97 ≤ ch B L q ∧ ch B L q ≤ 122 then 1 else 0) := by
  have hL := hT.1
  unfold m12_isLetter ch
  rw [h.1]
  by_cases z : q < L
  · have b := hT.2 q z
    have cs := sb_cs (B q)
    rw [if_neg (by rw [w_le (by omega) (by omega) (by omega) (by omega)]; omega), gd_pos (w_inB (by omega) (by omega) (by omega)), gd_pos (w_inB (by omega) (by omega) (by omega)), w_natk (by omega), h.b hT z, if_pos z]
    by_cases z1 : sb (B q) < 97
    · rw [if_pos (by rw [wl_97, w_lt (by omega) (by omega) (by omega) (by omega)]; exact z1), if_neg (by omega)]
    · rw [if_neg (by rw [wl_97, w_lt (by omega) (by omega) (by omega) (by omega)]; exact z1)]
      by_cases z2 : 122 < sb (B q)
      · rw [if_pos (by rw [wl_122, w_lt (by omega) (by omega) (by omega) (by omega)]; exact z2), if_neg (by omega)]
      · rw [if_neg (by rw [wl_122, w_lt (by omega) (by omega) (by omega) (by omega)]; exact z2), if_pos (by omega)]
  · rw [if_pos (by rw [w_le (by omega) (by omega) (by omega) (by omega)]; omega), if_neg z, if_neg (by decide)]
/-! words as numbers -/
def pkf (X : Nat → Int) : Nat → Int
  | 0 => 0
  | k + 1 => 256 * pkf X k + X k
theorem pkf_rg {X : Nat → Int} : ∀ k, (∀ j, j < k → 1 ≤ X j ∧ X j ≤ 255) → 0 ≤ pkf X k ∧ pkf X k < (256 : Int) ^ k ∧ (0 < k → 0 < pkf X k)
  | 0, _ => ⟨Int.le_refl _, show (0 : Int) < 256 ^ 0 by decide, fun h => absurd h (Nat.lt_irrefl 0)⟩
  | k + 1, h => by
    have ih := pkf_rg (X := X) k (fun j hj => h j (by omega))
    have hk := h k (Nat.lt_succ_self _)
    unfold pkf
    rw [Int.pow_succ]
    omega
theorem pkf_inj {X Y : Nat → Int} : ∀ a b, (∀ j, j < a → 1 ≤ X j ∧ X j ≤ 255) → (∀ j, j < b → 1 ≤ Y j ∧ Y j ≤ 255) → pkf X a = pkf Y b → a = b ∧ ∀ k, k < a → X k = Y k
  | 0, 0, _, _, _ => ⟨rfl, fun k h => absurd h (Nat.not_lt_zero k)⟩
  | 0, b + 1, _, hY, h => by
    have := (pkf_rg (X := Y) (b + 1) hY).2.2 (by omega)
    have e : pkf X 0 = 0 := rfl
    omega
  | a + 1, 0, hX, _, h => by
    have := (pkf_rg (X := X) (a + 1) hX).2.2 (by omega)
    have e : pkf Y 0 = 0 := rfl
    omega
  | a + 1, b + 1, hX, hY, h => by
    have x := hX a (Nat.lt_succ_self _)
    have y := hY b (Nat.lt_succ_self _)
    have e1 : pkf X (a + 1) = 256 * pkf X a + X a := rfl
    have e2 : pkf Y (b + 1) = 256 * pkf Y b + Y b := rfl
    obtain ⟨i1, i2⟩ := pkf_inj (X := X) (Y := Y) a b (fun j hj => hX j (by omega)) (fun j hj => hY j (by omega)) (by omega)
    subst i1
    refine ⟨rfl, fun k hk => ?_⟩
    by_cases z : k = a
    · rw [z]; omega
    · exact i2 k (by omega)
theorem pkf_same {X Y : Nat → Int} : ∀ k, (∀ j, j < k → X j = Y j) → pkf X k = pkf Y k
  | 0, _ => rfl
  | k + 1, h => by
    unfold pkf
    rw [pkf_same k (fun j hj => h j (by omega)), h k (Nat.lt_succ_self _)]
theorem alb_iff {B : Nat → Int} : ∀ (w : List Int) (q : Nat), alb B q w = true ↔ ∀ k, k < w.length → B (q + k) = w.getD k 0
  | [], q => ⟨fun _ k hk => absurd hk (Nat.not_lt_zero k), fun _ => rfl⟩
  | c :: w, q => by
    have ih := alb_iff (B := B) w (q + 1)
    unfold alb
    rw [Bool.and_eq_true, decide_eq_true_eq, ih, List.length_cons]
    constructor
    · intro ⟨a, b⟩ k hk
      cases k with
      | zero => exact a
      | succ k =>
        have := b k (by omega)
        rw [show q + 1 + k = q + (k + 1) by omega] at this
        exact this
    · intro h
      refine ⟨h 0 (by omega), fun k hk => ?_⟩
      have := h (k + 1) (by omega)
      rw [show q + (k + 1) = q + 1 + k by omega] at this
      exact this
theorem isw_pk {B : Nat → Int} {L p : Nat} {w : List Int} (hw : ∀ k, k < w.length → 97 ≤ w.getD k 0 ∧ w.getD k 0 ≤ 122) : isw B p (rn B L 97 122 p) w = true ↔ 0 < rn B L 97 122 p ∧ pkf (fun k => B (p + k)) (rn B L 97 122 p) = pkf (fun k => w.getD k 0) w.length := by
  have r := (rn_rg (B := B) (L := L) (p := p) (lo := 97) (hi := 122)).2
  unfold isw
  rw [Bool.and_eq_true, Bool.and_eq_true, decide_eq_true_eq, decide_eq_true_eq, alb_iff]
  constructor
  · intro ⟨a, b, c⟩
    exact ⟨b, by rw [← a]; exact pkf_same _ (fun j hj => c j hj)⟩
  · intro ⟨a, b⟩
    obtain ⟨i1, i2⟩ := pkf_inj _ _ (fun j hj => by have := r j hj; show 1 ≤ B (p + j) ∧ B (p + j) ≤ 255; omega) (fun j hj => by have := hw j hj; show 1 ≤ w.getD j 0 ∧ w.getD j 0 ≤ 255; omega) b
    exact ⟨i1.symm, a, fun k hk => i2 k (by omega)⟩
theorem pk_step (v b : Nat) (hv : v < 2 ^ 55) (hb : b < 256) : (Int64.ofInt (v : Int) <<< (((8 : Int32)).toInt64 &&& (63 : Int64))) ||| Int64.ofInt (b : Int) = Int64.ofInt ((256 * v + b : Nat) : Int) := by
  have e8 : (((8 : Int32)).toInt64 &&& (63 : Int64)) = 8 := by decide
  rw [e8]
  apply Int64.toBitVec.inj
  rw [Int64.toBitVec_or, Int64.toBitVec_shiftLeft]
  have e9 : ((8 : Int64).toBitVec.smod 64) = 8#64 := by decide
  rw [e9]
  apply BitVec.eq_of_toNat_eq
  simp only [BitVec.toNat_or, BitVec.shiftLeft_eq', BitVec.toNat_shiftLeft, BitVec.toNat_ofNat, Int64.toBitVec_ofInt, BitVec.ofInt_natCast]
  rw [Nat.mod_eq_of_lt (show v < 2 ^ 64 by omega), Nat.mod_eq_of_lt (show b < 2 ^ 64 by omega), Nat.mod_eq_of_lt (show 8 < 2 ^ 64 by decide), Nat.mod_eq_of_lt (show 256 * v + b < 2 ^ 64 by omega)]
  have : v <<< 8 < 2 ^ 64 := by rw [Nat.shiftLeft_eq]; omega
  rw [Nat.mod_eq_of_lt this, ← Nat.shiftLeft_add_eq_or_of_lt (show b < 2 ^ 8 by omega), Nat.shiftLeft_eq]
  omega
theorem rnL_end {B : Nat → Int} {lo hi : Int} : ∀ (d p : Nat), rnL B lo hi d p = d ∨ ¬ (lo ≤ B (p + rnL B lo hi d p) ∧ B (p + rnL B lo hi d p) ≤ hi)
  | 0, _ => Or.inl rfl
  | d + 1, p => by
    unfold rnL
    by_cases h : lo ≤ B p ∧ B p ≤ hi
    · rw [if_pos h]
      rcases rnL_end (B := B) (lo := lo) (hi := hi) d (p + 1) with e | e
      · exact Or.inl (by rw [e])
      · exact Or.inr (by rw [show p + (rnL B lo hi d (p + 1) + 1) = p + 1 + rnL B lo hi d (p + 1) by omega]; exact e)
    · rw [if_neg h]
      exact Or.inr h
theorem rn_end {B : Nat → Int} {L p : Nat} {lo hi : Int} (h0 : 0 ≤ lo := by decide) : ¬ (lo ≤ ch B L (p + rn B L lo hi p) ∧ ch B L (p + rn B L lo hi p) ≤ hi) := fun h => by
  have hlt : p + rn B L lo hi p < L := ch_lt (B := B) (L := L) (by omega)
  rw [ch_eq hlt] at h
  unfold rn at h hlt
  rcases rnL_end (B := B) (lo := lo) (hi := hi) (L - p) p with e | e
  · omega
  · exact e h
theorem isWord_r {F : Nat} {B : Nat → Int} {L p : Nat} {f : Int} {σ : Mem} (hT : Txt B L) (h : RT B L p f σ) (hp : p ≤ 1000000) (hF : 1000 ≤ F) (w : List Int) (J : Int64) (hJ : J = Int64.ofInt (pkf (fun k => w.getD k 0) w.length)) (hl : w.length < 8) (hw : ∀ k, k < w.length → 97 ≤ w.getD k 0 ∧ w.getD k 0 ≤ 122) : ∃ σ', m12_isWord F J σ = some (if isK B L w (sk B L p) = true then 1 else 0, σ') ∧ RT B L (sk B L p) f σ' ∧ Qs σ σ' := by
  have hL := hT.1
  obtain ⟨σ1, m1, t1, q1⟩ := see_r (F := F) hT h hp hF
  have q := sk_rg (B := B) (L := L) (p := p)
  have hpk := isw_pk (B := B) (L := L) (p := sk B L p) hw
  unfold isK
  generalize sk B L p = p1 at *
  have r := rn_rg (B := B) (L := L) (p := p1) (lo := 97) (hi := 122)
  have hn : ∀ k, k < rn B L 97 122 p1 → 97 ≤ ch B L (p1 + k) ∧ ch B L (p1 + k) ≤ 122 := fun k hk => by rw [ch_eq (by omega)]; exact r.2 k hk
  have hend : ¬ (97 ≤ ch B L (p1 + rn B L 97 122 p1) ∧ ch B L (p1 + rn B L 97 122 p1) ≤ 122) := rn_end
  generalize rn B L 97 122 p1 = N at *
  have rgk : ∀ k, k ≤ N → 0 ≤ pkf (fun k => B (p1 + k)) k ∧ pkf (fun k => B (p1 + k)) k < (256 : Int) ^ k := fun k hk => by
    have := pkf_rg (X := fun k => B (p1 + k)) k (fun j hj => by have := r.2 j (by omega); show 1 ≤ B (p1 + j) ∧ B (p1 + j) ≤ 255; omega)
    exact ⟨this.1, this.2.1⟩
  have p7 : ∀ k : Nat, k ≤ 7 → (256 : Int) ^ k ≤ 72057594037927936 := fun k hk => by
    rcases (show k = 0 ∨ k = 1 ∨ k = 2 ∨ k = 3 ∨ k = 4 ∨ k = 5 ∨ k = 6 ∨ k = 7 by omega) with rfl | rfl | rfl | rfl | rfl | rfl | rfl | rfl <;> decide
  have loop : ∀ (d n k : Nat) (x3 : Int64), k + d = N → d < n → (k ≤ 7 → x3 = Int64.ofInt (pkf (fun k => B (p1 + k)) k)) → m12_isWord_10 F J n x3 (w32 (k : Int)) σ1 = some (if isw B p1 N w = true then 1 else 0, σ1) := by
    intro d
    induction d with
    | zero =>
      intro n k x3 h1 h2 h3
      obtain ⟨n, rfl⟩ : ∃ k, n = k + 1 := ⟨n - 1, by omega⟩
      have ek : k = N := by omega
      unfold m12_isWord_10
      rw [t1.2.2.1, w_add, show (p1 : Int) + (k : Int) = ((p1 + k : Nat) : Int) by omega, isLetter_r hT t1 (by omega), ek, if_neg hend, Option.bind_some, if_pos rfl]
      by_cases z0 : N = 0
      · rw [if_pos (by rw [wl_0, w_le (by omega) (by omega) (by omega) (by omega)]; omega), if_neg (fun z => by have := (hpk.mp z).1; omega)]
      · rw [if_neg (by rw [wl_0, w_le (by omega) (by omega) (by omega) (by omega)]; omega)]
        by_cases z8 : 8 ≤ N
        · rw [if_pos (by rw [wl_8, w_le (by omega) (by omega) (by omega) (by omega)]; omega), if_neg (fun z => by
            unfold isw at z
            rw [Bool.and_eq_true, decide_eq_true_eq] at z
            omega)]
        · rw [if_neg (by rw [wl_8, w_le (by omega) (by omega) (by omega) (by omega)]; omega), h3 (by omega), hJ, ek]
          simp only [lg_eq0]
          have b1 := rgk N (Nat.le_refl _)
          have b2 := p7 N (by omega)
          have b3 := pkf_rg (X := fun k => w.getD k 0) w.length (fun j hj => by have := hw j hj; show 1 ≤ w.getD j 0 ∧ w.getD j 0 ≤ 255; omega)
          have b4 := p7 w.length (by omega)
          have e : (Int64.ofInt (pkf (fun k => B (p1 + k)) N) = Int64.ofInt (pkf (fun k => w.getD k 0) w.length)) ↔ pkf (fun k => B (p1 + k)) N = pkf (fun k => w.getD k 0) w.length := by
            constructor
            · intro z
              have := congrArg Int64.toInt z
              rwa [Int64.toInt_ofInt_of_le (by omega) (by omega), Int64.toInt_ofInt_of_le (by omega) (by omega)] at this
            · intro z; rw [z]
          by_cases z : isw B p1 N w = true
          · rw [if_pos (e.mpr (hpk.mp z).2), if_pos z]
          · rw [if_neg (fun y => z (hpk.mpr ⟨by omega, e.mp y⟩)), if_neg z]
    | succ d ih =>
      intro n k x3 h1 h2 h3
      obtain ⟨n, rfl⟩ : ∃ k, n = k + 1 := ⟨n - 1, by omega⟩
      have hk := hn k (by omega)
      have hr := r.2 k (by omega)
      have cs := sb_cs (B (p1 + k))
      unfold m12_isWord_10
      rw [t1.2.2.1, w_add, show (p1 : Int) + (k : Int) = ((p1 + k : Nat) : Int) by omega, isLetter_r hT t1 (by omega), if_pos hk, Option.bind_some, if_neg (by decide), w_succ]
      by_cases z8 : 8 ≤ k
      · rw [if_pos (by rw [wl_8, w_le (by omega) (by omega) (by omega) (by omega)]; omega)]
        exact ih n (k + 1) x3 (by omega) (by omega) (fun z => by omega)
      · rw [if_neg (by rw [wl_8, w_le (by omega) (by omega) (by omega) (by omega)]; omega), gd_pos (w_inB (by omega) (by omega) (by omega)), w_natk (by omega), t1.b hT (by omega)]
        refine ih n (k + 1) _ (by omega) (by omega) (fun z => ?_)
        have b1 := rgk k (by omega)
        have b2 := p7 k (by omega)
        have es : sb (B (p1 + k)) = B (p1 + k) := by omega
        rw [h3 (by omega), es, w_long (by omega) (by omega)]
        have b6 : (256 : Int) ^ k ≤ 281474976710656 := by
          rcases (show k = 0 ∨ k = 1 ∨ k = 2 ∨ k = 3 ∨ k = 4 ∨ k = 5 ∨ k = 6 by omega) with rfl | rfl | rfl | rfl | rfl | rfl | rfl <;> decide
        have ps := pk_step (pkf (fun k => B (p1 + k)) k).toNat (B (p1 + k)).toNat (by omega) (by omega)
        rw [show (((pkf (fun k => B (p1 + k)) k).toNat : Nat) : Int) = pkf (fun k => B (p1 + k)) k by omega, show (((B (p1 + k)).toNat : Nat) : Int) = B (p1 + k) by omega] at ps
        rw [ps]
        congr 1
        show _ = 256 * pkf (fun k => B (p1 + k)) k + B (p1 + k)
        omega
  refine ⟨σ1, ?_, t1, q1⟩
  unfold m12_isWord
  rw [m1, Option.bind_some]
  exact loop N F 0 0 (by omega) (by omega) (fun _ => rfl)
theorem passWord_r {F : Nat} {B : Nat → Int} {L p : Nat} {f : Int} {σ : Mem} (hT : Txt B L) (h : RT B L p f σ) (hp : p ≤ 1000000) (hF : 1000 ≤ F) : ∃ σ', m12_passWord F σ = some σ' ∧ RT B L (p + rn B L 97 122 p) f σ' ∧ Qs σ σ' := by
  have hL := hT.1
  have r := rn_rg (B := B) (L := L) (p := p) (lo := 97) (hi := 122)
  have hn : ∀ k, k < rn B L 97 122 p → 97 ≤ ch B L (p + k) ∧ ch B L (p + k) ≤ 122 := fun k hk => by rw [ch_eq (by omega)]; exact r.2 k hk
  have hend : ¬ (97 ≤ ch B L (p + rn B L 97 122 p) ∧ ch B L (p + rn B L 97 122 p) ≤ 122) := rn_end
  generalize rn B L 97 122 p = N at *
  have loop : ∀ (d n k : Nat) (σ : Mem), k + d = N → d < n → RT B L (p + k) f σ → ∃ σ', m12_passWord_0 F n σ = some σ' ∧ RT B L (p + N) f σ' ∧ Qs σ σ' := by
    intro d
    induction d with
    | zero =>
      intro n k σ h1 h2 h
      obtain ⟨n, rfl⟩ : ∃ k, n = k + 1 := ⟨n - 1, by omega⟩
      unfold m12_passWord_0
      have ek : k = N := by omega
      rw [ek] at h
      rw [h.2.2.1, isLetter_r hT h (by omega), if_neg hend, Option.bind_some, if_pos rfl]
      exact ⟨σ, rfl, h, Qs.rf σ⟩
    | succ d ih =>
      intro n k σ h1 h2 h
      obtain ⟨n, rfl⟩ : ∃ k, n = k + 1 := ⟨n - 1, by omega⟩
      unfold m12_passWord_0
      rw [h.2.2.1, isLetter_r hT h (by omega), if_pos (hn k (by omega)), Option.bind_some, if_neg (by decide), w_succ]
      obtain ⟨σ', m, t, g⟩ := ih n (k + 1) _ (by omega) (by omega) (h.at (p + k + 1))
      exact ⟨σ', m, t, ((Qs.rf σ).s (by unfold V8; omega)).trans g⟩
  exact loop N F 0 σ (by omega) (by omega) h
theorem fails_r {F : Nat} {B : Nat → Int} {L p a : Nat} {c : Int} {σ : Mem} (h : RT B L p 0 σ) (hc : 0 ≤ c) : ∃ σ', m12_fails F (w32 c) (w32 (a : Int)) σ = some (0, σ') ∧ gI σ' 483 9 = w32 (1 + 8 * (a : Int) + c) ∧ Qs σ σ' := by
  unfold m12_fails
  rw [h.2.2.2, if_pos (show w32 0 = (0 : Int32) from rfl), wl_1, wl_8, w_mul, w_add, w_add]
  exact ⟨_, rfl, gI_eq .., (Qs.rf σ).s (by unfold V8; omega)⟩
/-- a number: 1 and its value, or a FAULT -/
theorem number_r {F : Nat} {B : Nat → Int} {L p : Nat} {lo hi : Int} {σ : Mem} (hT : Txt B L) (h : RT B L p 0 σ) (hp : p ≤ 1000000) (hF : 1000 ≤ F) (b1 : -1000000 ≤ lo ∧ lo ≤ 1000000) (b2 : -1000000 ≤ hi ∧ hi ≤ 1000000) : ∃ y σ', m12_numberHere F (w32 lo) (w32 hi) σ = some (y, σ') ∧ Qs σ σ' ∧ (if nfa lo hi (sk B L p) (rn B L 48 57 (sk B L p)) (nv B (sk B L p) (min (rn B L 48 57 (sk B L p)) 5)) 0 = 0 then y = 1 ∧ RT B L (sk B L p + rn B L 48 57 (sk B L p)) 0 σ' ∧ gI σ' 483 10 = w32 (nv B (sk B L p) (min (rn B L 48 57 (sk B L p)) 5)) else y = 0 ∧ gI σ' 483 9 = w32 (nfa lo hi (sk B L p) (rn B L 48 57 (sk B L p)) (nv B (sk B L p) (min (rn B L 48 57 (sk B L p)) 5)) 0)) := by
  have hL := hT.1
  obtain ⟨σ1, m1, t1, q1⟩ := see_r (F := F) hT h hp hF
  have q := sk_rg (B := B) (L := L) (p := p)
  generalize sk B L p = p1 at *
  have r := rn_rg (B := B) (L := L) (p := p1) (lo := 48) (hi := 57)
  have hn : ∀ k, k < rn B L 48 57 p1 → 48 ≤ ch B L (p1 + k) ∧ ch B L (p1 + k) ≤ 57 := fun k hk => by rw [ch_eq (by omega)]; exact r.2 k hk
  have hend : ¬ (48 ≤ ch B L (p1 + rn B L 48 57 p1) ∧ ch B L (p1 + rn B L 48 57 p1) ≤ 57) := rn_end
  have v9 := nv_99999 (B := B) (L := L) (p := p1) (k := min (rn B L 48 57 p1) 5) (by omega) (by omega)
  have vk : ∀ k, k ≤ rn B L 48 57 p1 → k ≤ 5 → 0 ≤ nv B p1 k ∧ nv B p1 k ≤ 99999 := fun k h1 h2 => nv_99999 h1 h2
  generalize hNd : rn B L 48 57 p1 = N at *
  unfold m12_numberHere
  rw [m1, Option.bind_some]
  dsimp only
  rw [t1.2.2.1, isDigit_r hT t1 (by omega)]
  by_cases zN : N = 0
  · have hend0 : ¬ (48 ≤ ch B L p1 ∧ ch B L p1 ≤ 57) := by rw [zN] at hend; exact hend
    rw [if_neg hend0, Option.bind_some, if_pos rfl]
    obtain ⟨σ2, m2, e2, q2⟩ := fails_r (F := F) (a := p1) (c := 0) t1 (by decide)
    have m2 : m12_fails F (0 : Int32) (w32 (p1 : Int)) σ1 = _ := m2
    rw [m2, Option.bind_some]
    dsimp only
    rw [gd_pos (Or.inl rfl)]
    have en : nfa lo hi p1 N (nv B p1 (min N 5)) 0 = 1 + 8 * (p1 : Int) + 0 := by
      unfold nfa ff
      rw [if_pos zN, if_pos rfl]
    refine ⟨0, σ2, rfl, q1.trans q2, ?_⟩
    rw [en, if_neg (by omega)]
    exact ⟨rfl, e2⟩
  · have h0 := hn 0 (by omega)
    rw [Nat.add_zero] at h0
    rw [if_pos h0, Option.bind_some, if_neg (by decide)]
    have loop : ∀ (d n k : Nat) (σ : Mem), k + d = N → d < n → RT B L (p1 + k) 0 σ → Qs σ1 σ → ∃ y σ', m12_numberHere_34 F (w32 lo) (w32 hi) n (w32 (p1 : Int)) (w32 (nv B p1 (min k 5))) σ = some (y, σ') ∧ Qs σ1 σ' ∧ (if nfa lo hi p1 N (nv B p1 (min N 5)) 0 = 0 then y = 1 ∧ RT B L (p1 + N) 0 σ' ∧ gI σ' 483 10 = w32 (nv B p1 (min N 5)) else y = 0 ∧ gI σ' 483 9 = w32 (nfa lo hi p1 N (nv B p1 (min N 5)) 0)) := by
      intro d
      induction d with
      | zero =>
        intro n k σ g1 g2 g3 g4
        obtain ⟨n, rfl⟩ : ∃ k, n = k + 1 := ⟨n - 1, by omega⟩
        have ek : k = N := by omega
        subst ek
        have t2 : RT B L (p1 + k) 0 (sI σ 483 10 (w32 (nv B p1 (min k 5)))) := g3.ne (by omega)
        have q2 : Qs σ1 (sI σ 483 10 (w32 (nv B p1 (min k 5)))) := g4.s (by unfold V8; omega)
        have bad : nfa lo hi p1 k (nv B p1 (min k 5)) 0 = 1 + 8 * (p1 : Int) + 1 → ∃ y σ', m12_numberHere_117 F (w32 lo) (w32 hi) (w32 (p1 : Int)) (sI σ 483 10 (w32 (nv B p1 (min k 5)))) = some (y, σ') ∧ Qs σ1 σ' ∧ (if nfa lo hi p1 k (nv B p1 (min k 5)) 0 = 0 then y = 1 ∧ RT B L (p1 + k) 0 σ' ∧ gI σ' 483 10 = w32 (nv B p1 (min k 5)) else y = 0 ∧ gI σ' 483 9 = w32 (nfa lo hi p1 k (nv B p1 (min k 5)) 0)) := by
          intro en
          obtain ⟨σ3, m3, e3, q3⟩ := fails_r (F := F) (a := p1) (c := 1) t2 (by decide)
          have m3 : m12_fails F (1 : Int32) (w32 (p1 : Int)) _ = _ := m3
          unfold m12_numberHere_117
          rw [m3, Option.bind_some, if_pos rfl]
          refine ⟨0, σ3, rfl, q2.trans q3, ?_⟩
          rw [en, if_neg (by omega)]
          exact ⟨rfl, e3⟩
        unfold m12_numberHere_34
        rw [g3.2.2.1, isDigit_r hT g3 (by omega), if_neg hend, Option.bind_some, if_pos rfl]
        dsimp only
        rw [t2.2.2.1, w_sub, show ((p1 + k : Nat) : Int) - (p1 : Int) = (k : Int) by omega]
        by_cases z5 : 5 < k
        · rw [if_pos (by rw [wl_5, w_lt (by omega) (by omega) (by omega) (by omega)]; omega)]
          exact bad (by unfold nfa ff; rw [if_neg zN, if_pos (Or.inl z5), if_pos rfl])
        · rw [if_neg (by rw [wl_5, w_lt (by omega) (by omega) (by omega) (by omega)]; omega), w_long (a := lo) (by omega) (by omega), w_long (a := hi) (by omega) (by omega), in_r rfl rfl (by omega) (by omega) (by omega) (by omega), Option.bind_some]
          by_cases zr : lo ≤ nv B p1 (min k 5) ∧ nv B p1 (min k 5) ≤ hi
          · rw [if_pos zr, if_neg (by decide)]
            have en : nfa lo hi p1 k (nv B p1 (min k 5)) 0 = 0 := by
              unfold nfa
              rw [if_neg zN, if_neg (by omega)]
            refine ⟨1, _, rfl, q2, ?_⟩
            rw [if_pos en]
            exact ⟨rfl, t2, gI_eq ..⟩
          · rw [if_neg zr, if_pos rfl]
            exact bad (by unfold nfa ff; rw [if_neg zN, if_pos (by omega), if_pos rfl])
      | succ d ih =>
        intro n k σ g1 g2 g3 g4
        obtain ⟨n, rfl⟩ : ∃ k, n = k + 1 := ⟨n - 1, by omega⟩
        have hk := hn k (by omega)
        have hr := r.2 k (by omega)
        have cs := sb_cs (B (p1 + k))
        have t2 := g3.at (p1 + k + 1)
        have q2 : Qs σ1 (sI σ 483 8 (w32 ((p1 + k + 1 : Nat) : Int))) := g4.s (by unfold V8; omega)
        unfold m12_numberHere_34
        rw [g3.2.2.1, isDigit_r hT g3 (by omega), if_pos hk, Option.bind_some, if_neg (by decide), w_sub, show ((p1 + k : Nat) : Int) - (p1 : Int) = (k : Int) by omega]
        dsimp only
        rw [w_succ]
        by_cases z5 : 5 ≤ k
        · rw [if_pos (by rw [wl_5, w_le (by omega) (by omega) (by omega) (by omega)]; omega)]
          have := ih n (k + 1) _ (by omega) (by omega) t2 q2
          rw [show min (k + 1) 5 = 5 by omega] at this
          rw [show min k 5 = 5 by omega]
          exact this
        · rw [if_neg (by rw [wl_5, w_le (by omega) (by omega) (by omega) (by omega)]; omega), gd_pos (w_inB (by omega) (by omega) (by omega)), w_natk (by omega), g3.b hT (by omega)]
          have := ih n (k + 1) _ (by omega) (by omega) t2 q2
          have es : sb (B (p1 + k)) = B (p1 + k) := by omega
          rw [show min (k + 1) 5 = k + 1 by omega] at this
          rw [show min k 5 = k by omega, es, wl_10, w_mul, w_add, show (48 : Int32) = w32 48 from rfl, w_sub]
          have ev : 10 * nv B p1 k + B (p1 + k) - 48 = nv B p1 (k + 1) := by
            show _ = nv B p1 k * 10 + B (p1 + k) - 48
            omega
          rw [ev]
          exact this
    obtain ⟨y, σ', m, g⟩ := loop N F 0 σ1 (by omega) (by omega) t1 (Qs.rf σ1)
    exact ⟨y, σ', m, q1.trans g.1, g.2⟩
