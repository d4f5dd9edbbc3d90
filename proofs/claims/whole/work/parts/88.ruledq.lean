/-! QUERIES: ruled, look, 4 -/
def fitS (S : Ab) (i : Nat) : Bool := fitB (wP (sW S)) (wN (sW S)) (roK S i)
def lsF (S : Ab) : List Nat := opI (fitS S) (sRc S + 1) 0
theorem weigh_c {F t : Nat} {S : Ab} {n : Int} {σ : Mem} (hC : CInv S σ) (wf : Wf t S) (hn : -1 ≤ n ∧ n ≤ 99) (hF : 1000 ≤ F) : ∃ σ', m1_weigh F (w32 (sRc S : Int)) 36 (w32 n) σ = some σ' ∧ CInv S σ' ∧ Gat (lsF S) n (fun i q => Wn (wP (sW S)) (roK S i) n.toNat q) σ' := by
  have rc6 := wf.2.1.1
  have f1 : Fr (fun c => c = 135) σ (sI (sI σ 135 5 (0 : Int32)) 135 6 (-1 : Int32)) := ((Fr.rf (fun c => c = 135) σ).sI rfl).sI rfl
  have hC1 := hC.fr rc6 f1 (fun c h => by unfold Scr; omega)
  unfold m1_weigh
  exact weigh13 wf hn hF (sRc S + 1) F 0 _ (by omega) (by omega) hC1 ⟨by rw [gI_nej (by decide), gI_eq]; rfl, by rw [gI_eq]; rfl, fun _ q f _ hf => absurd hf (Nat.not_lt_zero f)⟩
def fst2 (L : List Nat) : Int := match L with
  | [] => -2
  | x :: _ => (x : Int) - 1
theorem opI_le {b : Nat → Bool} {d x : Nat} : ∀ y ∈ opI b d x, x ≤ y ∧ y < x + d := by
  induction d generalizing x with
  | zero => intro y hy; cases hy
  | succ d ih =>
    intro y hy
    unfold opI at hy
    split at hy
    · rcases List.mem_cons.mp hy with h | h
      · omega
      · have := ih y h; omega
    · have := ih y hy; omega
theorem ruled36 {F n : Nat} {S : Ab} {c : Int} {σ : Mem} (hc : 0 ≤ c ∧ c ≤ 1) (hrc : sRc S ≤ 6) (hG : Gk S n (sRc S + 1) σ) : ∀ (j n' d : Nat), j + d = sRc S + 1 → j < n' → m12_ruled_36 F (w32 c) n' (w32 ((opI (fitS S) d j).length : Int)) (w32 (fst2 (opI (fitS S) d j))) (w32 ((j : Int) - 1)) σ = some (w32 (if c = 0 then ((lsF S).length : Int) else fst2 (lsF S)), σ) := by
  intro j
  induction j with
  | zero =>
    intro n' d h1 h2
    obtain ⟨n', rfl⟩ : ∃ z, n' = z + 1 := ⟨n' - 1, by omega⟩
    have ed : d = sRc S + 1 := by omega
    subst ed
    unfold m12_ruled_36
    rw [if_pos (by rw [wl_0, w_lt (by omega) (by omega) (by omega) (by omega)]; omega)]
    by_cases hc0 : c = 0
    · rw [if_pos (by rw [hc0]; rfl), if_pos hc0]; rfl
    · rw [if_neg (by rw [wl_0, w_eq (by omega) (by omega) (by omega) (by omega)]; exact hc0), if_neg hc0]; rfl
  | succ j ih =>
    intro n' d h1 h2
    obtain ⟨n', rfl⟩ : ∃ z, n' = z + 1 := ⟨n' - 1, by omega⟩
    have g := (hG j (by omega)).1
    have hlen := opI_len (b := fitS S) d (j + 1)
    have ej : w32 (((j + 1 : Nat) : Int) - 1) = w32 (j : Int) := by congr 1; omega
    have em : w32 (j : Int) + (-1 : Int32) = w32 ((j : Int) - 1) := by rw [wl_m1, w_add]; rfl
    have es : w32 (j : Int) - (1 : Int32) = w32 ((j : Int) - 1) := by rw [wl_1, w_sub]
    unfold m12_ruled_36
    rw [ej, if_neg (by rw [wl_0, w_lt (by omega) (by omega) (by omega) (by omega)]; omega), gd_pos (w_inB (by omega) (by omega) (by omega)), w_natk (by omega), g, em, es]
    have hrec := ih n' (d + 1) (by omega) (by omega)
    unfold opI at hrec
    by_cases hf : fitS S j = true
    · have hb : b01 (fitB (wP (sW S)) (wN (sW S)) (roK S j)) = 1 := if_pos hf
      rw [if_pos hf, List.length_cons] at hrec
      rw [hb, if_neg (by decide), w_succ]
      exact hrec
    · have hb : b01 (fitB (wP (sW S)) (wN (sW S)) (roK S j)) = 0 := if_neg hf
      rw [if_neg hf] at hrec
      rw [hb, if_pos rfl]
      exact hrec
theorem ruled_q {F t : Nat} {S : Ab} {σ : Mem} (hC : CInv S σ) (hR : RInv S σ) (wf : Wf t S) (hF : 10000 ≤ F) (x : Int32) : Ans S (m11_ruled F x σ) (m12_ruled F x) := by
  obtain ⟨c, rfl, c1, c2⟩ := arg x
  have wPl := wf.1.1
  have rc6 := wf.2.1.1
  have e17 : gI σ 17 0 = w32 (wP (sW S) 0 0) := hC.1.1.at 0 0
  have e04 : gI σ 0 4 = w32 (sRc S : Int) := hC.2.1.1
  have inW : ∀ τ, m12_in F (w32 c).toInt64 (0 : Int64) (1 : Int64) τ = some (if 0 ≤ c ∧ c ≤ 1 then (1 : Int32) else 0) := fun τ => in_r rfl rfl c1 c2 (by decide) (by decide)
  have hE := hR.E wf
  by_cases v0 : wP (sW S) 0 0 = 1
  · by_cases v1 : 0 ≤ c ∧ c ≤ 1
    · obtain ⟨σ1, m1, hC1, hG1⟩ := weigh_c (F := F) (n := -1) hC wf (by decide) (by omega)
      have m1 : m1_weigh F (w32 (sRc S : Int)) 36 (-1 : Int32) σ = _ := m1
      have f1 := f1_weigh m1
      obtain ⟨-, hR1⟩ := cls_q hC hR wf f1 (fun c z => by unfold Wm1_weigh at z; omega)
      obtain ⟨σ2, m2, hR2, hG2, f2⟩ := gath_r (F := F) (n := 0) wf hR1 (by decide) hF
      have m2 : m12_gathersRules F (0 : Int32) σ1 = _ := m2
      have hC2 := ref_q hC1 wf f2 (fun c z => by unfold Wga at z; omega)
      have hlen := opI_len (b := fitS S) (sRc S + 1) 0
      have hl : lsF S = opI (fitS S) (sRc S + 1) 0 := rfl
      have h36 := ruled36 (F := F) (n := 0) v1 rc6 hG2 (sRc S + 1) F 0 (by omega) (by omega)
      have e36 : m12_ruled_36 F (w32 c) F (0 : Int32) (-2 : Int32) (w32 (sRc S : Int)) σ2 = some (w32 (if c = 0 then ((lsF S).length : Int) else fst2 (lsF S)), σ2) := by
        rw [show w32 (((sRc S + 1 : Nat) : Int) - 1) = w32 (sRc S : Int) by congr 1; omega] at h36
        exact h36
      refine ⟨w32 (if c = 0 then ((lsF S).length : Int) else fst2 (lsF S)), σ1, σ2, ?_, ?_, hC2, hR2⟩
      · unfold m11_ruled
        rw [e17, v0, if_neg (by decide), if_neg (by rw [wl_0, w_lt (by omega) (by omega) (by omega) (by omega)]; omega), if_pos (by rw [wl_1, w_le (by omega) (by omega) (by omega) (by omega)]; omega), e04, m1, Option.bind_some, hG1.1, hG1.2.1]
        by_cases hc0 : c = 0
        · rw [if_pos (by rw [hc0]; rfl), if_pos hc0]
        · rw [if_neg (by rw [wl_0, w_eq (by omega) (by omega) (by omega) (by omega)]; exact hc0), if_neg hc0]
          rw [hl] at *
          cases hL : opI (fitS S) (sRc S + 1) 0 with
          | nil => rfl
          | cons y l =>
            rw [hL] at hlen
            rw [List.length_cons] at hlen
            rw [if_neg (by rw [wl_0, List.length_cons, w_eq (by omega) (by omega) (by omega) (by omega)]; omega)]
            rfl
      · unfold m12_ruled
        have hE1 := hR1.E wf
        rw [isSmithy_r hE1.1 wPl, Option.bind_some, if_pos v0, if_neg (by decide), inW, Option.bind_some, if_pos v1, if_neg (by decide), m2, Option.bind_some, hR2.2.2.1.1]
        exact e36
    · refine ⟨-3, σ, σ, ?_, ?_, hC, hR⟩
      · unfold m11_ruled
        rw [e17, v0, if_neg (by decide)]
        by_cases hc : c < 0
        · rw [if_pos (by rw [wl_0, w_lt (by omega) (by omega) (by omega) (by omega)]; exact hc)]
        · rw [if_neg (by rw [wl_0, w_lt (by omega) (by omega) (by omega) (by omega)]; exact hc), if_neg (by rw [wl_1, w_le (by omega) (by omega) (by omega) (by omega)]; omega)]
      · unfold m12_ruled
        rw [isSmithy_r hE.1 wPl, Option.bind_some, if_pos v0, if_neg (by decide), inW, Option.bind_some, if_neg v1, if_pos rfl]
  · refine ⟨-3, σ, σ, ?_, ?_, hC, hR⟩
    · have := wPl.2.2.2.1
      unfold m11_ruled
      rw [e17, show wP (sW S) 0 0 = 0 by omega, if_pos (by decide)]
    · unfold m12_ruled
      rw [isSmithy_r hE.1 wPl, Option.bind_some, if_neg v0, if_pos rfl]
/-! look -/
def cn (v : Nat → Int) (z : Int) : List Nat → Int
  | [] => 0
  | y :: l => (if z = v y then 1 else 0) + cn v z l
def mA (v : Nat → Int) (L : List Nat) : List Nat → Int → Int
  | [], m => m
  | x :: M, m => mA v L M (max m (cn v (v x) L))
theorem cn_rg {v : Nat → Int} {z : Int} : ∀ l : List Nat, 0 ≤ cn v z l ∧ cn v z l ≤ l.length
  | [] => ⟨Int.le_refl _, Int.le_refl _⟩
  | y :: l => by
    have := cn_rg (v := v) (z := z) l
    unfold cn
    rw [List.length_cons]
    split <;> omega
theorem cn_pos {v : Nat → Int} {x : Nat} : ∀ l : List Nat, x ∈ l → 1 ≤ cn v (v x) l
  | [], h => by cases h
  | y :: l, h => by
    unfold cn
    have r := cn_rg (v := v) (z := v x) l
    rcases List.mem_cons.mp h with e | h
    · rw [e, if_pos rfl]
      rw [e] at r
      omega
    · have := cn_pos (v := v) l h
      split <;> omega
theorem mA_rg {v : Nat → Int} {L : List Nat} : ∀ (M : List Nat) (m : Int), m ≤ mA v L M m ∧ mA v L M m ≤ max m L.length
  | [], m => ⟨Int.le_refl _, by show m ≤ _; omega⟩
  | x :: M, m => by
    have h := mA_rg (v := v) (L := L) M (max m (cn v (v x) L))
    have c := cn_rg (v := v) (z := v x) L
    show m ≤ mA v L M (max m (cn v (v x) L)) ∧ mA v L M (max m (cn v (v x) L)) ≤ _
    omega
theorem mA_pos {v : Nat → Int} {L : List Nat} (h : L ≠ []) : 1 ≤ mA v L L 0 := by
  cases hL : L with
  | nil => exact absurd hL h
  | cons x M =>
    have c := cn_pos (v := v) (x := x) (x :: M) List.mem_cons_self
    have r := mA_rg (v := v) (L := x :: M) M (max 0 (cn v (v x) (x :: M)))
    show 1 ≤ mA v (x :: M) M (max 0 (cn v (v x) (x :: M)))
    omega
theorem drop_getD {L : List Nat} {i : Nat} (h : i < L.length) : L.drop i = L.getD i 0 :: L.drop (i + 1) := by
  rw [List.drop_eq_getElem_cons h, List.getD_eq_getElem?_getD, List.getElem?_eq_getElem h]; rfl
theorem alike_c {F q : Nat} {L : List Nat} {n : Int} {V : Nat → Nat → Int} {σ : Mem} (hF : 1000 ≤ F) (hq : q < 3) (hn : 0 ≤ n) (hL : L.length ≤ 7) (hV : ∀ k, -1000000000 ≤ V k q ∧ V k q ≤ 1000000000) (hG : Gat L n V σ) : m1_mostAlike F (w32 (q : Int)) σ = some (w32 (mA (fun k => V k q) L L 0)) := by
  obtain ⟨g1, -, g3⟩ := hG
  have inner : ∀ (k4 : Int32 → Int32 → Option Int32) (a : Nat) (m : Int), a < L.length → ∀ (d n' i : Nat) (c : Int), i + d = L.length → d < n' → 0 ≤ c → c ≤ i → m1_mostAlike_18 F (w32 (q : Int)) σ k4 n' (w32 m) (w32 (a : Int)) (w32 c) (w32 (i : Int)) = k4 (mxI (w32 m) (w32 (c + cn (fun k => V k q) (V (L.getD a 0) q) (L.drop i)))) (w32 ((a + 1 : Nat) : Int)) := by
    intro k4 a m ha d
    induction d with
    | zero =>
      intro n' i c h1 h2 h3 h4
      obtain ⟨n', rfl⟩ : ∃ z, n' = z + 1 := ⟨n' - 1, by omega⟩
      unfold m1_mostAlike_18
      rw [g1, if_pos (by rw [w_le (by omega) (by omega) (by omega) (by omega)]; omega), List.drop_of_length_le (by omega), w_succ]
      show _ = k4 (mxI (w32 m) (w32 (c + 0))) _
      rw [Int.add_zero]
    | succ d ih =>
      intro n' i c h1 h2 h3 h4
      obtain ⟨n', rfl⟩ : ∃ z, n' = z + 1 := ⟨n' - 1, by omega⟩
      have v1 := hV (L.getD a 0)
      have v2 := hV (L.getD i 0)
      unfold m1_mostAlike_18
      rw [g1, if_neg (by rw [w_le (by omega) (by omega) (by omega) (by omega)]; omega), gd_pos (w_inB (by omega) (by omega) (by omega)), gd_pos (w_inB (by omega) (by omega) (by omega)), gd_pos (w_inB (by omega) (by omega) (by omega)), gd_pos (w_inB (by omega) (by omega) (by omega)), w_natk (by omega), w_natk (by omega), w_natk (by omega), Nat.one_mul, g3 hn q a hq ha, g3 hn q i hq (by omega), w_succ, drop_getD (show i < L.length by omega)]
      unfold cn
      by_cases e : V (L.getD a 0) q = V (L.getD i 0) q
      · rw [if_pos (by rw [e]), if_pos e, wl_1, w_add, ih n' (i + 1) (c + 1) (by omega) (by omega) (by omega) (by omega), Int.add_assoc]
      · rw [if_neg (by rw [w_eq (by omega) (by omega) (by omega) (by omega)]; exact e), if_neg e, wl_0, w_add, Int.add_zero, ih n' (i + 1) c (by omega) (by omega) (by omega) (by omega), Int.zero_add]
  have outer : ∀ (d n' a : Nat) (m : Int), a + d = L.length → d < n' → 0 ≤ m → m ≤ 7 → m1_mostAlike_4 F (w32 (q : Int)) σ n' (w32 m) (w32 (a : Int)) = some (w32 (mA (fun k => V k q) L (L.drop a) m)) := by
    intro d
    induction d with
    | zero =>
      intro n' a m h1 h2 h3 h4
      obtain ⟨n', rfl⟩ : ∃ z, n' = z + 1 := ⟨n' - 1, by omega⟩
      unfold m1_mostAlike_4
      rw [g1, if_pos (by rw [w_le (by omega) (by omega) (by omega) (by omega)]; omega), List.drop_of_length_le (by omega)]; rfl
    | succ d ih =>
      intro n' a m h1 h2 h3 h4
      obtain ⟨n', rfl⟩ : ∃ z, n' = z + 1 := ⟨n' - 1, by omega⟩
      have c := cn_rg (v := fun k => V k q) (z := V (L.getD a 0) q) L
      have hi := inner (fun x2 x3 => m1_mostAlike_4 F (w32 (q : Int)) σ n' x2 x3) a m (by omega) L.length F 0 0 (by omega) (by omega) (by omega) (by omega)
      have hi : m1_mostAlike_18 F (w32 (q : Int)) σ (fun x2 x3 => m1_mostAlike_4 F (w32 (q : Int)) σ n' x2 x3) F (w32 m) (w32 (a : Int)) (0 : Int32) (0 : Int32) = _ := hi
      unfold m1_mostAlike_4
      rw [g1, if_neg (by rw [w_le (by omega) (by omega) (by omega) (by omega)]; omega), hi, List.drop_zero, Int.zero_add, mxI_w (by omega) (by omega) (by omega) (by omega), drop_getD (show a < L.length by omega)]
      exact ih n' (a + 1) _ (by omega) (by omega) (by omega) (by omega)
  unfold m1_mostAlike
  have := outer L.length F 0 0 (by omega) (by omega) (by omega) (by omega)
  rw [List.drop_zero] at this
  exact this
theorem alike_r {F n q : Nat} {S : Ab} {σ : Mem} (hF : 1000 ≤ F) (hq : q < 3) (hrc : sRc S ≤ 6) (e2 : gI σ 483 2 = w32 (sRc S : Int)) (hV : ∀ k, -1000000000 ≤ Wn (wP (sW S)) (roK S k) n q ∧ Wn (wP (sW S)) (roK S k) n q ≤ 1000000000) (hG : Gk S n (sRc S + 1) σ) : m12_alikeOf F (w32 (q : Int)) σ = some (w32 (mA (fun k => Wn (wP (sW S)) (roK S k) n q) (lsF S) (lsF S) 0)) := by
  have ix : ∀ k : Nat, (3 : Int32) * w32 (k : Int) + w32 (q : Int) = w32 ((3 * k + q : Nat) : Int) := fun k => by rw [wl_3, w_mul, w_add]; congr 1 <;> omega
  have hlen := opI_len (b := fitS S) (sRc S + 1) 0
  have inner : ∀ (k4 : Int32 → Int32 → Option Int32) (a : Nat) (m : Int), a < sRc S + 1 → 0 ≤ m → m ≤ 10 → ∀ (d n' i : Nat) (c : Int), i + d = sRc S + 1 → d < n' → 0 ≤ c → c ≤ i → m12_alikeOf_18 F (w32 (q : Int)) σ k4 n' (w32 m) (w32 (a : Int)) (w32 c) (w32 (i : Int)) = k4 (w32 (max m (c + (if fitS S a = true then cn (fun k => Wn (wP (sW S)) (roK S k) n q) (Wn (wP (sW S)) (roK S a) n q) (opI (fitS S) d i) else 0)))) (w32 ((a + 1 : Nat) : Int)) := by
    intro k4 a m ha hm0 hm1 d
    induction d with
    | zero =>
      intro n' i c h1 h2 h3 h4
      obtain ⟨n', rfl⟩ : ∃ z, n' = z + 1 := ⟨n' - 1, by omega⟩
      unfold m12_alikeOf_18
      have e0 : (if fitS S a = true then cn (fun k => Wn (wP (sW S)) (roK S k) n q) (Wn (wP (sW S)) (roK S a) n q) (opI (fitS S) 0 i) else 0) = 0 := by split <;> rfl
      rw [e0, Int.add_zero, e2, if_pos (by rw [w_lt (by omega) (by omega) (by omega) (by omega)]; omega), w_succ]
      by_cases hcm : c ≤ m
      · rw [if_pos (by rw [w_le (by omega) (by omega) (by omega) (by omega)]; exact hcm), Int.max_eq_left hcm]
      · rw [if_neg (by rw [w_le (by omega) (by omega) (by omega) (by omega)]; exact hcm), Int.max_eq_right (by omega)]
    | succ d ih =>
      intro n' i c h1 h2 h3 h4
      obtain ⟨n', rfl⟩ : ∃ z, n' = z + 1 := ⟨n' - 1, by omega⟩
      have v1 := hV a
      have v2 := hV i
      have ga := hG a (by omega)
      have gi := hG i (by omega)
      have r0 := ih n' (i + 1) c (by omega) (by omega) h3 (by omega)
      have r1 := ih n' (i + 1) (c + 1) (by omega) (by omega) (by omega) (by omega)
      have z0 : w32 c + (0 : Int32) = w32 c := by rw [wl_0, w_add, Int.add_zero]
      have z1 : w32 c + (1 : Int32) = w32 (c + 1) := by rw [wl_1, w_add]
      unfold m12_alikeOf_18
      rw [e2, if_neg (by rw [w_lt (by omega) (by omega) (by omega) (by omega)]; omega), gd_pos (w_inB (by omega) (by omega) (by omega)), w_natk (by omega), ga.1, w_succ, z0, z1]
      by_cases fa : fitS S a = true
      · have hb : b01 (fitB (wP (sW S)) (wN (sW S)) (roK S a)) = 1 := if_pos fa
        rw [if_pos fa] at r0 r1 ⊢
        rw [hb, if_neg (by decide), gd_pos (w_inB (by omega) (by omega) (by omega)), w_natk (by omega), gi.1]
        unfold opI
        by_cases fi : fitS S i = true
        · have hb2 : b01 (fitB (wP (sW S)) (wN (sW S)) (roK S i)) = 1 := if_pos fi
          rw [hb2, if_neg (by decide), ix, ix, gd_pos (w_inB (by omega) (by omega) (by omega)), gd_pos (w_inB (by omega) (by omega) (by omega)), w_natk (by omega), w_natk (by omega), ga.2 q hq, gi.2 q hq, if_pos fi]
          unfold cn
          by_cases e : Wn (wP (sW S)) (roK S a) n q = Wn (wP (sW S)) (roK S i) n q
          · rw [if_pos (by rw [e]), if_pos e, r1, Int.add_assoc]
          · rw [if_neg (by rw [w_eq (by omega) (by omega) (by omega) (by omega)]; exact e), if_neg e, r0, Int.zero_add]
        · have hb2 : b01 (fitB (wP (sW S)) (wN (sW S)) (roK S i)) = 0 := if_neg fi
          rw [hb2, if_pos rfl, if_neg fi]
          exact r0
      · have hb : b01 (fitB (wP (sW S)) (wN (sW S)) (roK S a)) = 0 := if_neg fa
        rw [if_neg fa] at r0 ⊢
        rw [hb, if_pos rfl]
        exact r0
  have outer : ∀ (d n' a : Nat) (m : Int), a + d = sRc S + 1 → d < n' → 0 ≤ m → m ≤ 7 → m12_alikeOf_4 F (w32 (q : Int)) σ n' (w32 m) (w32 (a : Int)) = some (w32 (mA (fun k => Wn (wP (sW S)) (roK S k) n q) (lsF S) (opI (fitS S) d a) m)) := by
    intro d
    induction d with
    | zero =>
      intro n' a m h1 h2 h3 h4
      obtain ⟨n', rfl⟩ : ∃ z, n' = z + 1 := ⟨n' - 1, by omega⟩
      unfold m12_alikeOf_4
      rw [e2, if_pos (by rw [w_lt (by omega) (by omega) (by omega) (by omega)]; omega)]; rfl
    | succ d ih =>
      intro n' a m h1 h2 h3 h4
      obtain ⟨n', rfl⟩ : ∃ z, n' = z + 1 := ⟨n' - 1, by omega⟩
      have c := cn_rg (v := fun k => Wn (wP (sW S)) (roK S k) n q) (z := Wn (wP (sW S)) (roK S a) n q) (lsF S)
      have hl : (lsF S).length ≤ sRc S + 1 := hlen
      have hi := inner (fun x2 x3 => m12_alikeOf_4 F (w32 (q : Int)) σ n' x2 x3) a m (by omega) h3 (by omega) (sRc S + 1) F 0 0 (by omega) (by omega) (by omega) (by omega)
      have hi : m12_alikeOf_18 F (w32 (q : Int)) σ (fun x2 x3 => m12_alikeOf_4 F (w32 (q : Int)) σ n' x2 x3) F (w32 m) (w32 (a : Int)) (0 : Int32) (0 : Int32) = _ := hi
      unfold m12_alikeOf_4 opI
      rw [e2, if_neg (by rw [w_lt (by omega) (by omega) (by omega) (by omega)]; omega), hi, Int.zero_add]
      by_cases fa : fitS S a = true
      · rw [if_pos fa, if_pos fa]
        exact ih n' (a + 1) _ (by omega) (by omega) (by show 0 ≤ max m (cn _ _ (lsF S)); omega) (by show max m (cn _ _ (lsF S)) ≤ 7; omega)
      · rw [if_neg fa, if_neg fa, Int.max_eq_left h3]
        exact ih n' (a + 1) m (by omega) (by omega) h3 h4
  unfold m12_alikeOf
  exact outer (sRc S + 1) F 0 0 (by omega) (by omega) (by omega) (by omega)
def ppL (M : Nat → Int) : Nat → Nat → Nat → Nat
  | 0, _, b => b
  | d + 1, p, b => if M p < M b then ppL M d (p + 1) p else ppL M d (p + 1) b
theorem ppL_lt {M : Nat → Int} : ∀ (d p b : Nat), p + d = 3 → b < 3 → ppL M d p b < 3
  | 0, _, _, _, h => h
  | d + 1, p, b, h1, h2 => by
    unfold ppL
    split
    · exact ppL_lt d (p + 1) p (by omega) (by omega)
    · exact ppL_lt d (p + 1) b (by omega) h2
theorem part_c {F : Nat} {M : Nat → Int} {σ : Mem} (hF : 1000 ≤ F) (hM : ∀ q, q < 3 → 0 ≤ M q ∧ M q ≤ 100) (h : ∀ q : Nat, q < 3 → m1_mostAlike F (w32 (q : Int)) σ = some (w32 (M q))) : m1_partingPart F σ = some (w32 (ppL M 2 1 0 : Int)) := by
  have loop : ∀ (d n' p b : Nat), p + d = 3 → d < n' → b < 3 → m1_partingPart_4 F σ n' (w32 (b : Int)) (w32 (p : Int)) = some (w32 (ppL M d p b : Int)) := by
    intro d
    induction d with
    | zero =>
      intro n' p b h1 h2 h3
      obtain ⟨n', rfl⟩ : ∃ z, n' = z + 1 := ⟨n' - 1, by omega⟩
      unfold m1_partingPart_4
      rw [if_pos (by rw [wl_3, w_le (by omega) (by omega) (by omega) (by omega)]; omega)]; rfl
    | succ d ih =>
      intro n' p b h1 h2 h3
      obtain ⟨n', rfl⟩ : ∃ z, n' = z + 1 := ⟨n' - 1, by omega⟩
      have a1 := hM p (by omega)
      have a2 := hM b h3
      unfold m1_partingPart_4 ppL
      rw [if_neg (by rw [wl_3, w_le (by omega) (by omega) (by omega) (by omega)]; omega), h p (by omega), Option.bind_some, h b h3, Option.bind_some, w_succ]
      by_cases z : M p < M b
      · rw [if_neg (by rw [w_le (by omega) (by omega) (by omega) (by omega)]; omega), if_pos z]
        exact ih n' (p + 1) p (by omega) (by omega) (by omega)
      · rw [if_pos (by rw [w_le (by omega) (by omega) (by omega) (by omega)]; omega), if_neg z]
        exact ih n' (p + 1) b (by omega) (by omega) h3
  exact loop 2 F 1 0 (by decide) (by omega) (by decide)
theorem look41 {F : Nat} {M : Nat → Int} {i1 : Int32} {c : Int} {σ : Mem} (hF : 1000 ≤ F) (hc : 0 ≤ c ∧ c ≤ 1) (hM : ∀ q, q < 3 → 0 ≤ M q ∧ M q ≤ 100) (h : ∀ q : Nat, q < 3 → m12_alikeOf F (w32 (q : Int)) σ = some (w32 (M q))) : m12_look_41 F i1 (w32 c) F (0 : Int32) (1 : Int32) σ = some (w32 (if M (ppL M 2 1 0) = 0 then -2 else if c = 0 then (ppL M 2 1 0 : Int) else M (ppL M 2 1 0)), σ) := by
  have loop : ∀ (d n' p b : Nat), p + d = 3 → d < n' → b < 3 → m12_look_41 F i1 (w32 c) n' (w32 (b : Int)) (w32 (p : Int)) σ = some (w32 (if M (ppL M d p b) = 0 then -2 else if c = 0 then (ppL M d p b : Int) else M (ppL M d p b)), σ) := by
    intro d
    induction d with
    | zero =>
      intro n' p b h1 h2 h3
      obtain ⟨n', rfl⟩ : ∃ z, n' = z + 1 := ⟨n' - 1, by omega⟩
      have a2 := hM b h3
      unfold m12_look_41 ppL
      rw [if_pos (by rw [wl_3, w_le (by omega) (by omega) (by omega) (by omega)]; omega), h b h3, Option.bind_some]
      by_cases z : M b = 0
      · rw [if_pos (by rw [z]; rfl), if_pos z]; rfl
      · rw [if_neg (by rw [wl_0, w_eq (by omega) (by omega) (by omega) (by omega)]; exact z), if_neg z]
        by_cases hc0 : c = 0
        · rw [if_pos (by rw [hc0]; rfl), if_pos hc0]
        · rw [if_neg (by rw [wl_0, w_eq (by omega) (by omega) (by omega) (by omega)]; exact hc0), if_neg hc0, Option.bind_some]
    | succ d ih =>
      intro n' p b h1 h2 h3
      obtain ⟨n', rfl⟩ : ∃ z, n' = z + 1 := ⟨n' - 1, by omega⟩
      have a1 := hM p (by omega)
      have a2 := hM b h3
      unfold m12_look_41 ppL
      rw [if_neg (by rw [wl_3, w_le (by omega) (by omega) (by omega) (by omega)]; omega), h p (by omega), Option.bind_some, h b h3, Option.bind_some, w_succ]
      by_cases z : M p < M b
      · rw [if_neg (by rw [w_le (by omega) (by omega) (by omega) (by omega)]; omega), if_pos z]
        exact ih n' (p + 1) p (by omega) (by omega) (by omega)
      · rw [if_pos (by rw [w_le (by omega) (by omega) (by omega) (by omega)]; omega), if_neg z]
        exact ih n' (p + 1) b (by omega) (by omega) h3
  exact loop 2 F 1 0 (by decide) (by omega) (by decide)
theorem look_q {F t : Nat} {S : Ab} {σ : Mem} (hC : CInv S σ) (hR : RInv S σ) (wf : Wf t S) (hF : 10000 ≤ F) (x y : Int32) : Ans S (m11_look F x y σ) (m12_look F x y) := by
  obtain ⟨a, rfl, a1, a2⟩ := arg x
  obtain ⟨c, rfl, c1, c2⟩ := arg y
  have wPl := wf.1.1
  have rc6 := wf.2.1.1
  have e17 : gI σ 17 0 = w32 (wP (sW S) 0 0) := hC.1.1.at 0 0
  have e04 : gI σ 0 4 = w32 (sRc S : Int) := hC.2.1.1
  have inA : ∀ τ, m12_in F (w32 a).toInt64 (0 : Int64) (99 : Int64) τ = some (if 0 ≤ a ∧ a ≤ 99 then (1 : Int32) else 0) := fun τ => in_r rfl rfl a1 a2 (by decide) (by decide)
  have inW : ∀ τ, m12_in F (w32 c).toInt64 (0 : Int64) (1 : Int64) τ = some (if 0 ≤ c ∧ c ≤ 1 then (1 : Int32) else 0) := fun τ => in_r rfl rfl c1 c2 (by decide) (by decide)
  have hE := hR.E wf
  by_cases v0 : wP (sW S) 0 0 = 1
  · by_cases v1 : 0 ≤ a ∧ a ≤ 99
    · by_cases v2 : 0 ≤ c ∧ c ≤ 1
      · obtain ⟨n, rfl⟩ : ∃ n : Nat, a = n := ⟨a.toNat, by omega⟩
        obtain ⟨σ1, m1, hC1, hG1⟩ := weigh_c (F := F) (n := (n : Int)) hC wf (by omega) (by omega)
        rw [Int.toNat_natCast] at hG1
        have f1 := f1_weigh m1
        obtain ⟨-, hR1⟩ := cls_q hC hR wf f1 (fun c z => by unfold Wm1_weigh at z; omega)
        obtain ⟨σ2, m2, hR2, hG2, f2⟩ := gath_r (F := F) (n := n) wf hR1 (by omega) hF
        have hC2 := ref_q hC1 wf f2 (fun c z => by unfold Wga at z; omega)
        have hlen : (lsF S).length ≤ sRc S + 1 := opI_len (b := fitS S) (sRc S + 1) 0
        have hV : ∀ q k, -1000000000 ≤ Wn (wP (sW S)) (roK S k) n q ∧ Wn (wP (sW S)) (roK S k) n q ≤ 1000000000 := fun q k => by
          have w := (itA_wf (ro := roK S k) wPl Kp2 n (bgn (wP (sW S))) 0 (bgn_wf wPl).1).bd (by omega) 9 q
          unfold Wn
          omega
        have hMr : ∀ q, q < 3 → 0 ≤ (fun q => mA (fun k => Wn (wP (sW S)) (roK S k) n q) (lsF S) (lsF S) 0) q ∧ (fun q => mA (fun k => Wn (wP (sW S)) (roK S k) n q) (lsF S) (lsF S) 0) q ≤ 100 := fun q hq => by
          have := mA_rg (v := fun k => Wn (wP (sW S)) (roK S k) n q) (L := lsF S) (lsF S) 0
          show 0 ≤ mA _ _ _ 0 ∧ mA _ _ _ 0 ≤ 100
          omega
        have h1 : ∀ q : Nat, q < 3 → m1_mostAlike F (w32 (q : Int)) σ1 = some (w32 ((fun q => mA (fun k => Wn (wP (sW S)) (roK S k) n q) (lsF S) (lsF S) 0) q)) := fun q hq => alike_c (by omega) hq (by omega) (by omega) (hV q) hG1
        have h2 : ∀ q : Nat, q < 3 → m12_alikeOf F (w32 (q : Int)) σ2 = some (w32 ((fun q => mA (fun k => Wn (wP (sW S)) (roK S k) n q) (lsF S) (lsF S) 0) q)) := fun q hq => alike_r (by omega) hq rc6 hR2.2.2.1.1 (hV q) hG2
        have hM0 : ∀ q, lsF S ≠ [] → (fun q => mA (fun k => Wn (wP (sW S)) (roK S k) n q) (lsF S) (lsF S) 0) q ≠ 0 := fun q hne => by
          have := mA_pos (v := fun k => Wn (wP (sW S)) (roK S k) n q) hne
          show mA _ _ _ 0 ≠ 0
          omega
        have hMn : ∀ q, lsF S = [] → (fun q => mA (fun k => Wn (wP (sW S)) (roK S k) n q) (lsF S) (lsF S) 0) q = 0 := fun q he => by
          show mA _ (lsF S) (lsF S) 0 = 0
          rw [he]; rfl
        generalize (fun q => mA (fun k => Wn (wP (sW S)) (roK S k) n q) (lsF S) (lsF S) 0) = M at *
        have hpp := ppL_lt (M := M) 2 1 0 (by decide) (by decide)
        have g1 := hG1.1
        refine ⟨w32 (if M (ppL M 2 1 0) = 0 then -2 else if c = 0 then (ppL M 2 1 0 : Int) else M (ppL M 2 1 0)), σ1, σ2, ?_, ?_, hC2, hR2⟩
        · unfold m11_look
          rw [e17, v0, if_neg (by decide), if_neg (by rw [wl_0, w_lt (by omega) (by omega) (by omega) (by omega)]; omega), if_neg (by rw [wl_100, w_le (by omega) (by omega) (by omega) (by omega)]; omega), if_neg (by rw [wl_0, w_lt (by omega) (by omega) (by omega) (by omega)]; omega), if_pos (by rw [wl_1, w_le (by omega) (by omega) (by omega) (by omega)]; omega), e04, m1, Option.bind_some, g1]
          by_cases he : lsF S = []
          · rw [he, if_pos (by decide), if_pos (hMn _ he)]; rfl
          · have hl : (lsF S).length ≠ 0 := fun z => he (List.eq_nil_of_length_eq_zero z)
            rw [if_neg (by rw [wl_0, w_eq (by omega) (by omega) (by omega) (by omega)]; omega), part_c (by omega) hMr h1, Option.bind_some, if_neg (hM0 _ he)]
            by_cases hc0 : c = 0
            · rw [if_pos (by rw [hc0]; rfl), if_pos hc0]
            · rw [if_neg (by rw [wl_0, w_eq (by omega) (by omega) (by omega) (by omega)]; exact hc0), if_neg hc0, h1 _ hpp, Option.bind_some]
        · unfold m12_look
          have hE1 := hR1.E wf
          rw [isSmithy_r hE1.1 wPl, Option.bind_some, if_pos v0, if_neg (by decide), inA, Option.bind_some, if_pos v1, if_neg (by decide), inW, Option.bind_some, if_pos v2, if_neg (by decide), m2, Option.bind_some]
          exact look41 (by omega) v2 hMr h2
      · refine ⟨-1, σ, σ, ?_, ?_, hC, hR⟩
        · unfold m11_look
          rw [e17, v0, if_neg (by decide), if_neg (by rw [wl_0, w_lt (by omega) (by omega) (by omega) (by omega)]; omega), if_neg (by rw [wl_100, w_le (by omega) (by omega) (by omega) (by omega)]; omega)]
          by_cases hc : c < 0
          · rw [if_pos (by rw [wl_0, w_lt (by omega) (by omega) (by omega) (by omega)]; exact hc)]
          · rw [if_neg (by rw [wl_0, w_lt (by omega) (by omega) (by omega) (by omega)]; exact hc), if_neg (by rw [wl_1, w_le (by omega) (by omega) (by omega) (by omega)]; omega)]
        · unfold m12_look
          rw [isSmithy_r hE.1 wPl, Option.bind_some, if_pos v0, if_neg (by decide), inA, Option.bind_some, if_pos v1, if_neg (by decide), inW, Option.bind_some, if_neg v2, if_pos rfl]
    · refine ⟨-1, σ, σ, ?_, ?_, hC, hR⟩
      · unfold m11_look
        rw [e17, v0, if_neg (by decide)]
        by_cases ha : a < 0
        · rw [if_pos (by rw [wl_0, w_lt (by omega) (by omega) (by omega) (by omega)]; exact ha)]
        · rw [if_neg (by rw [wl_0, w_lt (by omega) (by omega) (by omega) (by omega)]; exact ha), if_pos (by rw [wl_100, w_le (by omega) (by omega) (by omega) (by omega)]; omega)]
      · unfold m12_look
        rw [isSmithy_r hE.1 wPl, Option.bind_some, if_pos v0, if_neg (by decide), inA, Option.bind_some, if_neg v1, if_pos rfl]
  · refine ⟨-1, σ, σ, ?_, ?_, hC, hR⟩
    · have := wPl.2.2.2.1
      unfold m11_look
      rw [e17, show wP (sW S) 0 0 = 0 by omega, if_pos (by decide)]
    · unfold m12_look
      rw [isSmithy_r hE.1 wPl, Option.bind_some, if_neg v0, if_pos rfl]
