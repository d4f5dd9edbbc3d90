/-! THE REFERENCE, 4: turns -/
theorem freeN_row {P A A' : Dat} {T : Nat → Int} {k : Nat} (h : A' 9 k = A 9 k) : freeN P A' T k = freeN P A T k := by
  unfold freeN; rw [h]
theorem okL_row {P A A' : Dat} {T : Nat → Int} {b : Int} (h : ∀ k, A' 9 k = A 9 k) : ∀ d k, okL P A' T b d k = okL P A T b d k
  | 0, _ => rfl
  | d + 1, k => by unfold okL; rw [freeN_row (h k), okL_row h d (k + 1)]
theorem bitsN_row {P A A' : Dat} {K K' T : Nat → Int} {j : Nat} (h : ∀ k, A' 9 k = A 9 k) (hk : K' 4 = K 4) : bitsN P A' K' T j = bitsN P A K T j := by
  unfold bitsN; rw [freeN_row (h 0), hk]
theorem okT_row {P A A' : Dat} {K K' T : Nat → Int} {j : Nat} (h : ∀ k, A' 9 k = A 9 k) (hk : K' 4 = K 4) : okT P A' K' T j = okT P A K T j := by
  unfold okT; rw [bitsN_row h hk, okL_row h]
theorem heatA_9 {P A : Dat} {K : Nat → Int} {p j k : Nat} : heatA P A K p j 9 k = A 9 k := by
  unfold heatA
  split <;> split <;> simp [up_at]
theorem strikeA_9 {P A : Dat} {K : Nat → Int} {p j k : Nat} : strikeA P A K p j 9 k = A 9 k := by
  unfold strikeA
  simp only []
  split
  · simp [up_at]
  · split
    · split <;> simp [up_at]
    · simp [up_at]
theorem waitA_9 {P A : Dat} {p k : Nat} : waitA P A p 9 k = A 9 k := by
  unfold waitA; simp [up_at]
theorem stepS_9 {P : Dat} {J : Nat → Int} {Wl : Nat → Bool} {p : Nat} {s : WS} {k : Nat} : (stepS P J Wl p s).1 9 k = s.1 9 k := by
  unfold stepS
  split
  · rfl
  · split
    · split
      · exact strikeA_9
      · exact waitA_9 (P := P) (A := s.1) (p := p)
    · exact heatA_9
/-- which turn a SMITH has: 16 heats (or has no JOB), 0 waits, else the parts taken -/
def turnS (P : Dat) (J : Nat → Int) (Wl : Nat → Bool) (p : Nat) (s : WS) : Int :=
  if J p = -1 then 16 else if Wl p then (if okT P s.1 s.2.1 s.2.2 (J p).toNat then bitsN P s.1 s.2.1 s.2.2 (J p).toNat else 0) else 16
def tset (P A : Dat) (T : Nat → Int) : Int := (if freeN P A T 0 then 0 else 1) + (if freeN P A T 1 then 0 else 2) + (if freeN P A T 2 then 0 else 4)
theorem split_r {F : Nat} {σ : Mem} {P A : Dat} (hA : RepA σ P A) (bP : Bd 1000 P) (bA : Bd 1000000000 A) (hF : 100 ≤ F) : m12_splitParts F σ = some (w32 (tset P A (fun _ => -1))) := by
  have e2 : gI σ 493 2 = w32 (P 0 3) := hA.2.1 2 (by decide)
  have b3 := bP 0 3
  have step : ∀ (n k : Nat) (x : Int32), k < 3 → m12_splitParts_4 F σ (n + 1) x (w32 (k : Int)) = m12_splitParts_4 F σ n (if freeN P A (fun _ => -1) k = true then x ||| 0 else x ||| ((1 : Int32) <<< (w32 (k : Int) &&& (31 : Int32)))) (w32 ((k + 1 : Nat) : Int)) := by
    intro n k x hk
    have e : gI σ 493 (95 + k) = w32 (A 9 k) := hA.1 9 k (by decide) hk
    have b := bA 9 k
    rw [m12_splitParts_4, if_neg (by rw [wl_3, w_le (by omega) (by omega) (by omega) (by omega)]; omega), w_succ, wl_95, w_add, gd_pos (w_inB (by omega) (by omega) (by omega)), gd_pos (by decide), w_nat (by omega) (by omega), show ((95 : Int) + (k : Int)).toNat = 95 + k by omega, e, show (2 : Int32).toNatClampNeg = 2 from rfl, e2]
    have hf : (freeN P A (fun _ => -1) k = true) = (w32 (A 9 k) < w32 (P 0 3)) := by
      simp (disch := omega) only [w_lt]
      unfold freeN
      simp
    simp only [hf]
    split <;> rfl
  obtain ⟨G, rfl⟩ : ∃ k, F = k + 4 := ⟨F - 4, by omega⟩
  unfold m12_splitParts tset
  have s0 := step (G + 3) 0 0 (by decide)
  rw [show w32 ((0 : Nat) : Int) = (0 : Int32) from rfl] at s0
  rw [s0, step (G + 2) 1 _ (by decide), step (G + 1) 2 _ (by decide)]
  rw [m12_splitParts_4, if_pos (by decide)]
  cases freeN P A (fun _ => -1) 0 <;> cases freeN P A (fun _ => -1) 1 <;> cases freeN P A (fun _ => -1) 2 <;> decide
theorem t141_r {F : Nat} {k87 : Int32 → Int32 → Mem → Option Mem} {x1 : Int32} {p : Nat} {b : Int} : ∀ (d n c : Nat) (σ : Mem), c + d = 3 → d < n → ∃ σ', m12_takesTurns_141 F k87 n x1 (w32 (p : Int)) (w32 b) (w32 (c : Int)) σ = k87 x1 (w32 ((p + 1 : Nat) : Int)) σ' ∧ Fr (fun c => c = 495) σ σ' ∧ ∀ q, q < 3 → gI σ' 495 q = if c ≤ q ∧ bitI b q = true then w32 (p : Int) else gI σ 495 q := by
  intro d
  induction d with
  | zero =>
    intro n c σ h1 h2
    obtain ⟨n, rfl⟩ : ∃ k, n = k + 1 := ⟨n - 1, by omega⟩
    refine ⟨σ, ?_, Fr.rf _ _, fun q hq => by rw [if_neg (by omega)]⟩
    unfold m12_takesTurns_141
    rw [if_pos (by rw [wl_3, w_le (by omega) (by omega) (by omega) (by omega)]; omega), w_succ]
  | succ d ih =>
    intro n c σ h1 h2
    obtain ⟨n, rfl⟩ : ∃ k, n = k + 1 := ⟨n - 1, by omega⟩
    unfold m12_takesTurns_141
    rw [if_neg (by rw [wl_3, w_le (by omega) (by omega) (by omega) (by omega)]; omega), isOf_r, Option.bind_some, w_succ, gd_pos (w_inB (by omega) (by omega) (by omega)), w_natk (by omega)]
    by_cases hb : bitI b c = true
    · rw [if_pos hb, if_neg (by decide)]
      obtain ⟨σ', m, f, g⟩ := ih n (c + 1) (sI σ 495 c (w32 (p : Int))) (by omega) (by omega)
      refine ⟨σ', m, (show Fr (fun c => c = 495) σ (sI σ 495 c (w32 (p : Int))) from (Fr.rf _ _).sI rfl).trans f, fun q hq => ?_⟩
      rw [g q hq]
      by_cases hqc : q = c
      · rw [hqc, if_neg (by omega), gI_eq, if_pos ⟨Nat.le_refl _, hb⟩]
      · rw [gI_nej hqc]
        by_cases hx : c ≤ q ∧ bitI b q = true
        · rw [if_pos hx, if_pos ⟨by omega, hx.2⟩]
        · rw [if_neg hx, if_neg (fun z => hx ⟨by omega, z.2⟩)]
    · rw [if_neg hb, if_pos rfl]
      obtain ⟨σ', m, f, g⟩ := ih n (c + 1) σ (by omega) (by omega)
      refine ⟨σ', m, f, fun q hq => ?_⟩
      rw [g q hq]
      by_cases hx : c ≤ q ∧ bitI b q = true
      · rw [if_pos hx, if_pos ⟨by rcases Nat.lt_or_ge c q with z | z; exact z; exact absurd ((show q = c by omega) ▸ hx.2) hb, hx.2⟩]
      · rw [if_neg hx, if_neg (fun z => hx ⟨by omega, z.2⟩)]
/-- what is taken, as bits: a test against a SMITH's parts, and more of it -/
theorem tset_test {P A : Dat} {T : Nat → Int} {a b : Int} (h : bitrel a b) : ((w32 b &&& w32 (tset P A T)) = (0 : Int32)) = (okL P A T b 4 0 = true) := by
  have hb3 : bitI b 3 = false := by rcases h with ⟨-, h⟩ | ⟨-, h⟩ | ⟨-, h⟩ | ⟨-, h⟩ <;> rw [h] <;> decide
  unfold tset
  simp only [okL, hb3, Bool.false_eq_true, if_false]
  apply propext
  generalize freeN P A T 0 = f0
  generalize freeN P A T 1 = f1
  generalize freeN P A T 2 = f2
  rcases h with ⟨-, h⟩ | ⟨-, h⟩ | ⟨-, h⟩ | ⟨-, h⟩ <;> rw [h] <;> cases f0 <;> cases f1 <;> cases f2 <;> decide
theorem tset_more {P A : Dat} {T : Nat → Int} {a b : Int} {p : Nat} (h : bitrel a b) (ho : okL P A T b 4 0 = true) : (w32 (tset P A T) ||| w32 b) = w32 (tset P A (tkT T b p)) := by
  have hb3 : bitI b 3 = false := by rcases h with ⟨-, h⟩ | ⟨-, h⟩ | ⟨-, h⟩ | ⟨-, h⟩ <;> rw [h] <;> decide
  have hf : ∀ k, freeN P A (tkT T b p) k = if bitI b k then false else freeN P A T k := by
    intro k
    unfold freeN tkT
    by_cases hk : bitI b k = true
    · rw [if_pos hk, if_pos hk, decide_eq_false (by omega), Bool.false_and]
    · rw [if_neg hk, if_neg hk]
  unfold tset
  simp only [hf]
  simp only [okL, hb3, Bool.false_eq_true, if_false] at ho
  revert ho
  generalize freeN P A T 0 = f0
  generalize freeN P A T 1 = f1
  generalize freeN P A T 2 = f2
  rcases h with ⟨-, h⟩ | ⟨-, h⟩ | ⟨-, h⟩ | ⟨-, h⟩ <;> rw [h] <;> cases f0 <;> cases f1 <;> cases f2 <;> decide
theorem tset_8 {P A : Dat} {T : Nat → Int} {p : Nat} : tset P A (tkT T 8 p) = tset P A T := by
  have h : ∀ k, k < 3 → freeN P A (tkT T 8 p) k = freeN P A T k := by
    intro k hk
    unfold freeN tkT
    rw [if_neg (by rcases (show k = 0 ∨ k = 1 ∨ k = 2 by omega) with rfl | rfl | rfl <;> decide)]
  unfold tset
  rw [h 0 (by decide), h 1 (by decide), h 2 (by decide)]
theorem workS_9 {P : Dat} {J : Nat → Int} {Wl : Nat → Bool} {k : Nat} : ∀ (d p : Nat) (s : WS), (workS P J Wl d p s).1 9 k = s.1 9 k
  | 0, _, _ => rfl
  | d + 1, p, s => (workS_9 d (p + 1) (stepS P J Wl p s)).trans stepS_9
theorem workS_none {P : Dat} {J : Nat → Int} {Wl : Nat → Bool} : ∀ (d p : Nat) (s : WS), (∀ q, p ≤ q → J q = -1) → workS P J Wl d p s = s
  | 0, _, _, _ => rfl
  | d + 1, p, s, h => by
    unfold workS stepS
    rw [if_pos (h p (Nat.le_refl _))]
    exact workS_none d (p + 1) s (fun q hq => h q (by omega))
theorem st_none {P : Dat} {J : Nat → Int} {Wl : Nat → Bool} {p : Nat} {s : WS} (hj : J p = -1) : stepS P J Wl p s = s := by
  unfold stepS; rw [if_pos hj]
theorem st_heat {P : Dat} {J : Nat → Int} {Wl : Nat → Bool} {p : Nat} {s : WS} (hj : J p ≠ -1) (hw : Wl p = false) : stepS P J Wl p s = (heatA P s.1 s.2.1 p (J p).toNat, heatK P s.1 s.2.1 p, s.2.2) := by
  unfold stepS; rw [if_neg hj, if_neg (by rw [hw]; decide)]
theorem st_wait {P : Dat} {J : Nat → Int} {Wl : Nat → Bool} {p : Nat} {s : WS} (hj : J p ≠ -1) (hw : Wl p = true) (ho : okT P s.1 s.2.1 s.2.2 (J p).toNat = false) : stepS P J Wl p s = (waitA P s.1 p, s.2.1, s.2.2) := by
  unfold stepS; rw [if_neg hj, if_pos hw, if_neg (by rw [ho]; decide)]
theorem st_strike {P : Dat} {J : Nat → Int} {Wl : Nat → Bool} {p : Nat} {s : WS} (hj : J p ≠ -1) (hw : Wl p = true) (ho : okT P s.1 s.2.1 s.2.2 (J p).toNat = true) : stepS P J Wl p s = (strikeA P s.1 s.2.1 p (J p).toNat, strikeK P s.1 s.2.1 p (J p).toNat, tkT s.2.2 (bitsN P s.1 s.2.1 s.2.2 (J p).toNat) p) := by
  unfold stepS; rw [if_neg hj, if_pos hw, if_pos ho]
theorem tu_none {P : Dat} {J : Nat → Int} {Wl : Nat → Bool} {p : Nat} {s : WS} (hj : J p = -1) : turnS P J Wl p s = 16 := by
  unfold turnS; rw [if_pos hj]
theorem tu_heat {P : Dat} {J : Nat → Int} {Wl : Nat → Bool} {p : Nat} {s : WS} (hj : J p ≠ -1) (hw : Wl p = false) : turnS P J Wl p s = 16 := by
  unfold turnS; rw [if_neg hj, if_neg (by rw [hw]; decide)]
theorem tu_wait {P : Dat} {J : Nat → Int} {Wl : Nat → Bool} {p : Nat} {s : WS} (hj : J p ≠ -1) (hw : Wl p = true) (ho : okT P s.1 s.2.1 s.2.2 (J p).toNat = false) : turnS P J Wl p s = 0 := by
  unfold turnS; rw [if_neg hj, if_pos hw, if_neg (by rw [ho]; decide)]
theorem tu_strike {P : Dat} {J : Nat → Int} {Wl : Nat → Bool} {p : Nat} {s : WS} (hj : J p ≠ -1) (hw : Wl p = true) (ho : okT P s.1 s.2.1 s.2.2 (J p).toNat = true) : turnS P J Wl p s = bitsN P s.1 s.2.1 s.2.2 (J p).toNat := by
  unfold turnS; rw [if_neg hj, if_pos hw, if_pos ho]
theorem t87_r {F : Nat} {P A : Dat} {K : Nat → Int} {Wl : Nat → Bool} (wA : WfA P A) (wP : WfP P) (wJ : WfJ P) (bA : Bd 1000000000 A) (bK : BdK K) (hF : 100 ≤ F) :
    ∀ (d n' p : Nat) (σ : Mem) (s : WS), p + d = 3 → d < n' → s.2.1 4 = K 4 → (∀ k, s.1 9 k = A 9 k) → RepA σ P A → RepQ σ K → (∀ q : Nat, p ≤ q → (q : Int) < P 0 4 → gI σ 494 q = w32 (if (if jbs P A K q = -1 then false else Wl q) = true then 0 else 16)) → gI σ 483 32 = w32 (if freeN P A s.2.2 3 then 0 else 1) → (∀ k, k < 3 → gI σ 495 k = w32 (s.2.2 k)) →
    ∃ σ', m12_takesTurns_87 F n' (w32 (tset P A s.2.2)) (w32 (p : Int)) σ = some σ' ∧ (∀ q : Nat, p ≤ q → (q : Int) < P 0 4 → gI σ' 494 q = w32 (turnS P (jbs P A K) Wl q (workS P (jbs P A K) Wl (q - p) p s))) ∧ (∀ q, q < p → gI σ' 494 q = gI σ 494 q) ∧ (∀ k, k < 3 → gI σ' 495 k = w32 ((workS P (jbs P A K) Wl d p s).2.2 k)) := by
  intro d
  have w2 := wP
  obtain ⟨bP, ⟨m, hm, hm8⟩, ⟨n, hn, hn3⟩, -⟩ := w2
  induction d with
  | zero =>
    intro n' p σ s h1 h2 hs4 hs9 hA hQ hW h32 hT
    obtain ⟨n', rfl⟩ : ∃ k, n' = k + 1 := ⟨n' - 1, by omega⟩
    have e3 : gI σ 493 3 = w32 (P 0 4) := hA.2.1 3 (by decide)
    refine ⟨σ, ?_, fun q hq hq2 => by omega, fun q hq => rfl, hT⟩
    unfold m12_takesTurns_87
    rw [gd_pos (by decide), show (3 : Int32).toNatClampNeg = 3 from rfl, e3, if_pos (by rw [w_le (by omega) (by omega) (by omega) (by omega)]; omega)]
  | succ d ih =>
    intro n' p σ s h1 h2 hs4 hs9 hA hQ hW h32 hT
    obtain ⟨n', rfl⟩ : ∃ k, n' = k + 1 := ⟨n' - 1, by omega⟩
    have e3 : gI σ 493 3 = w32 (P 0 4) := hA.2.1 3 (by decide)
    by_cases hpn : (p : Int) < P 0 4
    · -- one more SMITH
      have hp3 : p < 3 := by omega
      have next : ∀ (σ1 : Mem) (T' : Nat → Int) (t : Int), (stepS P (jbs P A K) Wl p s).2.2 = T' → turnS P (jbs P A K) Wl p s = t → Fr (fun c => c = 483 ∨ c = 494 ∨ c = 495) σ σ1 → Sl (fun j => j = 32) σ σ1 → gI σ1 494 p = w32 t → (∀ q, q ≠ p → gI σ1 494 q = gI σ 494 q) → gI σ1 483 32 = w32 (if freeN P A T' 3 then 0 else 1) → (∀ k, k < 3 → gI σ1 495 k = w32 (T' k)) →
          ∃ σ', m12_takesTurns_87 F n' (w32 (tset P A T')) (w32 ((p + 1 : Nat) : Int)) σ1 = some σ' ∧ (∀ q : Nat, p ≤ q → (q : Int) < P 0 4 → gI σ' 494 q = w32 (turnS P (jbs P A K) Wl q (workS P (jbs P A K) Wl (q - p) p s))) ∧ (∀ q, q < p → gI σ' 494 q = gI σ 494 q) ∧ (∀ k, k < 3 → gI σ' 495 k = w32 ((workS P (jbs P A K) Wl (d + 1) p s).2.2 k)) := by
        intro σ1 T' t eT et f sl g1 g2 g3 g4
        subst eT; subst et
        obtain ⟨σ', m, r1, r2, r3⟩ := ih n' (p + 1) σ1 (stepS P (jbs P A K) Wl p s) (by omega) (by omega) (by rw [stepS_K (by decide)]; exact hs4) (fun k => by rw [stepS_9]; exact hs9 k) (hA.same (f.gI (by omega)) (sl 27 (by decide))) (hQ.sl sl (fun j a b c => by omega)) (fun q a b => by rw [g2 q (by omega)]; exact hW q (by omega) b) g3 g4
        refine ⟨σ', m, fun q a b => ?_, fun q hq => ?_, r3⟩
        · rcases Nat.lt_or_ge p q with z | z
          · rw [r1 q (by omega) b, show q - p = (q - (p + 1)) + 1 by omega]; rfl
          · rw [show q = p by omega, r2 p (by omega), g1, Nat.sub_self]; rfl
        · rw [r2 q (by omega), g2 q (by omega)]
      have ep := hW p (Nat.le_refl _) hpn
      unfold m12_takesTurns_87
      rw [gd_pos (by decide), show (3 : Int32).toNatClampNeg = 3 from rfl, e3, if_neg (by rw [w_le (by omega) (by omega) (by omega) (by omega)]; omega), gd_pos (w_inB (by omega) (by omega) (by omega)), w_natk (by omega), ep, w_succ]
      by_cases hj : jbs P A K p = -1
      · simp only [hj, if_true] at ep ⊢
        rw [if_pos (by decide)]
        exact next σ _ _ (by rw [st_none hj]) (tu_none hj) (Fr.rf _ _) (Sl.rf _ _) ep (fun q _ => rfl) h32 hT
      · have jr := (jbs_lt (A := A) (K := K) wP p).resolve_left hj
        obtain ⟨j, hjj⟩ : ∃ j : Nat, jbs P A K p = j := ⟨(jbs P A K p).toNat, by omega⟩
        have hjn : (jbs P A K p).toNat = j := by omega
        have hjm : (j : Int) < P 0 5 := by omega
        have hbr := (wJ j hjm).1
        simp only [hj, if_false] at ep ⊢
        by_cases hw : Wl p = true
        · simp only [hw, if_true] at ep ⊢
          rw [if_neg (by decide), jobNow_r hA hQ wA wP bA (bK 2 (by decide) (by decide)) hp3 hF, Option.bind_some, hjj, needs_r hA wJ (by omega) hjm, Option.bind_some]
          simp only [tset_test hbr]
          have eok : okT P s.1 s.2.1 s.2.2 (jbs P A K p).toNat = okT P A K s.2.2 j := by rw [hjn]; exact okT_row hs9 hs4
          have ebi : bitsN P s.1 s.2.1 s.2.2 (jbs P A K p).toNat = bitsN P A K s.2.2 j := by rw [hjn]; exact bitsN_row hs9 hs4
          have b4 := bK 4 (by decide) (by decide)
          by_cases ho : okL P A s.2.2 (P 4 j) 4 0 = true
          · rw [if_pos ho, gd_pos (w_inB (by omega) (by omega) (by omega)), tset_more (p := p) hbr ho]
            have hbits : bitsN P A K s.2.2 j = P 4 j := by
              unfold bitsN
              by_cases k4 : K 4 = 0
              · rw [if_pos k4]
              · rw [if_neg k4]
                by_cases h1 : P 4 j = 1
                · rw [if_pos h1]
                  have : freeN P A s.2.2 0 = true := by
                    rw [h1] at ho
                    simp only [okL, show bitI 1 0 = true by decide, if_true] at ho
                    by_cases hf : freeN P A s.2.2 0 = true
                    · exact hf
                    · rw [if_neg hf] at ho; cases ho
                  rw [if_pos this]
                · rw [if_neg h1]
            have hok : okT P A K s.2.2 j = true := by unfold okT; rw [hbits]; exact ho
            obtain ⟨σ1, m1, f1, g1⟩ := t141_r (F := F) (k87 := fun x1 x2 σ => m12_takesTurns_87 F n' x1 x2 σ) (x1 := w32 (tset P A (tkT s.2.2 (P 4 j) p))) (p := p) (b := P 4 j) 3 F 0 (sI σ 494 p (w32 (P 4 j))) (by omega) (by omega)
            rw [show (0 : Int32) = w32 ((0 : Nat) : Int) from rfl, m1]
            have fw : Fr (fun c => c = 483 ∨ c = 494 ∨ c = 495) σ σ1 := (show Fr (fun c => c = 483 ∨ c = 494 ∨ c = 495) σ (sI σ 494 p (w32 (P 4 j))) from (Fr.rf _ _).sI (Or.inr (Or.inl rfl))).trans (f1.mono (fun c h => Or.inr (Or.inr h)))
            refine next σ1 (tkT s.2.2 (P 4 j) p) (P 4 j) (by rw [st_strike hj hw (eok.trans hok), ebi, hbits]) (by rw [tu_strike hj hw (eok.trans hok), ebi, hbits]) fw (fun q hq => by rw [f1.gI (by decide), gI_nec (by decide)]) (by rw [f1.gI (by decide), gI_eq]) (fun q hq => by rw [f1.gI (by decide), gI_nej hq]) ?_ (fun k hk => ?_)
            · rw [f1.gI (by decide), gI_nec (by decide), h32]
              have h3 : freeN P A (tkT s.2.2 (P 4 j) p) 3 = freeN P A s.2.2 3 := by
                unfold freeN tkT
                rw [if_neg (by rcases hbr with ⟨-, h⟩ | ⟨-, h⟩ | ⟨-, h⟩ | ⟨-, h⟩ <;> rw [h] <;> decide)]
              rw [h3]
            · rw [g1 k hk, gI_nec (by decide), hT k hk]
              unfold tkT
              by_cases hb : bitI (P 4 j) k = true
              · rw [if_pos ⟨Nat.zero_le _, hb⟩, if_pos hb]
              · rw [if_neg (fun z => hb z.2), if_neg hb]
          · rw [if_neg ho, hQ.2.2.2.1]
            have stay : okT P A K s.2.2 j = false → ∃ σ', m12_takesTurns_87 F n' (w32 (tset P A s.2.2)) (w32 ((p + 1 : Nat) : Int)) σ = some σ' ∧ (∀ q : Nat, p ≤ q → (q : Int) < P 0 4 → gI σ' 494 q = w32 (turnS P (jbs P A K) Wl q (workS P (jbs P A K) Wl (q - p) p s))) ∧ (∀ q, q < p → gI σ' 494 q = gI σ 494 q) ∧ (∀ k, k < 3 → gI σ' 495 k = w32 ((workS P (jbs P A K) Wl (d + 1) p s).2.2 k)) := by
              intro hok
              exact next σ _ _ (by rw [st_wait hj hw (eok.trans hok)]) (tu_wait hj hw (eok.trans hok)) (Fr.rf _ _) (Sl.rf _ _) ep (fun q _ => rfl) h32 hT
            by_cases k4 : K 4 = 0
            · rw [if_pos (by rw [k4]; rfl)]
              refine stay ?_
              unfold okT bitsN
              rw [if_pos k4]
              simpa using ho
            · rw [if_neg (by rw [wl_0, w_eq (by omega) (by omega) (by omega) (by omega)]; exact k4)]
              have p4 : -1000 ≤ P 4 j ∧ P 4 j ≤ 1000 := bP 4 j
              by_cases h1 : P 4 j = 1
              · have hf0 : freeN P A s.2.2 0 = false := by
                  rw [h1] at ho
                  simp only [okL, show bitI 1 0 = true by decide, show bitI 1 1 = false by decide, show bitI 1 2 = false by decide, show bitI 1 3 = false by decide, if_true] at ho
                  cases hf : freeN P A s.2.2 0 with
                  | false => rfl
                  | true => rw [hf] at ho; exact absurd rfl ho
                have hbits : bitsN P A K s.2.2 j = 8 := by
                  unfold bitsN
                  rw [if_neg k4, if_pos h1, hf0]; rfl
                have hok : okT P A K s.2.2 j = freeN P A s.2.2 3 := by
                  unfold okT
                  rw [hbits]
                  simp only [okL, show bitI 8 0 = false by decide, show bitI 8 1 = false by decide, show bitI 8 2 = false by decide, show bitI 8 3 = true by decide, if_true]
                  cases freeN P A s.2.2 3 <;> rfl
                rw [if_pos (by rw [h1]; rfl), h32]
                by_cases h3 : freeN P A s.2.2 3 = true
                · rw [if_pos h3, if_pos (by decide), gd_pos (w_inB (by omega) (by omega) (by omega))]
                  have hok2 := eok.trans (hok.trans h3)
                  rw [← tset_8 (P := P) (A := A) (T := s.2.2) (p := p)]
                  refine next _ (tkT s.2.2 8 p) 8 (by rw [st_strike hj hw hok2, ebi, hbits]) (by rw [tu_strike hj hw hok2, ebi, hbits]) (((Fr.rf _ _).sI (Or.inr (Or.inl rfl))).sI (Or.inl rfl)) (((Sl.rf _ _).ne (by decide)).at rfl) (by rw [gI_nec (by decide), gI_eq]; rfl) (fun q hq => by rw [gI_nec (by decide), gI_nej hq]) ?_ (fun k hk => ?_)
                  · rw [gI_eq]
                    have : freeN P A (tkT s.2.2 8 p) 3 = false := by
                      unfold freeN tkT
                      rw [if_pos (by decide), decide_eq_false (by omega), Bool.false_and]
                    rw [this]; rfl
                  · rw [gI_nec (by decide), gI_nec (by decide), hT k hk]
                    unfold tkT
                    rw [if_neg (by rcases (show k = 0 ∨ k = 1 ∨ k = 2 by omega) with rfl | rfl | rfl <;> decide)]
                · rw [if_neg h3, if_neg (by decide)]
                  exact stay (by rw [hok]; simpa using h3)
              · rw [if_neg (by rw [wl_1, w_eq (by omega) (by omega) (by omega) (by omega)]; exact h1)]
                refine stay ?_
                unfold okT bitsN
                rw [if_neg k4, if_neg h1]
                simpa using ho
        · have hw : Wl p = false := by simpa using hw
          simp only [hw] at ep ⊢
          rw [if_pos (by decide)]
          exact next σ _ _ (by rw [st_heat hj hw]) (tu_heat hj hw) (Fr.rf _ _) (Sl.rf _ _) ep (fun q _ => rfl) h32 hT
    · have hnone : workS P (jbs P A K) Wl (d + 1) p s = s := workS_none (d + 1) p s (fun q hq => J_ge wP wJ (by omega))
      refine ⟨σ, ?_, fun q hq hq2 => by omega, fun q hq => rfl, fun k hk => by rw [hnone]; exact hT k hk⟩
      unfold m12_takesTurns_87
      rw [gd_pos (by decide), show (3 : Int32).toNatClampNeg = 3 from rfl, e3, if_pos (by rw [w_le (by omega) (by omega) (by omega) (by omega)]; omega)]
theorem t67_r {F : Nat} {x1 : Int32} : ∀ (d n' c : Nat) (σ : Mem), c + d = 3 → d < n' → ∃ σ', m12_takesTurns_67 F n' x1 (w32 (c : Int)) σ = m12_takesTurns_87 F F x1 (0 : Int32) σ' ∧ Fr (fun c => c = 495) σ σ' ∧ ∀ q, q < 3 → gI σ' 495 q = if c ≤ q then w32 (-1) else gI σ 495 q := by
  intro d
  induction d with
  | zero =>
    intro n' c σ h1 h2
    obtain ⟨n', rfl⟩ : ∃ k, n' = k + 1 := ⟨n' - 1, by omega⟩
    refine ⟨σ, ?_, Fr.rf _ _, fun q hq => by rw [if_neg (by omega)]⟩
    unfold m12_takesTurns_67
    rw [if_pos (by rw [wl_3, w_le (by omega) (by omega) (by omega) (by omega)]; omega)]
  | succ d ih =>
    intro n' c σ h1 h2
    obtain ⟨n', rfl⟩ : ∃ k, n' = k + 1 := ⟨n' - 1, by omega⟩
    unfold m12_takesTurns_67
    rw [if_neg (by rw [wl_3, w_le (by omega) (by omega) (by omega) (by omega)]; omega), gd_pos (w_inB (by omega) (by omega) (by omega)), w_natk (by omega), w_succ]
    obtain ⟨σ', m, f, g⟩ := ih n' (c + 1) (sI σ 495 c (-1 : Int32)) (by omega) (by omega)
    refine ⟨σ', m, (show Fr (fun c => c = 495) σ (sI σ 495 c (-1 : Int32)) from (Fr.rf _ _).sI rfl).trans f, fun q hq => ?_⟩
    rw [g q hq]
    by_cases hqc : q = c
    · rw [hqc, if_neg (by omega), gI_eq, if_pos (Nat.le_refl _)]; rfl
    · rw [gI_nej hqc]
      by_cases hx : c ≤ q
      · rw [if_pos hx, if_pos (by omega)]
      · rw [if_neg hx, if_neg (by omega)]
theorem t29_r {F : Nat} {P A : Dat} {K : Nat → Int} {ro : Option Dat} {x1 : Int32} (wA : WfA P A) (wP : WfP P) (wJ : WfJ P) (bA : Bd 1000000000 A) (bK : BdK K) (bK3 : -1 ≤ K 3) (hF : 1000 ≤ F) :
    ∀ (d n' p : Nat) (σ : Mem), p + d = 3 → d < n' → RepA σ P A → RepQ σ K → RepFo σ ro → ∃ σ1, m12_takesTurns_29 F n' x1 (w32 (p : Int)) σ = m12_takesTurns_67 F F x1 (0 : Int32) σ1 ∧ Fr (fun c => c = 483 ∨ c = 491 ∨ c = 492 ∨ c = 494) σ σ1 ∧ Sl (fun j => j = 18) σ σ1 ∧ (∀ q : Nat, p ≤ q → (q : Int) < P 0 4 → gI σ1 494 q = w32 (if wlN P A K ro (jbs P A K) q then 0 else 16)) ∧ (∀ q, q < p → gI σ1 494 q = gI σ 494 q) := by
  intro d
  have w2 := wP
  obtain ⟨bP, ⟨m, hm, hm8⟩, ⟨n, hn, hn3⟩, -⟩ := w2
  induction d with
  | zero =>
    intro n' p σ h1 h2 hA hQ hR
    obtain ⟨n', rfl⟩ : ∃ k, n' = k + 1 := ⟨n' - 1, by omega⟩
    have e3 : gI σ 493 3 = w32 (P 0 4) := hA.2.1 3 (by decide)
    refine ⟨σ, ?_, Fr.rf _ _, Sl.rf _ _, fun q a b => by omega, fun q _ => rfl⟩
    unfold m12_takesTurns_29
    rw [gd_pos (by decide), show (3 : Int32).toNatClampNeg = 3 from rfl, e3, if_pos (by rw [w_le (by omega) (by omega) (by omega) (by omega)]; omega)]
  | succ d ih =>
    intro n' p σ h1 h2 hA hQ hR
    obtain ⟨n', rfl⟩ : ∃ k, n' = k + 1 := ⟨n' - 1, by omega⟩
    have e3 : gI σ 493 3 = w32 (P 0 4) := hA.2.1 3 (by decide)
    by_cases hpn : (p : Int) < P 0 4
    · obtain ⟨σ1, m1⟩ := wills_r (F := F) hA hQ hR wA wP wJ bA (bK 2 (by decide) (by decide)) ⟨bK3, (bK 3 (by decide) (by decide)).2⟩ hpn hF
      have f1 := f12_willsStrike m1
      have s1 := f12_willsStrike_s m1
      have next : ∀ v : Int32, v = w32 (if wlN P A K ro (jbs P A K) p then 0 else 16) → ∃ σ2, m12_takesTurns_29 F n' x1 (w32 ((p + 1 : Nat) : Int)) (sI σ1 494 p v) = m12_takesTurns_67 F F x1 (0 : Int32) σ2 ∧ Fr (fun c => c = 483 ∨ c = 491 ∨ c = 492 ∨ c = 494) σ σ2 ∧ Sl (fun j => j = 18) σ σ2 ∧ (∀ q : Nat, p ≤ q → (q : Int) < P 0 4 → gI σ2 494 q = w32 (if wlN P A K ro (jbs P A K) q then 0 else 16)) ∧ (∀ q, q < p → gI σ2 494 q = gI σ 494 q) := by
        intro v hv
        have f2 : Fr (fun c => c = 483 ∨ c = 491 ∨ c = 492 ∨ c = 494) σ (sI σ1 494 p v) := (f1.mono (V := fun c => c = 483 ∨ c = 491 ∨ c = 492 ∨ c = 494) (fun c h => by unfold Wm12_willsStrike at h; omega)).sI (by omega)
        have s2 : Sl (fun j => j = 18) σ (sI σ1 494 p v) := (s1.mono (V := fun j => j = 18) (fun c h => by unfold Vm12_willsStrike at h; omega)).ne (by decide)
        obtain ⟨σ2, m2, f3, s3, r1, r2⟩ := ih n' (p + 1) (sI σ1 494 p v) (by omega) (by omega) (hA.same (f2.gI (by omega)) (s2 27 (by decide))) (hQ.sl s2 (fun j a b c => by omega)) (hR.fr f2 s2 (by omega) (by omega) (by omega) (by omega))
        refine ⟨σ2, m2, f2.trans f3, s2.trans s3, fun q a b => ?_, fun q hq => ?_⟩
        · rcases Nat.lt_or_ge p q with z | z
          · exact r1 q (by omega) b
          · rw [show q = p by omega, r2 p (by omega), gI_eq, hv]
        · rw [r2 q (by omega), gI_nej (by omega), f1.gI (by unfold Wm12_willsStrike; omega)]
      unfold m12_takesTurns_29
      rw [gd_pos (by decide), show (3 : Int32).toNatClampNeg = 3 from rfl, e3, if_neg (by rw [w_le (by omega) (by omega) (by omega) (by omega)]; omega), m1, Option.bind_some, w_succ, gd_pos (w_inB (by omega) (by omega) (by omega)), w_natk (by omega)]
      by_cases hw : wlN P A K ro (jbs P A K) p = true
      · simp only [hw, if_true] at next ⊢
        rw [if_neg (by decide), gd_pos (w_inB (by omega) (by omega) (by omega))]
        exact next 0 rfl
      · have hw : wlN P A K ro (jbs P A K) p = false := by simpa using hw
        simp only [hw] at next ⊢
        rw [if_pos (by decide)]
        exact next 16 rfl
    · refine ⟨σ, ?_, Fr.rf _ _, Sl.rf _ _, fun q a b => by omega, fun q _ => rfl⟩
      unfold m12_takesTurns_29
      rw [gd_pos (by decide), show (3 : Int32).toNatClampNeg = 3 from rfl, e3, if_pos (by rw [w_le (by omega) (by omega) (by omega) (by omega)]; omega)]
theorem turns_r {F : Nat} {σ : Mem} {P A : Dat} {K : Nat → Int} {ro : Option Dat} (hA : RepA σ P A) (hQ : RepQ σ K) (hR : RepFo σ ro) (wA : WfA P A) (wP : WfP P) (wJ : WfJ P) (bA : Bd 1000000000 A) (bK : BdK K) (bK3 : -1 ≤ K 3) (hF : 1000 ≤ F) :
    ∃ σ', m12_takesTurns F σ = some σ' ∧ (∀ q : Nat, (q : Int) < P 0 4 → gI σ' 494 q = w32 (turnS P (jbs P A K) (wlN P A K ro (jbs P A K)) q (workS P (jbs P A K) (wlN P A K ro (jbs P A K)) q 0 (A, K0 K, fun _ => -1)))) ∧ (∀ k, k < 3 → gI σ' 495 k = w32 ((passW P K ro A).2.2 k)) := by
  have w2 := wP
  obtain ⟨bP, -, -, -⟩ := w2
  have e2 : gI σ 493 2 = w32 (P 0 3) := hA.2.1 2 (by decide)
  have b3 := bP 0 3
  have b9 := bA 9 3
  have go : ∀ v : Int32, v = w32 (if freeN P A (fun _ => -1) 3 then 0 else 1) → ∃ σ', m12_takesTurns_29 F F (w32 (tset P A (fun _ => -1))) (0 : Int32) (sI σ 483 32 v) = some σ' ∧ (∀ q : Nat, (q : Int) < P 0 4 → gI σ' 494 q = w32 (turnS P (jbs P A K) (wlN P A K ro (jbs P A K)) q (workS P (jbs P A K) (wlN P A K ro (jbs P A K)) q 0 (A, K0 K, fun _ => -1)))) ∧ (∀ k, k < 3 → gI σ' 495 k = w32 ((passW P K ro A).2.2 k)) := by
    intro v hv
    have f0 : Fr (fun c => c = 483) σ (sI σ 483 32 v) := (Fr.rf _ _).sI rfl
    have s0 : Sl (fun j => j = 32) σ (sI σ 483 32 v) := (Sl.rf _ _).at rfl
    obtain ⟨σ1, m1, f1, s1, r1, -⟩ := t29_r (F := F) (ro := ro) (x1 := w32 (tset P A (fun _ => -1))) wA wP wJ bA bK bK3 hF 3 F 0 (sI σ 483 32 v) (by omega) (by omega) (hA.same (f0.gI (by decide)) (s0 27 (by decide))) (hQ.sl s0 (fun j a b c => by omega)) (hR.fr f0 s0 (by decide) (by decide) (by decide) (by decide))
    obtain ⟨σ2, m2, f2, r2⟩ := t67_r (F := F) (x1 := w32 (tset P A (fun _ => -1))) 3 F 0 σ1 (by omega) (by omega)
    have A1 : RepA σ1 P A := hA.same ((f1.gI (by decide)).trans (f0.gI (by decide))) ((s1 27 (by decide)).trans (s0 27 (by decide)))
    have Q1 : RepQ σ1 K := (hQ.sl s0 (fun j a b c => by omega)).sl s1 (fun j a b c => by omega)
    have s2 : Sl (fun _ => False) σ1 σ2 := fun j _ => by rw [f2.gI (by decide)]
    have hK4 : K0 K 4 = K 4 := by unfold K0; rw [upK_lo (by decide), upK_lo (by decide), upK_lo (by decide)]
    obtain ⟨σ3, m3, r3, -, r4⟩ := t87_r (F := F) (Wl := wlN P A K ro (jbs P A K)) wA wP wJ bA bK (by omega) 3 F 0 σ2 (A, K0 K, fun _ => -1) (by omega) (by omega) hK4 (fun k => rfl) (A1.same (f2.gI (by decide)) (s2 27 (fun h => h))) (Q1.sl s2 (fun j a b c h => h)) (fun q _ b => by
      rw [f2.gI (by decide), r1 q (Nat.zero_le _) b]
      unfold wlN
      by_cases hj : jbs P A K q = -1
      · rw [if_pos hj]
        simp only [hj, if_true]
      · rw [if_neg hj]
        simp only [hj, if_false]) (by rw [f2.gI (by decide), s1 32 (by decide), gI_eq, hv]) (fun k hk => by rw [r2 k hk, if_pos (Nat.zero_le _)])
    refine ⟨σ3, ?_, fun q b => r3 q (Nat.zero_le _) b, r4⟩
    rw [show (0 : Int32) = w32 ((0 : Nat) : Int) from rfl, m1, show (0 : Int32) = w32 ((0 : Nat) : Int) from rfl, m2]
    exact m3
  unfold m12_takesTurns
  rw [split_r hA bP bA (by omega), Option.bind_some, gd_pos (by decide), hA.2.2.2.2.2, show (2 : Int32).toNatClampNeg = 2 from rfl, e2]
  have hfr : freeN P A (fun _ => -1) 3 = decide (A 9 3 < P 0 3) := by unfold freeN; simp
  by_cases hs : A 9 3 < P 0 3
  · rw [if_pos (by rw [w_lt (by omega) (by omega) (by omega) (by omega)]; exact hs)]
    exact go 0 (by rw [hfr, decide_eq_true hs]; rfl)
  · rw [if_neg (by rw [w_lt (by omega) (by omega) (by omega) (by omega)]; exact hs)]
    exact go 1 (by rw [hfr, decide_eq_false hs]; rfl)
