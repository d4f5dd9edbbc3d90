/-! TEXTS, 7: the reference reads values and sums -/
theorem wdx_yes {B : Nat → Int} {p n : Nat} {w : List Int} {ws : List (List Int)} {i : Int} (h : isw B p n w = true) : wdx B p n (w :: ws) i = i := if_pos h
theorem wdx_no {B : Nat → Int} {p n : Nat} {w : List Int} {ws : List (List Int)} {i : Int} (h : ¬ isw B p n w = true) : wdx B p n (w :: ws) i = wdx B p n ws (i + 1) := if_neg h
theorem wordHere_r {F : Nat} {B : Nat → Int} {L p : Nat} {f : Int} {σ : Mem} (hT : Txt B L) (h : RT B L p f σ) (hp : p ≤ 1000000) (hF : 1000 ≤ F) : ∃ σ', m12_wordHere F σ = some (w32 (wdx B (sk B L p) (rn B L 97 122 (sk B L p)) (tws 3) 0), σ') ∧ RT B L (sk B L p) f σ' ∧ Qs σ σ' := by
  have hL := hT.1
  have q := sk_rg (B := B) (L := L) (p := p)
  have e3 : tws 3 = [[115, 109, 105, 116, 104], [104, 101, 97, 116], [104, 111, 116], [110, 101, 101, 100], [108, 101, 102, 116], [112, 97, 121], [113, 117, 105, 99, 107], [109, 111, 109, 101, 110, 116], [119, 111, 114, 110], [114, 105, 118, 97, 108, 115], [119, 97, 105, 116, 115], [98, 117, 114, 110], [100, 111, 110, 101]] := rfl
  rw [e3]
  unfold m12_wordHere
  obtain ⟨σ1, m1, t1, q1⟩ := isWord_r (F := F) hT h hp hF [115, 109, 105, 116, 104] 495756866664 (by decide) (by decide) (by decide)
  by_cases z1 : isK B L [115, 109, 105, 116, 104] (sk B L p) = true
  · rw [if_pos z1] at m1
    rw [m1, Option.bind_some]
    dsimp only
    rw [if_neg (by decide), wdx_yes z1]
    exact ⟨σ1, rfl, t1, q1⟩
  rw [if_neg z1] at m1
  rw [m1, Option.bind_some]
  dsimp only
  rw [if_pos rfl, wdx_no z1]
  obtain ⟨σ2, m2, t2, q2⟩ := isWord_r (F := F) hT t1 (by omega) hF [104, 101, 97, 116] 1751474548 (by decide) (by decide) (by decide)
  rw [sk_sk] at m2 t2
  have Q2 := q1.trans q2
  by_cases z2 : isK B L [104, 101, 97, 116] (sk B L p) = true
  · rw [if_pos z2] at m2
    rw [m2, Option.bind_some]
    dsimp only
    rw [if_neg (by decide), wdx_yes z2]
    exact ⟨σ2, rfl, t2, Q2⟩
  rw [if_neg z2] at m2
  rw [m2, Option.bind_some]
  dsimp only
  rw [if_pos rfl, wdx_no z2]
  obtain ⟨σ3, m3, t3, q3⟩ := isWord_r (F := F) hT t2 (by omega) hF [104, 111, 116] 6844276 (by decide) (by decide) (by decide)
  rw [sk_sk] at m3 t3
  have Q3 := Q2.trans q3
  by_cases z3 : isK B L [104, 111, 116] (sk B L p) = true
  · rw [if_pos z3] at m3
    rw [m3, Option.bind_some]
    dsimp only
    rw [if_neg (by decide), wdx_yes z3]
    exact ⟨σ3, rfl, t3, Q3⟩
  rw [if_neg z3] at m3
  rw [m3, Option.bind_some]
  dsimp only
  rw [if_pos rfl, wdx_no z3]
  obtain ⟨σ4, m4, t4, q4⟩ := isWord_r (F := F) hT t3 (by omega) hF [110, 101, 101, 100] 1852138852 (by decide) (by decide) (by decide)
  rw [sk_sk] at m4 t4
  have Q4 := Q3.trans q4
  by_cases z4 : isK B L [110, 101, 101, 100] (sk B L p) = true
  · rw [if_pos z4] at m4
    rw [m4, Option.bind_some]
    dsimp only
    rw [if_neg (by decide), wdx_yes z4]
    exact ⟨σ4, rfl, t4, Q4⟩
  rw [if_neg z4] at m4
  rw [m4, Option.bind_some]
  dsimp only
  rw [if_pos rfl, wdx_no z4]
  obtain ⟨σ5, m5, t5, q5⟩ := isWord_r (F := F) hT t4 (by omega) hF [108, 101, 102, 116] 1818584692 (by decide) (by decide) (by decide)
  rw [sk_sk] at m5 t5
  have Q5 := Q4.trans q5
  by_cases z5 : isK B L [108, 101, 102, 116] (sk B L p) = true
  · rw [if_pos z5] at m5
    rw [m5, Option.bind_some]
    dsimp only
    rw [if_neg (by decide), wdx_yes z5]
    exact ⟨σ5, rfl, t5, Q5⟩
  rw [if_neg z5] at m5
  rw [m5, Option.bind_some]
  dsimp only
  rw [if_pos rfl, wdx_no z5]
  obtain ⟨σ6, m6, t6, q6⟩ := isWord_r (F := F) hT t5 (by omega) hF [112, 97, 121] 7364985 (by decide) (by decide) (by decide)
  rw [sk_sk] at m6 t6
  have Q6 := Q5.trans q6
  by_cases z6 : isK B L [112, 97, 121] (sk B L p) = true
  · rw [if_pos z6] at m6
    rw [m6, Option.bind_some]
    dsimp only
    rw [if_neg (by decide), wdx_yes z6]
    exact ⟨σ6, rfl, t6, Q6⟩
  rw [if_neg z6] at m6
  rw [m6, Option.bind_some]
  dsimp only
  rw [if_pos rfl, wdx_no z6]
  obtain ⟨σ7, m7, t7, q7⟩ := isWord_r (F := F) hT t6 (by omega) hF [113, 117, 105, 99, 107] 487301145451 (by decide) (by decide) (by decide)
  rw [sk_sk] at m7 t7
  have Q7 := Q6.trans q7
  by_cases z7 : isK B L [113, 117, 105, 99, 107] (sk B L p) = true
  · rw [if_pos z7] at m7
    rw [m7, Option.bind_some]
    dsimp only
    rw [if_neg (by decide), wdx_yes z7]
    exact ⟨σ7, rfl, t7, Q7⟩
  rw [if_neg z7] at m7
  rw [m7, Option.bind_some]
  dsimp only
  rw [if_pos rfl, wdx_no z7]
  obtain ⟨σ8, m8, t8, q8⟩ := isWord_r (F := F) hT t7 (by omega) hF [109, 111, 109, 101, 110, 116] 120325344161396 (by decide) (by decide) (by decide)
  rw [sk_sk] at m8 t8
  have Q8 := Q7.trans q8
  by_cases z8 : isK B L [109, 111, 109, 101, 110, 116] (sk B L p) = true
  · rw [if_pos z8] at m8
    rw [m8, Option.bind_some]
    dsimp only
    rw [if_neg (by decide), wdx_yes z8]
    exact ⟨σ8, rfl, t8, Q8⟩
  rw [if_neg z8] at m8
  rw [m8, Option.bind_some]
  dsimp only
  rw [if_pos rfl, wdx_no z8]
  obtain ⟨σ9, m9, t9, q9⟩ := isWord_r (F := F) hT t8 (by omega) hF [119, 111, 114, 110] 2003792494 (by decide) (by decide) (by decide)
  rw [sk_sk] at m9 t9
  have Q9 := Q8.trans q9
  by_cases z9 : isK B L [119, 111, 114, 110] (sk B L p) = true
  · rw [if_pos z9] at m9
    rw [m9, Option.bind_some]
    dsimp only
    rw [if_neg (by decide), wdx_yes z9]
    exact ⟨σ9, rfl, t9, Q9⟩
  rw [if_neg z9] at m9
  rw [m9, Option.bind_some]
  dsimp only
  rw [if_pos rfl, wdx_no z9]
  obtain ⟨σ10, m10, t10, q10⟩ := isWord_r (F := F) hT t9 (by omega) hF [114, 105, 118, 97, 108, 115] 125797283228787 (by decide) (by decide) (by decide)
  rw [sk_sk] at m10 t10
  have Q10 := Q9.trans q10
  by_cases z10 : isK B L [114, 105, 118, 97, 108, 115] (sk B L p) = true
  · rw [if_pos z10] at m10
    rw [m10, Option.bind_some]
    dsimp only
    rw [if_neg (by decide), wdx_yes z10]
    exact ⟨σ10, rfl, t10, Q10⟩
  rw [if_neg z10] at m10
  rw [m10, Option.bind_some]
  dsimp only
  rw [if_pos rfl, wdx_no z10]
  obtain ⟨σ11, m11, t11, q11⟩ := isWord_r (F := F) hT t10 (by omega) hF [119, 97, 105, 116, 115] 512735409267 (by decide) (by decide) (by decide)
  rw [sk_sk] at m11 t11
  have Q11 := Q10.trans q11
  by_cases z11 : isK B L [119, 97, 105, 116, 115] (sk B L p) = true
  · rw [if_pos z11] at m11
    rw [m11, Option.bind_some]
    dsimp only
    rw [if_neg (by decide), wdx_yes z11]
    exact ⟨σ11, rfl, t11, Q11⟩
  rw [if_neg z11] at m11
  rw [m11, Option.bind_some]
  dsimp only
  rw [if_pos rfl, wdx_no z11]
  obtain ⟨σ12, m12, t12, q12⟩ := isWord_r (F := F) hT t11 (by omega) hF [98, 117, 114, 110] 1651864174 (by decide) (by decide) (by decide)
  rw [sk_sk] at m12 t12
  have Q12 := Q11.trans q12
  by_cases z12 : isK B L [98, 117, 114, 110] (sk B L p) = true
  · rw [if_pos z12] at m12
    rw [m12, Option.bind_some]
    dsimp only
    rw [if_neg (by decide), wdx_yes z12]
    exact ⟨σ12, rfl, t12, Q12⟩
  rw [if_neg z12] at m12
  rw [m12, Option.bind_some]
  dsimp only
  rw [if_pos rfl, wdx_no z12]
  obtain ⟨σ13, m13, t13, q13⟩ := isWord_r (F := F) hT t12 (by omega) hF [100, 111, 110, 101] 1685024357 (by decide) (by decide) (by decide)
  rw [sk_sk] at m13 t13
  have Q13 := Q12.trans q13
  by_cases z13 : isK B L [100, 111, 110, 101] (sk B L p) = true
  · rw [if_pos z13] at m13
    rw [m13, Option.bind_some]
    dsimp only
    rw [if_neg (by decide), wdx_yes z13]
    exact ⟨σ13, rfl, t13, Q13⟩
  rw [if_neg z13] at m13
  rw [m13, Option.bind_some]
  dsimp only
  rw [if_pos rfl, wdx_no z13]
  exact ⟨σ13, rfl, t13, Q13⟩
/-- the reference in the middle of a text: its rows for the text k -/
def SR (B : Nat → Int) (L k : Nat) (s : St) (σ : Mem) : Prop := RT B L (sp s) 0 σ ∧ gI σ 483 11 = w32 (k : Int) ∧ gI σ 483 12 = w32 (sn s : Int) ∧ gI σ 486 k = w32 (sl s : Int) ∧ ∀ i, i < sl s → gI σ 485 (400 * k + i) = w32 (enc (sr s i) : Int)
def KL (k : Nat) (σ σ' : Mem) : Prop := ∀ j, j < 400 * k → gI σ' 485 j = gI σ 485 j
theorem KL.rf (k : Nat) (σ : Mem) : KL k σ σ := fun _ _ => rfl
theorem KL.trans {k : Nat} {σ σ1 σ2 : Mem} (h : KL k σ σ1) (g : KL k σ1 σ2) : KL k σ σ2 := fun j hj => (g j hj).trans (h j hj)
theorem KL.of {k : Nat} {σ σ1 : Mem} (h : gI σ1 485 = gI σ 485) : KL k σ σ1 := fun j _ => by rw [h]
theorem Qs.k {k : Nat} {σ σ1 : Mem} (h : Qs σ σ1) : KL k σ σ1 := KL.of (h.c (by decide))
def OS (B : Nat → Int) (L k : Nat) (x : Re) (y : Int32) (σ : Mem) : Prop := match x with
  | .ok s => y = 1 ∧ SR B L k s σ
  | .error f => y = 0 ∧ gI σ 483 9 = w32 f
theorem SR.q {B : Nat → Int} {L k : Nat} {s : St} {σ σ1 : Mem} (h : SR B L k s σ) (g : Qs σ σ1) {p : Nat} (t : RT B L p 0 σ1) : SR B L k (to s p) σ1 := by
  obtain ⟨h1, h2, h3, h4, h5⟩ := h
  have n8 : ∀ j, j = 11 ∨ j = 12 → ¬ V8 j := fun j hj => by unfold V8; omega
  exact ⟨t, by rw [g.j (n8 11 (Or.inl rfl))]; exact h2, by rw [g.j (n8 12 (Or.inr rfl))]; exact h3, by rw [g.c (by decide)]; exact h4, fun i hi => by rw [g.c (by decide)]; exact h5 i hi⟩
theorem puts_r {F : Nat} {B : Nat → Int} {L k : Nat} {s : St} {a b t : Int} {σ : Mem} (h : SR B L k s σ) (hk : k < 6) (hl : sl s < 400) (ha : 0 ≤ a ∧ a ≤ 1000) (hb : 0 ≤ b ∧ b ≤ 1000000) (he : a + 16 * b = (enc t : Int)) : ∃ σ', m12_puts F (w32 a) (w32 b) σ = some σ' ∧ SR B L k (pt s t) σ' ∧ KL k σ σ' := by
  obtain ⟨h1, h2, h3, h4, h5⟩ := h
  unfold m12_puts
  rw [h2, gd_pos (w_inB (by omega) (by omega) (by omega)), w_natk (by omega), h4, show (400 : Int32) * w32 (k : Int) + w32 (sl s : Int) = w32 ((400 * k + sl s : Nat) : Int) by rw [show (400 : Int32) = w32 400 from rfl, w_mul, w_add]; congr 1 <;> omega, gd_pos (w_inB (by omega) (by omega) (by omega)), w_natk (by omega)]
  dsimp only
  rw [gI_nec (c := 485) (c' := 483) (by decide), h2, gd_pos (w_inB (by omega) (by omega) (by omega)), gd_pos (w_inB (by omega) (by omega) (by omega)), w_natk (by omega), gI_nec (c := 485) (c' := 486) (by decide), h4, w_succ, show (16 : Int32) = w32 16 from rfl, w_mul, w_add, he]
  refine ⟨_, rfl, ⟨(h1.ne (by omega)).ne (by omega), ?_, ?_, gI_eq .., fun i hi => ?_⟩, fun j hj => ?_⟩
  · rw [gI_nec (by decide), gI_nec (by decide)]; exact h2
  · rw [gI_nec (by decide), gI_nec (by decide)]; exact h3
  · have hi : i < sl s + 1 := hi
    show _ = w32 (enc (if i = sl s then t else sr s i) : Int)
    rw [gI_nec (by decide)]
    by_cases z : i = sl s
    · rw [if_pos z, z, gI_eq]
    · rw [if_neg z, gI_nej (by omega)]; exact h5 i (by omega)
  · rw [gI_nec (by decide), gI_nej (by omega)]
theorem makes_r {F : Nat} {B : Nat → Int} {L k a : Nat} {s : St} {σ : Mem} (h : SR B L k s σ) (hn : sn s ≤ 60) : ∃ y σ', m12_makes F (w32 (a : Int)) σ = some (y, σ') ∧ KL k σ σ' ∧ (if 60 ≤ sn s then y = 0 ∧ gI σ' 483 9 = w32 (1 + 8 * (a : Int) + 3) else y = 1 ∧ SR B L k (mk s) σ') := by
  obtain ⟨h1, h2, h3, h4, h5⟩ := h
  unfold m12_makes
  rw [h3]
  by_cases z : 60 ≤ sn s
  · rw [if_pos (by rw [show sn s = 60 by omega]; rfl)]
    obtain ⟨σ1, m1, e1, q1⟩ := fails_r (F := F) (a := a) (c := 3) h1 (by decide)
    have m1 : m12_fails F (3 : Int32) (w32 (a : Int)) σ = _ := m1
    rw [m1, Option.bind_some]
    dsimp only
    rw [gd_pos (Or.inl rfl)]
    exact ⟨0, σ1, rfl, q1.k, by rw [if_pos z]; exact ⟨rfl, e1⟩⟩
  · rw [if_neg (by rw [wl_60, w_eq (by omega) (by omega) (by omega) (by omega)]; omega), w_succ]
    refine ⟨1, _, rfl, KL.of (gI_ne _ _ _ (by decide)), ?_⟩
    rw [if_neg z]
    refine ⟨rfl, h1.ne (by omega), ?_, gI_eq .., ?_, fun i hi => ?_⟩
    · rw [gI_nej (by decide)]; exact h2
    · rw [gI_nec (by decide)]; exact h4
    · rw [gI_nec (by decide)]; exact h5 i hi
theorem enc_num {v : Int} (h : 0 ≤ v) : (enc v : Int) = 16 * v := by
  unfold enc
  rw [if_pos h]
  omega
theorem enc_wrd {v : Int} (h1 : 0 ≤ v) (h2 : v ≤ 12) : (enc (-1 - v) : Int) = 1 + 16 * v := by
  unfold enc
  rw [if_neg (by omega), if_pos (by omega)]
  omega
theorem value_r {F : Nat} {B : Nat → Int} {L k : Nat} {s : St} {σ : Mem} (hT : Txt B L) (hF : 1000 ≤ F) (hk : k < 6) (h : SR B L k s σ) (hl : sl s ≤ sp s) (hp : sp s ≤ L) (hn : sn s ≤ 60) : ∃ y σ', m12_value F σ = some (y, σ') ∧ OS B L k (valS B L s) y σ' ∧ KL k σ σ' := by
  have hL := hT.1
  obtain ⟨σ1, m1, t1, q1⟩ := see_r (F := F) hT h.1 (by omega) hF
  have q := sk_rg (B := B) (L := L) (p := sp s)
  have S1 := h.q q1 t1
  have ess := sk_sk (B := B) (L := L) (p := sp s)
  unfold valS
  dsimp only
  generalize sk B L (sp s) = p1 at *
  unfold m12_value
  rw [m1, Option.bind_some]
  dsimp only
  rw [t1.2.2.1, isDigit_r hT t1 (by omega)]
  by_cases zd : 48 ≤ ch B L p1 ∧ ch B L p1 ≤ 57
  · have hlt : p1 < L := ch_lt (B := B) (L := L) (by omega)
    rw [if_pos zd, Option.bind_some, if_neg (by decide), if_neg (by omega)]
    obtain ⟨y, σ2, m2, q2, g2⟩ := number_r (F := F) (lo := 0) (hi := 99999) hT t1 (by omega) hF (by decide) (by decide)
    have m2 : m12_numberHere F (0 : Int32) (99999 : Int32) σ1 = _ := m2
    rw [ess] at g2
    have r2 := (rn_rg (B := B) (L := L) (p := p1) (lo := 48) (hi := 57)).1
    have r0 := rn_pos (B := B) (L := L) (p := p1) (by decide) zd.1 zd.2
    have v9 := nv_99999 (B := B) (L := L) (p := p1) (k := min (rn B L 48 57 p1) 5) (by omega) (by omega)
    rw [m2, Option.bind_some]
    dsimp only
    rw [if_neg (show ¬ rn B L 48 57 p1 = 0 by omega)]
    by_cases z5 : 5 < rn B L 48 57 p1
    · have en : nfa 0 99999 p1 (rn B L 48 57 p1) (nv B p1 (min (rn B L 48 57 p1) 5)) 0 = 1 + 8 * (p1 : Int) + 1 := by
        unfold nfa ff
        rw [if_neg (by omega), if_pos (Or.inl z5), if_pos rfl]
      rw [en, if_neg (by omega)] at g2
      rw [if_pos z5, if_pos g2.1]
      exact ⟨0, σ2, rfl, ⟨rfl, g2.2⟩, (q1.trans q2).k⟩
    · have em : min (rn B L 48 57 p1) 5 = rn B L 48 57 p1 := by omega
      rw [em] at g2 v9
      have en : nfa 0 99999 p1 (rn B L 48 57 p1) (nv B p1 (rn B L 48 57 p1)) 0 = 0 := by
        unfold nfa
        rw [if_neg (by omega), if_neg (by omega)]
      rw [if_pos en] at g2
      obtain ⟨y1, t2, n2⟩ := g2
      have S2 := S1.q q2 t2
      obtain ⟨y3, σ3, m3, k3, g3⟩ := makes_r (F := F) (a := p1) S2 hn
      have f3 := f12_makes_s m3
      have c3 : gI σ3 483 10 = w32 (nv B p1 (rn B L 48 57 p1)) := by rw [f3 10 (by unfold Vm12_makes; omega)]; exact n2
      rw [if_neg z5, if_neg (by rw [y1]; decide), m3, Option.bind_some]
      dsimp only
      by_cases z60 : 60 ≤ sn s
      · rw [if_pos (show 60 ≤ sn (to (to s p1) (p1 + rn B L 48 57 p1)) from z60)] at g3
        rw [if_pos z60, if_pos g3.1]
        exact ⟨0, σ3, rfl, ⟨rfl, g3.2⟩, (q1.trans q2).k.trans k3⟩
      · rw [if_neg (show ¬ 60 ≤ sn (to (to s p1) (p1 + rn B L 48 57 p1)) from z60)] at g3
        rw [if_neg z60, if_neg (by rw [g3.1]; decide), c3]
        obtain ⟨σ4, m4, s4, k4⟩ := puts_r (F := F) (a := 0) (b := nv B p1 (rn B L 48 57 p1)) (t := nv B p1 (rn B L 48 57 p1)) g3.2 hk (show sl s < 400 by omega) (by decide) (by omega) (by rw [enc_num v9.1]; omega)
        have m4 : m12_puts F (0 : Int32) (w32 (nv B p1 (rn B L 48 57 p1))) σ3 = _ := m4
        rw [m4, Option.bind_some]
        exact ⟨1, σ4, rfl, ⟨rfl, s4⟩, ((q1.trans q2).k.trans k3).trans k4⟩
  · rw [if_neg zd, Option.bind_some, if_pos rfl]
    obtain ⟨σ2, m2, t2, q2⟩ := wordHere_r (F := F) hT t1 (by omega) hF
    rw [ess] at m2 t2
    have w := wdx_rg (B := B) (p := p1) (n := rn B L 97 122 p1) (tws 3) 0 (by decide)
    have l3 : (tws 3).length = 13 := rfl
    have rr := (rn_rg (B := B) (L := L) (p := p1) (lo := 97) (hi := 122)).1
    rw [m2, Option.bind_some]
    dsimp only
    have bad : ¬ (0 : Int) ≤ wdx B p1 (rn B L 97 122 p1) (tws 3) 0 → ∃ y σ', (if (0 : Int32) ≤ w32 (wdx B p1 (rn B L 97 122 p1) (tws 3) 0) then Option.bind (m12_makes F (w32 (p1 : Int)) σ2) fun p4 =>
      if p4.1 = (0 : Int32) then (
        some ((0 : Int32), p4.2)
        ) else (
        Option.bind (m12_passWord F p4.2) fun p5 =>
        Option.bind (m12_puts F (1 : Int32) (w32 (wdx B p1 (rn B L 97 122 p1) (tws 3) 0)) p5) fun p6 =>
        some ((1 : Int32), p6)
        ) else Option.bind (m12_fails F (0 : Int32) (w32 (p1 : Int)) σ2) fun p7 =>
      gd (p7.1 = (0 : Int32) ∨ p7.1 = (1 : Int32)) <|
      some (p7.1, p7.2)) = some (y, σ') ∧ OS B L k (er p1 0) y σ' ∧ KL k σ σ' := by
      intro z
      rw [if_neg (by rw [wl_0, w_le (by omega) (by omega) (by omega) (by omega)]; exact z)]
      obtain ⟨σ3, m3, e3, q3⟩ := fails_r (F := F) (a := p1) (c := 0) t2 (by decide)
      have m3 : m12_fails F (0 : Int32) (w32 (p1 : Int)) σ2 = _ := m3
      rw [m3, Option.bind_some]
      dsimp only
      rw [gd_pos (Or.inl rfl)]
      exact ⟨0, σ3, rfl, ⟨rfl, e3⟩, ((q1.trans q2).trans q3).k⟩
    by_cases zl : 97 ≤ ch B L p1 ∧ ch B L p1 ≤ 122
    · have hlt : p1 < L := ch_lt (B := B) (L := L) (by omega)
      rw [if_pos zl]
      by_cases zw : wdx B p1 (rn B L 97 122 p1) (tws 3) 0 = -1
      · rw [if_pos zw]; exact bad (by omega)
      · rw [if_neg zw, if_pos (by rw [wl_0, w_le (by omega) (by omega) (by omega) (by omega)]; omega)]
        obtain ⟨y3, σ3, m3, k3, g3⟩ := makes_r (F := F) (a := p1) (S1.q q2 t2) hn
        rw [m3, Option.bind_some]
        dsimp only
        by_cases z60 : 60 ≤ sn s
        · rw [if_pos (show 60 ≤ sn (to (to s p1) p1) from z60)] at g3
          rw [if_pos z60, if_pos g3.1]
          exact ⟨0, σ3, rfl, ⟨rfl, g3.2⟩, (q1.trans q2).k.trans k3⟩
        · rw [if_neg (show ¬ 60 ≤ sn (to (to s p1) p1) from z60)] at g3
          obtain ⟨σ4, m4, t4, q4⟩ := passWord_r (F := F) hT g3.2.1 (show p1 ≤ 1000000 by omega) hF
          have S4 := g3.2.q q4 t4
          obtain ⟨σ5, m5, s5, k5⟩ := puts_r (F := F) (a := 1) (b := wdx B p1 (rn B L 97 122 p1) (tws 3) 0) (t := -1 - wdx B p1 (rn B L 97 122 p1) (tws 3) 0) S4 hk (show sl s < 400 by omega) (by decide) (by omega) (by rw [enc_wrd (by omega) (by omega)])
          have m5 : m12_puts F (1 : Int32) (w32 (wdx B p1 (rn B L 97 122 p1) (tws 3) 0)) σ4 = _ := m5
          rw [if_neg z60, if_neg (by rw [g3.1]; decide), m4, Option.bind_some, m5, Option.bind_some]
          exact ⟨1, σ5, rfl, ⟨rfl, s5⟩, (((q1.trans q2).k.trans k3).trans q4.k).trans k5⟩
    · have r0 : rn B L 97 122 p1 = 0 := rn_zero zl
      have r1 : rn B L 48 57 p1 = 0 := rn_zero zd
      have w1 : wdx B p1 (rn B L 97 122 p1) (tws 3) 0 = -1 := by rw [r0]; exact wdx_0 _ _
      rw [if_neg zl, if_pos r1]
      exact bad (by omega)
/-! sums -/
def aftT (F n : Nat) (w : Int) (σ : Mem) : Option (Int32 × Mem) := if w = 0 then m12_sum_9 F n σ else Option.bind (m12_puts F (w32 (enc w : Int)) (0 : Int32) σ) fun p3 => m12_sum_9 F n p3
def sumM (F n m : Nat) (w : Int) (σ : Mem) : Option (Int32 × Mem) := Option.bind (m12_term_9 F m σ) fun p2 => if p2.1 = (0 : Int32) then some ((0 : Int32), p2.2) else aftT F n w p2.2
theorem enc_ops : enc (-20) = 2 ∧ enc (-21) = 3 ∧ enc (-22) = 4 ∧ enc (-23) = 5 ∧ enc (-24) = 14 ∧ enc (-25) = 6 ∧ enc (-26) = 7 ∧ enc (-27) = 8 ∧ enc (-28) = 9 ∧ enc (-29) = 10 ∧ enc (-30) = 11 ∧ enc (-31) = 12 ∧ enc (-32) = 13 := by decide
theorem sgn_cs (c : Int) : (c = 43 ∧ sgn c = -20) ∨ (c = 45 ∧ sgn c = -21) ∨ (c = 42 ∧ sgn c = -22) ∨ (c = 47 ∧ sgn c = -23) ∨ (c = 37 ∧ sgn c = -24) ∨ (c ≠ 43 ∧ c ≠ 45 ∧ c ≠ 42 ∧ c ≠ 47 ∧ c ≠ 37 ∧ sgn c = 0) := by
  unfold sgn
  by_cases z1 : c = 43
  · rw [if_pos z1]; exact Or.inl ⟨z1, rfl⟩
  · rw [if_neg z1]
    by_cases z2 : c = 45
    · rw [if_pos z2]; exact Or.inr (Or.inl ⟨z2, rfl⟩)
    · rw [if_neg z2]
      by_cases z3 : c = 42
      · rw [if_pos z3]; exact Or.inr (Or.inr (Or.inl ⟨z3, rfl⟩))
      · rw [if_neg z3]
        by_cases z4 : c = 47
        · rw [if_pos z4]; exact Or.inr (Or.inr (Or.inr (Or.inl ⟨z4, rfl⟩)))
        · rw [if_neg z4]
          by_cases z5 : c = 37
          · rw [if_pos z5]; exact Or.inr (Or.inr (Or.inr (Or.inr (Or.inl ⟨z5, rfl⟩))))
          · rw [if_neg z5]; exact Or.inr (Or.inr (Or.inr (Or.inr (Or.inr ⟨z1, z2, z3, z4, z5, rfl⟩))))
theorem sumM_r {F : Nat} {B : Nat → Int} {L k : Nat} (hT : Txt B L) (hF : 1000 ≤ F) (hk : k < 6) : ∀ (d n m : Nat) (w : Int) (s : St) (σ : Mem), L - sp s < d → L - sp s < n → L - sp s < m → w = 0 ∨ w = -20 ∨ w = -21 → SR B L k s σ → sl s ≤ sp s → (w ≠ 0 → sl s < sp s) → sp s ≤ L → sn s ≤ 60 →
    ∃ y σ', sumM F n m w σ = some (y, σ') ∧ OS B L k (sumL B L d w s) y σ' ∧ KL k σ σ' := by
  have hL := hT.1
  intro d
  induction d with
  | zero => intro n m w s σ h; omega
  | succ d ih =>
    intro n m w s σ hd hn hm hw hS hl hl2 hp h60
    obtain ⟨m, rfl⟩ : ∃ q, m = q + 1 := ⟨m - 1, by omega⟩
    have q := sk_rg (B := B) (L := L) (p := sp s)
    obtain ⟨σ1, m1, t1, q1⟩ := see_r (F := F) hT hS.1 (by omega) hF
    obtain ⟨σ2, m2, t2, q2⟩ := see_r (F := F) hT t1 (by omega) hF
    rw [sk_sk] at m2 t2
    obtain ⟨σ3, m3, t3, q3⟩ := see_r (F := F) hT t2 (by omega) hF
    rw [sk_sk] at m3 t3
    have hch := ch_rg (p := sk B L (sp s)) hT
    have cs := sgn_cs (ch B L (sk B L (sp s)))
    -- a sign that binds tight
    have mul : ∀ (σa : Mem) (a : Int) (t : Int), RT B L (sk B L (sp s)) 0 σa → Qs σ σa → sgn (ch B L (sk B L (sp s))) = t → t = -22 ∨ t = -23 ∨ t = -24 → (enc t : Int) = a → 0 ≤ a ∧ a ≤ 100 → ∃ y σ', (Option.bind (m12_term_74 F (fun σ => (fun σ => m12_term_9 F m σ) σ) (w32 a) σa) fun p2 => if p2.1 = (0 : Int32) then some ((0 : Int32), p2.2) else aftT F n w p2.2) = some (y, σ') ∧ OS B L k (sumL B L (d + 1) w s) y σ' ∧ KL k σ σ' := by
      intro σa a t ta qa et ht ea ha
      have hlt : sk B L (sp s) < L := ch_lt (B := B) (L := L) (by omega)
      have Sa := (hS.q qa ta).q ((Qs.rf σa).s (j := 8) (v := w32 ((sk B L (sp s) + 1 : Nat) : Int)) (by unfold V8; omega)) (ta.at (sk B L (sp s) + 1))
      obtain ⟨y4, σ4, m4, o4, k4⟩ := value_r (F := F) hT hF hk Sa (show sl s ≤ sk B L (sp s) + 1 by omega) (show sk B L (sp s) + 1 ≤ L by omega) h60
      have ka : KL k σ (sI σa 483 8 (w32 ((sk B L (sp s) + 1 : Nat) : Int))) := (qa.s (by unfold V8; omega)).k
      unfold m12_term_74
      dsimp only
      rw [ta.2.2.1, w_succ, m4, Option.bind_some]
      dsimp only
      have esm : sumL B L (d + 1) w s = bnd (valS B L (to s (sk B L (sp s) + 1))) (fun s' => sumL B L d w (pt s' t)) := by
        show (if sgn (ch B L (sk B L (sp s))) = 0 then _ else if sgn (ch B L (sk B L (sp s))) = -20 ∨ sgn (ch B L (sk B L (sp s))) = -21 then _ else bnd (valS B L (to s (sk B L (sp s) + 1))) (fun s' => sumL B L d w (pt s' (sgn (ch B L (sk B L (sp s))))))) = _
        rw [et, if_neg (by omega), if_neg (by omega)]
      rw [esm]
      cases hv : valS B L (to (to s (sk B L (sp s))) (sk B L (sp s) + 1)) with
      | error f =>
        rw [hv] at o4
        have hv2 : valS B L (to s (sk B L (sp s) + 1)) = .error f := hv
        rw [if_pos o4.1, Option.bind_some, hv2]
        dsimp only
        rw [if_pos rfl]
        exact ⟨0, σ4, rfl, ⟨rfl, o4.2⟩, ka.trans k4⟩
      | ok s1 =>
        rw [hv] at o4
        have hv2 : valS B L (to s (sk B L (sp s) + 1)) = .ok s1 := hv
        obtain ⟨x1, -⟩ := valS_ok (s := to s (sk B L (sp s) + 1)) hT h60 hv2
        obtain ⟨a1, a2, a3, a4, a5, a6, -, -⟩ := x1
        have a1 : sk B L (sp s) + 1 < sp s1 := a1
        have a4 : sl s1 + (sk B L (sp s) + 1) ≤ sp s1 + sl s := a4
        obtain ⟨σ5, m5, s5, k5⟩ := puts_r (F := F) (a := a) (b := 0) (t := t) o4.2 hk (by omega) (by omega) (by decide) (by omega)
        have m5 : m12_puts F (w32 a) (0 : Int32) σ4 = _ := m5
        rw [if_neg (by rw [o4.1]; decide), m5, Option.bind_some, hv2]
        obtain ⟨y6, σ6, m6, o6, k6⟩ := ih n m w (pt s1 t) σ5 (show L - sp s1 < d by omega) (show L - sp s1 < n by omega) (show L - sp s1 < m by omega) hw s5 (show sl s1 + 1 ≤ sp s1 by omega) (fun zw => show sl s1 + 1 < sp s1 by have := hl2 zw; omega) a2 a6
        exact ⟨y6, σ6, m6, o6, ((ka.trans k4).trans k5).trans k6⟩
    have t36 : ∀ (σa : Mem), RT B L (sk B L (sp s)) 0 σa → Qs σ σa → (ch B L (sk B L (sp s)) = 42 ∨ ch B L (sk B L (sp s)) = 47 ∨ ch B L (sk B L (sp s)) = 37) → ∃ y σ', (Option.bind (m12_term_36 F (fun σ => m12_term_9 F m σ) σa) fun p2 => if p2.1 = (0 : Int32) then some ((0 : Int32), p2.2) else aftT F n w p2.2) = some (y, σ') ∧ OS B L k (sumL B L (d + 1) w s) y σ' ∧ KL k σ σ' := by
      intro σa ta qa hc
      have hlt : sk B L (sp s) < L := ch_lt (B := B) (L := L) (by omega)
      have eb : sb (B (sk B L (sp s))) = ch B L (sk B L (sp s)) := by
        have cs := sb_cs (B (sk B L (sp s)))
        rw [ch_eq hlt] at hc ⊢
        omega
      unfold m12_term_36
      rw [ta.2.2.1, gd_pos (w_inB (by omega) (by omega) (by omega)), gd_pos (w_inB (by omega) (by omega) (by omega)), w_natk (by omega), ta.b hT hlt, eb]
      rcases hc with hc | hc | hc
      · rw [if_pos (by rw [hc]; rfl)]
        exact mul σa 4 (-22) ta qa (by omega) (by decide) (by decide) (by decide)
      · rw [if_neg (by rw [hc]; decide), if_pos (by rw [hc]; rfl)]
        exact mul σa 5 (-23) ta qa (by omega) (by decide) (by decide) (by decide)
      · rw [if_neg (by rw [hc]; decide), if_neg (by rw [hc]; decide)]
        exact mul σa 14 (-24) ta qa (by omega) (by decide) (by decide) (by decide)
    unfold sumM m12_term_9
    rw [m1, Option.bind_some]
    dsimp only
    by_cases z42 : ch B L (sk B L (sp s)) = 42
    · rw [if_pos (by rw [z42]; rfl)]
      exact t36 σ1 t1 q1 (Or.inl z42)
    · rw [if_neg (by rw [show (42 : Int32) = w32 42 from rfl, w_eq (by omega) (by omega) (by omega) (by omega)]; exact z42), m2, Option.bind_some]
      dsimp only
      by_cases z47 : ch B L (sk B L (sp s)) = 47
      · rw [if_pos (by rw [z47]; rfl)]
        exact t36 σ2 t2 (q1.trans q2) (Or.inr (Or.inl z47))
      · rw [if_neg (by rw [wl_47, w_eq (by omega) (by omega) (by omega) (by omega)]; exact z47), m3, Option.bind_some]
        dsimp only
        by_cases z37 : ch B L (sk B L (sp s)) = 37
        · rw [if_pos (by rw [z37]; rfl)]
          exact t36 σ3 t3 ((q1.trans q2).trans q3) (Or.inr (Or.inr z37))
        · rw [if_neg (by rw [show (37 : Int32) = w32 37 from rfl, w_eq (by omega) (by omega) (by omega) (by omega)]; exact z37), Option.bind_some]
          dsimp only
          rw [if_neg (by decide)]
          have S3 := hS.q ((q1.trans q2).trans q3) t3
          have K3 : KL k σ σ3 := ((q1.trans q2).trans q3).k
          -- the waiting sign is put
          have aft : ∃ σ4, aftT F n w σ3 = m12_sum_9 F n σ4 ∧ SR B L k (pend w (to s (sk B L (sp s)))) σ4 ∧ KL k σ σ4 := by
            unfold aftT pend
            by_cases zw : w = 0
            · rw [if_pos zw, if_pos zw]; exact ⟨σ3, rfl, S3, K3⟩
            · have := hl2 zw
              have enn : (enc w : Int) ≤ 1000 := by rcases hw with rfl | rfl | rfl <;> decide
              rw [if_neg zw, if_neg zw]
              obtain ⟨σ4, m4, s4, k4⟩ := puts_r (F := F) (a := (enc w : Int)) (b := 0) (t := w) S3 hk (show sl s < 400 by omega) (by omega) (by decide) (by omega)
              have m4 : m12_puts F (w32 (enc w : Int)) (0 : Int32) σ3 = _ := m4
              rw [m4, Option.bind_some]
              exact ⟨σ4, rfl, s4, K3.trans k4⟩
          obtain ⟨σ4, m4, S4, K4⟩ := aft
          have hsp : sp (pend w (to s (sk B L (sp s)))) = sk B L (sp s) := sp_pend
          have hsl : sl (pend w (to s (sk B L (sp s)))) ≤ sp s := by
            unfold pend
            by_cases zw : w = 0
            · rw [if_pos zw]; exact hl
            · rw [if_neg zw]; exact hl2 zw
          have hsn : sn (pend w (to s (sk B L (sp s)))) ≤ 60 := by unfold pend; split <;> exact h60
          have et : ∀ q, to (pend w s) q = to (pend w (to s (sk B L (sp s)))) q := fun q => to_pend
          rw [m4]
          obtain ⟨n, rfl⟩ : ∃ q, n = q + 1 := ⟨n - 1, by omega⟩
          have RT4 : RT B L (sk B L (sp s)) 0 σ4 := by have := S4.1; rwa [hsp] at this
          obtain ⟨σ5, m5, t5, q5⟩ := see_r (F := F) hT RT4 (by omega) hF
          rw [sk_sk] at m5 t5
          obtain ⟨σ6, m6, t6, q6⟩ := see_r (F := F) hT t5 (by omega) hF
          rw [sk_sk] at m6 t6
          -- a sign that binds loose
          have add : ∀ (σa : Mem) (a : Int) (t : Int), RT B L (sk B L (sp s)) 0 σa → Qs σ4 σa → sgn (ch B L (sk B L (sp s))) = t → t = -20 ∨ t = -21 → (enc t : Int) = a → 0 ≤ a ∧ a ≤ 100 → ∃ y σ', m12_sum_46 F (fun σ => (fun σ => m12_sum_9 F n σ) σ) (w32 a) σa = some (y, σ') ∧ OS B L k (sumL B L (d + 1) w s) y σ' ∧ KL k σ σ' := by
            intro σa a t ta qa et2 ht ea ha
            have hlt : sk B L (sp s) < L := ch_lt (B := B) (L := L) (by omega)
            have Sa := (S4.q qa ta).q ((Qs.rf σa).s (j := 8) (v := w32 ((sk B L (sp s) + 1 : Nat) : Int)) (by unfold V8; omega)) (ta.at (sk B L (sp s) + 1))
            have ka : KL k σ (sI σa 483 8 (w32 ((sk B L (sp s) + 1 : Nat) : Int))) := K4.trans ((qa.s (by unfold V8; omega)).k)
            obtain ⟨y7, σ7, m7, o7, k7⟩ := value_r (F := F) hT hF hk Sa (show sl (pend w (to s (sk B L (sp s)))) ≤ sk B L (sp s) + 1 by omega) (show sk B L (sp s) + 1 ≤ L by omega) hsn
            have esm : sumL B L (d + 1) w s = bnd (valS B L (to (pend w (to s (sk B L (sp s)))) (sk B L (sp s) + 1))) (sumL B L d t) := by
              rw [← et]
              show (if sgn (ch B L (sk B L (sp s))) = 0 then _ else if sgn (ch B L (sk B L (sp s))) = -20 ∨ sgn (ch B L (sk B L (sp s))) = -21 then bnd (valS B L (to (pend w s) (sk B L (sp s) + 1))) (sumL B L d (sgn (ch B L (sk B L (sp s))))) else _) = _
              rw [et2, if_neg (by omega), if_pos ht]
            unfold m12_sum_46 m12_term
            dsimp only
            rw [ta.2.2.1, w_succ, m7, Option.bind_some, esm]
            dsimp only
            cases hv : valS B L (to (to (pend w (to s (sk B L (sp s)))) (sk B L (sp s))) (sk B L (sp s) + 1)) with
            | error f =>
              rw [hv] at o7
              have hv2 : valS B L (to (pend w (to s (sk B L (sp s)))) (sk B L (sp s) + 1)) = .error f := hv
              rw [if_pos o7.1, Option.bind_some, hv2]
              dsimp only
              rw [if_pos rfl]
              exact ⟨0, σ7, rfl, ⟨rfl, o7.2⟩, ka.trans k7⟩
            | ok s1 =>
              rw [hv] at o7
              have hv2 : valS B L (to (pend w (to s (sk B L (sp s)))) (sk B L (sp s) + 1)) = .ok s1 := hv
              obtain ⟨x1, -⟩ := valS_ok (s := to (pend w (to s (sk B L (sp s)))) (sk B L (sp s) + 1)) hT hsn hv2
              obtain ⟨a1, a2, a3, a4, a5, a6, -, -⟩ := x1
              have a1 : sk B L (sp s) + 1 < sp s1 := a1
              have a4 : sl s1 + (sk B L (sp s) + 1) ≤ sp s1 + sl (pend w (to s (sk B L (sp s)))) := a4
              rw [if_neg (by rw [o7.1]; decide), hv2]
              obtain ⟨y8, σ8, m8, o8, k8⟩ := ih n F t s1 σ7 (by omega) (by omega) (by omega) (by omega) o7.2 (by omega) (fun _ => by omega) a2 a6
              have em : sumM F n F t σ7 = Option.bind (m12_term_9 F F σ7) fun p2 => if p2.1 = (0 : Int32) then some ((0 : Int32), p2.2) else Option.bind (m12_puts F (w32 a) (0 : Int32) p2.2) fun p3 => m12_sum_9 F n p3 := by
                have ha : aftT F n t = fun σ => Option.bind (m12_puts F (w32 a) (0 : Int32) σ) fun p3 => m12_sum_9 F n p3 := by
                  funext σ
                  unfold aftT
                  rw [if_neg (show ¬ t = 0 by omega), ea]
                unfold sumM
                rw [ha]
              rw [em] at m8
              exact ⟨y8, σ8, m8, o8, (ka.trans k7).trans k8⟩
          have t27 : ∀ (σa : Mem), RT B L (sk B L (sp s)) 0 σa → Qs σ4 σa → (ch B L (sk B L (sp s)) = 43 ∨ ch B L (sk B L (sp s)) = 45) → ∃ y σ', m12_sum_27 F (fun σ => m12_sum_9 F n σ) σa = some (y, σ') ∧ OS B L k (sumL B L (d + 1) w s) y σ' ∧ KL k σ σ' := by
            intro σa ta qa hc
            have hlt : sk B L (sp s) < L := ch_lt (B := B) (L := L) (by omega)
            have eb : sb (B (sk B L (sp s))) = ch B L (sk B L (sp s)) := by
              have cs := sb_cs (B (sk B L (sp s)))
              rw [ch_eq hlt] at hc ⊢
              omega
            unfold m12_sum_27
            rw [ta.2.2.1, gd_pos (w_inB (by omega) (by omega) (by omega)), w_natk (by omega), ta.b hT hlt, eb]
            rcases hc with hc | hc
            · rw [if_pos (by rw [hc]; rfl)]
              exact add σa 2 (-20) ta qa (by omega) (by decide) (by decide) (by decide)
            · rw [if_neg (by rw [hc]; decide)]
              exact add σa 3 (-21) ta qa (by omega) (by decide) (by decide) (by decide)
          unfold m12_sum_9
          rw [m5, Option.bind_some]
          dsimp only
          by_cases z43 : ch B L (sk B L (sp s)) = 43
          · rw [if_pos (by rw [z43]; rfl)]
            exact t27 σ5 t5 q5 (Or.inl z43)
          · rw [if_neg (by rw [show (43 : Int32) = w32 43 from rfl, w_eq (by omega) (by omega) (by omega) (by omega)]; exact z43), m6, Option.bind_some]
            dsimp only
            by_cases z45 : ch B L (sk B L (sp s)) = 45
            · rw [if_pos (by rw [z45]; rfl)]
              exact t27 σ6 t6 (q5.trans q6) (Or.inr z45)
            · rw [if_neg (by rw [show (45 : Int32) = w32 45 from rfl, w_eq (by omega) (by omega) (by omega) (by omega)]; exact z45)]
              refine ⟨1, σ6, rfl, ?_, K4.trans (q5.trans q6).k⟩
              unfold sumL
              dsimp only
              rw [if_pos (by omega)]
              have S6 := S4.q (q5.trans q6) t6
              have e9 : to (pend w (to s (sk B L (sp s)))) (sk B L (sp s)) = pend w (to s (sk B L (sp s))) := by unfold pend; split <;> rfl
              rw [e9] at S6
              exact ⟨rfl, S6⟩
theorem sum_r {F : Nat} {B : Nat → Int} {L k : Nat} {s : St} {σ : Mem} (hT : Txt B L) (hF : 1000 ≤ F) (hk : k < 6) (h : SR B L k s σ) (hl : sl s ≤ sp s) (hp : sp s ≤ L) (hn : sn s ≤ 60) : ∃ y σ', m12_sum F σ = some (y, σ') ∧ OS B L k (sumS B L s) y σ' ∧ KL k σ σ' := by
  have hL := hT.1
  obtain ⟨y1, σ1, m1, o1, k1⟩ := value_r (F := F) hT hF hk h hl hp hn
  unfold m12_sum m12_term sumS
  rw [m1, Option.bind_some]
  dsimp only
  cases hv : valS B L s with
  | error f =>
    rw [hv] at o1
    rw [if_pos o1.1, Option.bind_some]
    dsimp only
    rw [if_pos rfl]
    exact ⟨0, σ1, rfl, ⟨rfl, o1.2⟩, k1⟩
  | ok s1 =>
    rw [hv] at o1
    obtain ⟨x1, -⟩ := valS_ok hT hn hv
    obtain ⟨a1, a2, a3, a4, a5, a6, -, -⟩ := x1
    rw [if_neg (by rw [o1.1]; decide)]
    obtain ⟨y2, σ2, m2, o2, k2⟩ := sumM_r (F := F) hT hF hk 401 F F 0 s1 σ1 (by omega) (by omega) (by omega) (Or.inl rfl) o1.2 (by omega) (fun z => absurd rfl z) a2 a6
    have em : sumM F F F 0 σ1 = Option.bind (m12_term_9 F F σ1) fun p1 => if p1.1 = (0 : Int32) then some ((0 : Int32), p1.2) else m12_sum_9 F F p1.2 := by
      have ha : aftT F F 0 = fun σ => m12_sum_9 F F σ := by
        funext σ
        unfold aftT
        rw [if_pos rfl]
      unfold sumM
      rw [ha]
    rw [em] at m2
    exact ⟨y2, σ2, m2, o2, k1.trans k2⟩
theorem cmpM_r {F : Nat} {B : Nat → Int} {L k : Nat} {s : St} {σ : Mem} (hT : Txt B L) (hF : 1000 ≤ F) (hk : k < 6) (h : SR B L k s σ) (hl : sl s ≤ sp s) (hp : sp s ≤ L) (hn : sn s ≤ 60) : ∃ y σ', m12_compare F σ = some (y, σ') ∧ OS B L k (cmpS B L s) y σ' ∧ KL k σ σ' := by
  have hL := hT.1
  obtain ⟨y1, σ1, m1, o1, k1⟩ := sum_r (F := F) hT hF hk h hl hp hn
  unfold m12_compare cmpS
  rw [m1, Option.bind_some]
  dsimp only
  cases hv : sumS B L s with
  | error f =>
    rw [hv] at o1
    rw [if_pos o1.1]
    exact ⟨0, σ1, rfl, ⟨rfl, o1.2⟩, k1⟩
  | ok s1 =>
    rw [hv] at o1
    obtain ⟨x1, -⟩ := sumS_ok hT hn hv
    obtain ⟨a1, a2, a3, a4, a5, a6, -, -⟩ := x1
    have q := sk_rg (B := B) (L := L) (p := sp s1)
    obtain ⟨σ2, m2, t2, q2⟩ := see_r (F := F) hT o1.2.1 (by omega) hF
    have hch := ch_rg (p := sk B L (sp s1)) hT
    have S2 := o1.2.q q2 t2
    rw [if_neg (by rw [o1.1]; decide), m2, Option.bind_some]
    dsimp only [bnd]
    have go : (ch B L (sk B L (sp s1)) = 60 ∨ ch B L (sk B L (sp s1)) = 61 ∨ ch B L (sk B L (sp s1)) = 62) → ∃ y σ', m12_compare_44 F (w32 (ch B L (sk B L (sp s1)))) (gI σ2 483 8) σ2 = some (y, σ') ∧ OS B L k (if 60 ≤ sn s1 then er (sk B L (sp s1)) 3 else bnd (sumS B L (mk (to s1 (if (decide (ch B L (sk B L (sp s1)) ≠ 61) && decide (ch B L (sk B L (sp s1) + 1) = 61)) = true then sk B L (sp s1) + 2 else sk B L (sp s1) + 1)))) fun s2 => .ok (pt s2 (sgc (ch B L (sk B L (sp s1))) (decide (ch B L (sk B L (sp s1)) ≠ 61) && decide (ch B L (sk B L (sp s1) + 1) = 61))))) y σ' ∧ KL k σ σ' := by
      intro hc
      have hlt : sk B L (sp s1) < L := ch_lt (B := B) (L := L) (by omega)
      have t3 := t2.at (sk B L (sp s1) + 1)
      have q3 : Qs σ2 (sI σ2 483 8 (w32 ((sk B L (sp s1) + 1 : Nat) : Int))) := (Qs.rf σ2).s (by unfold V8; omega)
      have S3 := S2.q q3 t3
      -- behind the sign
      have c105 : ∀ (al : Bool) (x3 : Int32) (σ4 : Mem) (pq : Nat), SR B L k (to s1 pq) σ4 → KL k σ σ4 → sk B L (sp s1) + 1 ≤ pq → pq ≤ L → (al = true → ch B L (sk B L (sp s1)) ≠ 61) → x3 = (if al = true then 1 else 0) → ∃ y σ', m12_compare_105 F (w32 (ch B L (sk B L (sp s1)))) (w32 (sk B L (sp s1) : Int)) x3 σ4 = some (y, σ') ∧ OS B L k (if 60 ≤ sn s1 then er (sk B L (sp s1)) 3 else bnd (sumS B L (mk (to s1 pq))) fun s2 => .ok (pt s2 (sgc (ch B L (sk B L (sp s1))) al))) y σ' ∧ KL k σ σ' := by
        intro al x3 σ4 pq S4 K4 hp1 hp2 hal hx3
        obtain ⟨y5, σ5, m5, k5, g5⟩ := makes_r (F := F) (a := sk B L (sp s1)) S4 a6
        unfold m12_compare_105
        rw [m5, Option.bind_some]
        dsimp only
        by_cases z60 : 60 ≤ sn s1
        · rw [if_pos (show 60 ≤ sn (to s1 pq) from z60)] at g5
          rw [if_pos g5.1, if_pos z60]
          exact ⟨0, σ5, rfl, ⟨rfl, g5.2⟩, K4.trans k5⟩
        · rw [if_neg (show ¬ 60 ≤ sn (to s1 pq) from z60)] at g5
          rw [if_neg (by rw [g5.1]; decide), if_neg z60]
          have fin : ∀ a : Int, (6 : Int) + a = (enc (sgc (ch B L (sk B L (sp s1))) al) : Int) → 0 ≤ a ∧ a ≤ 10 → ∃ y σ', m12_compare_152 F (w32 a) σ5 = some (y, σ') ∧ OS B L k (bnd (sumS B L (mk (to s1 pq))) fun s2 => .ok (pt s2 (sgc (ch B L (sk B L (sp s1))) al))) y σ' ∧ KL k σ σ' := by
            intro a ea ha
            obtain ⟨y6, σ6, m6, o6, k6⟩ := sum_r (F := F) hT hF hk g5.2 (show sl s1 ≤ pq by omega) hp2 (show sn s1 + 1 ≤ 60 by omega)
            unfold m12_compare_152
            rw [m6, Option.bind_some]
            dsimp only
            cases hw : sumS B L (mk (to s1 pq)) with
            | error f =>
              rw [hw] at o6
              rw [if_pos o6.1]
              exact ⟨0, σ6, rfl, ⟨rfl, o6.2⟩, (K4.trans k5).trans k6⟩
            | ok s2 =>
              rw [hw] at o6
              obtain ⟨y1, -⟩ := sumS_ok (s := mk (to s1 pq)) hT (show sn s1 + 1 ≤ 60 by omega) hw
              obtain ⟨c1, c2, c3, c4, -⟩ := y1
              have c1 : pq < sp s2 := c1
              have c4 : sl s2 + pq ≤ sp s2 + sl s1 := c4
              obtain ⟨σ7, m7, s7, k7⟩ := puts_r (F := F) (a := 6 + a) (b := 0) (t := sgc (ch B L (sk B L (sp s1))) al) o6.2 hk (by omega) (by omega) (by decide) (by omega)
              have m7 : m12_puts F (w32 (6 + a)) (0 : Int32) σ6 = _ := m7
              rw [if_neg (by rw [o6.1]; decide), wl_6, w_add, m7, Option.bind_some]
              exact ⟨1, σ7, rfl, ⟨rfl, s7⟩, ((K4.trans k5).trans k6).trans k7⟩
          rcases hc with hc | hc | hc
          · rw [if_pos (by rw [hc]; rfl)]
            cases al with
            | true =>
              rw [if_neg (by rw [hx3]; decide)]
              exact fin 1 (by rw [hc]; decide) (by decide)
            | false =>
              rw [if_pos (by rw [hx3]; rfl)]
              exact fin 0 (by rw [hc]; decide) (by decide)
          · rw [if_neg (by rw [hc]; decide), if_pos (by rw [hc]; rfl)]
            cases al with
            | true => exact absurd hc (hal rfl)
            | false => exact fin 2 (by rw [hc]; decide) (by decide)
          · rw [if_neg (by rw [hc]; decide), if_neg (by rw [hc]; decide)]
            cases al with
            | true =>
              rw [if_neg (by rw [hx3]; decide)]
              exact fin 3 (by rw [hc]; decide) (by decide)
            | false =>
              rw [if_pos (by rw [hx3]; rfl)]
              exact fin 4 (by rw [hc]; decide) (by decide)
      have K3 : KL k σ (sI σ2 483 8 (w32 ((sk B L (sp s1) + 1 : Nat) : Int))) := k1.trans (q2.trans q3).k
      have no : ∃ y σ', m12_compare_90 F (w32 (ch B L (sk B L (sp s1)))) (w32 (sk B L (sp s1) : Int)) (0 : Int32) (sI σ2 483 8 (w32 ((sk B L (sp s1) + 1 : Nat) : Int))) = some (y, σ') ∧ OS B L k (if 60 ≤ sn s1 then er (sk B L (sp s1)) 3 else bnd (sumS B L (mk (to s1 (sk B L (sp s1) + 1)))) fun s2 => .ok (pt s2 (sgc (ch B L (sk B L (sp s1))) false))) y σ' ∧ KL k σ σ' := by
        unfold m12_compare_90
        rw [if_pos rfl]
        exact c105 false 0 _ _ S3 K3 (Nat.le_refl _) hlt (fun z => by cases z) rfl
      unfold m12_compare_44
      dsimp only
      rw [t2.2.2.1, w_succ]
      by_cases z61 : ch B L (sk B L (sp s1)) = 61
      · have ea : (decide (ch B L (sk B L (sp s1)) ≠ 61) && decide (ch B L (sk B L (sp s1) + 1) = 61)) = false := by rw [decide_eq_false (not_not_intro z61), Bool.false_and]
        rw [if_pos (by rw [z61]; rfl), ea, if_neg (show ¬ false = true by decide)]
        exact no
      · rw [if_neg (by rw [show (61 : Int32) = w32 61 from rfl, w_eq (by omega) (by omega) (by omega) (by omega)]; exact z61), t3.1, t3.2.2.1]
        by_cases z2 : sk B L (sp s1) + 1 < L
        · have cs2 := sb_cs (B (sk B L (sp s1) + 1))
          have b2 := hT.2 (sk B L (sp s1) + 1) z2
          rw [if_neg (by rw [w_le (by omega) (by omega) (by omega) (by omega)]; omega), gd_pos (w_inB (by omega) (by omega) (by omega)), w_natk (by omega), t3.b hT z2]
          by_cases z3 : ch B L (sk B L (sp s1) + 1) = 61
          · have ea : (decide (ch B L (sk B L (sp s1)) ≠ 61) && decide (ch B L (sk B L (sp s1) + 1) = 61)) = true := by rw [decide_eq_true z61, decide_eq_true z3]; rfl
            rw [ea, if_pos rfl]
            rw [ch_eq z2] at z3
            rw [if_pos (by rw [show sb (B (sk B L (sp s1) + 1)) = 61 by omega]; rfl)]
            unfold m12_compare_90
            rw [if_neg (by decide)]
            dsimp only
            rw [t3.2.2.1, w_succ]
            have q5 : Qs (sI σ2 483 8 (w32 ((sk B L (sp s1) + 1 : Nat) : Int))) (sI (sI σ2 483 8 (w32 ((sk B L (sp s1) + 1 : Nat) : Int))) 483 8 (w32 ((sk B L (sp s1) + 1 + 1 : Nat) : Int))) := (Qs.rf _).s (by unfold V8; omega)
            exact c105 true 1 _ (sk B L (sp s1) + 1 + 1) (S3.q q5 (t3.at _)) (K3.trans q5.k) (by omega) (by omega) (fun _ => z61) rfl
          · have ea : (decide (ch B L (sk B L (sp s1)) ≠ 61) && decide (ch B L (sk B L (sp s1) + 1) = 61)) = false := by rw [decide_eq_false z3, Bool.and_false]
            rw [ea, if_neg (show ¬ false = true by decide)]
            rw [ch_eq z2] at z3
            rw [if_neg (by rw [show (61 : Int32) = w32 61 from rfl, w_eq (by omega) (by omega) (by omega) (by omega)]; omega)]
            exact no
        · have e1 : ch B L (sk B L (sp s1) + 1) = -1 := if_neg z2
          have ea : (decide (ch B L (sk B L (sp s1)) ≠ 61) && decide (ch B L (sk B L (sp s1) + 1) = 61)) = false := by rw [e1, show decide ((-1 : Int) = 61) = false from rfl, Bool.and_false]
          rw [if_pos (by rw [w_le (by omega) (by omega) (by omega) (by omega)]; omega), ea, if_neg (show ¬ false = true by decide)]
          exact no
    by_cases z1 : ch B L (sk B L (sp s1)) = 60
    · rw [if_pos (by rw [z1]; rfl), if_pos (Or.inl z1)]; exact go (Or.inl z1)
    · rw [if_neg (by rw [show (60 : Int32) = w32 60 from rfl, w_eq (by omega) (by omega) (by omega) (by omega)]; exact z1)]
      by_cases z2 : ch B L (sk B L (sp s1)) = 61
      · rw [if_pos (by rw [z2]; rfl), if_pos (Or.inr (Or.inl z2))]; exact go (Or.inr (Or.inl z2))
      · rw [if_neg (by rw [show (61 : Int32) = w32 61 from rfl, w_eq (by omega) (by omega) (by omega) (by omega)]; exact z2)]
        by_cases z3 : ch B L (sk B L (sp s1)) = 62
        · rw [if_pos (by rw [z3]; rfl), if_pos (Or.inr (Or.inr z3))]; exact go (Or.inr (Or.inr z3))
        · rw [if_neg (by rw [show (62 : Int32) = w32 62 from rfl, w_eq (by omega) (by omega) (by omega) (by omega)]; exact z3), if_neg (by omega), t2.2.2.1]
          obtain ⟨σ3, m3, e3, q3⟩ := fails_r (F := F) (a := sk B L (sp s1)) (c := 0) t2 (by decide)
          have m3 : m12_fails F (0 : Int32) (w32 (sk B L (sp s1) : Int)) σ2 = _ := m3
          rw [m3, Option.bind_some]
          dsimp only
          rw [gd_pos (Or.inl rfl)]
          exact ⟨0, σ3, rfl, ⟨rfl, e3⟩, k1.trans (q2.trans q3).k⟩
