/-! TEXTS, 15: the reference reads a whole SMITHY -/
def kSmithy : List Int := [115, 109, 105, 116, 104, 121]
def kSmith : List Int := [115, 109, 105, 116, 104]
def kJob : List Int := [106, 111, 98]
def kPart : List Int := [112, 97, 114, 116]
def V14 (j : Nat) : Prop := V8 j ∨ j = 14
def Frs (σ σ' : Mem) : Prop := Fr (fun c => c = 483 ∨ c = 489) σ σ' ∧ Sl V14 σ σ'
theorem Frs.trans {σ σ1 σ2 : Mem} (h : Frs σ σ1) (g : Frs σ1 σ2) : Frs σ σ2 := ⟨h.1.trans g.1, h.2.trans g.2⟩
theorem Frq.s14 {σ σ1 : Mem} (h : Frq σ σ1) : Frs σ σ1 := ⟨h.1, h.2.mono (fun j z => Or.inl z)⟩
theorem smK_dc {B : Nat → Int} {L i p : Nat} {P : Dat} (h : DC P) : DC (smK B L i p P).2.2 := by
  obtain ⟨c1, c2, c3, c4⟩ := id h
  unfold smK
  dsimp only
  generalize wdx B (sk B L p) (rn B L 97 122 (sk B L p)) (tws 0) 0 = k
  generalize sk B L p + rn B L 97 122 (sk B L p) = p1
  split
  · exact h
  · split
    · exact h
    · rename_i h1 h2
      split
      · exact dc_u (dc_u (dc_u h (Or.inr (by decide))) (Or.inr (by decide))) (Or.inr (by decide))
      · split
        · exact dc_4 (dc_u h (Or.inl (by decide))) (by omega) (by omega)
        · split
          · unfold smJ
            dsimp only
            split
            · exact dc_u h (Or.inl (by decide))
            · exact dc_5 (dc_u (dc_u (dc_u (dc_u (dc_u (dc_u h (Or.inl (by decide))) (Or.inl (by decide))) (Or.inl (by decide))) (Or.inl (by decide))) (Or.inl (by decide))) (Or.inl (by decide))) (by omega) (by omega)
          · exact dc_u h (Or.inl (by decide))
theorem smK_dp {B : Nat → Int} {L i p : Nat} {P : Dat} (hT : Txt B L) (h : DP P) (hC : DC P) : DP (smK B L i p P).2.2 := by
  obtain ⟨c1, c2, c3, c4⟩ := hC
  have w1 := fun q : Nat => wdx_rg (B := B) (p := q) (n := rn B L 97 122 q) (tws 1) 0 (by decide)
  have l1 : (tws 1).length = 4 := rfl
  have R := fun (lo hi f : Int) (q : Nat) => nmR_rg (B := B) (L := L) (p := q) (lo := lo) (hi := hi) (f := f) hT
  unfold smK
  dsimp only
  generalize wdx B (sk B L p) (rn B L 97 122 (sk B L p)) (tws 0) 0 = k
  generalize sk B L p + rn B L 97 122 (sk B L p) = p1
  split
  · exact h
  · split
    · exact h
    · split
      · have r1 := R 1 9 0 p1
        have r2 := R 20 99 (nmF B L 1 9 p1 0) (nmP B L p1)
        have r3 := R 1 999 (nmF B L 20 99 (nmP B L p1) (nmF B L 1 9 p1 0)) (nmP B L (nmP B L p1))
        exact ((h.up (by omega) (by omega) (fun z => by omega)).up (by omega) (by omega) (fun z => by omega)).up (by omega) (by omega) (fun z => by omega)
      · split
        · have r1 := R 1 20 0 p1
          exact (h.up (by omega) (by omega) (fun z => by omega)).up (by omega) (by omega) (fun z => by omega)
        · split
          · unfold smJ
            dsimp only
            have r1 := R 0 (P 0 4 - 1) 0 p1
            have hh : DP (up P 2 (P 0 5).toNat (nmR B L 0 (P 0 4 - 1) p1 0)) := h.up (by omega) (by omega) (fun z => by omega)
            have w2 := w1 (sk B L (nmP B L p1))
            generalize wdx B (sk B L (nmP B L p1)) (rn B L 97 122 (sk B L (nmP B L p1))) (tws 1) 0 = w at *
            generalize sk B L (nmP B L p1) + rn B L 97 122 (sk B L (nmP B L p1)) = p3
            split
            · exact hh
            · rename_i zw
              have r2 := R 1 30 (nmF B L 0 (P 0 4 - 1) p1 0) p3
              have r3 := R 1 50 (nmF B L 1 30 p3 (nmF B L 0 (P 0 4 - 1) p1 0)) (nmP B L p3)
              have r4 := R 0 50 (nmF B L 1 50 (nmP B L p3) (nmF B L 1 30 p3 (nmF B L 0 (P 0 4 - 1) p1 0))) (nmP B L (nmP B L p3))
              have hb : 0 ≤ (if w = 3 then (3 : Int) else if w = 2 then 4 else if w = 1 then 2 else 1) ∧ (if w = 3 then (3 : Int) else if w = 2 then 4 else if w = 1 then 2 else 1) ≤ 10 := by
                split
                · decide
                · split
                  · decide
                  · split <;> decide
              generalize (if w = 3 then (3 : Int) else if w = 2 then 4 else if w = 1 then 2 else 1) = bb at *
              exact (((((hh.up (by omega) (by omega) (fun _ => by omega)).up (by omega) (by omega) (fun z => by omega)).up (by omega) (by omega) (fun z => by omega)).up (by omega) (by omega) (fun z => by omega)).up (by omega) (by omega) (fun z => by omega)).up (by omega) (by omega) (fun z => by omega)
          · have r1 := R 0 2 0 p1
            have r2 := R 0 999 (nmF B L 0 2 p1 0) (nmP B L p1)
            exact h.up (by omega) (by omega) (fun z => by omega)
def kdW (B : Nat → Int) (L q : Nat) : Int := wdx B q (rn B L 97 122 q) (tws 0) 0
theorem smK_m1 {B : Nat → Int} {L i p : Nat} {P : Dat} (h : kdW B L (sk B L p) = -1) : (smK B L i p P).2.1 = ff 0 (sk B L p) 0 := by
  unfold kdW at h
  unfold smK
  dsimp only
  rw [if_pos h]
theorem smK_4 {B : Nat → Int} {L i p : Nat} {P : Dat} {k : Int} (h : kdW B L (sk B L p) = k) (h1 : k ≠ -1) (h2 : 40 ≤ i ∨ (k = 1 ∧ 3 ≤ P 0 4) ∨ (k = 2 ∧ 8 ≤ P 0 5) ∨ ¬ (k = 0 ↔ i = 0)) : (smK B L i p P).2.1 = ff 0 (sk B L p) 4 := by
  unfold kdW at h
  unfold smK
  dsimp only
  rw [h, if_neg h1, if_pos h2]
theorem smK_0 {B : Nat → Int} {L p p1 : Nat} {P : Dat} (h : kdW B L (sk B L p) = 0) (hp1 : p1 = sk B L p + rn B L 97 122 (sk B L p)) : smK B L 0 p P = (nmP B L (nmP B L (nmP B L p1)), nmF B L 1 999 (nmP B L (nmP B L p1)) (nmF B L 20 99 (nmP B L p1) (nmF B L 1 9 p1 0)), up (up (up P 0 1 (nmR B L 1 9 p1 0)) 0 2 (nmR B L 20 99 (nmP B L p1) (nmF B L 1 9 p1 0))) 0 3 (nmR B L 1 999 (nmP B L (nmP B L p1)) (nmF B L 20 99 (nmP B L p1) (nmF B L 1 9 p1 0)))) := by
  unfold kdW at h
  unfold smK
  dsimp only
  rw [h, ← hp1, if_neg (by decide), if_neg (by omega), if_pos rfl]
theorem smK_1 {B : Nat → Int} {L i p p1 : Nat} {P : Dat} (h : kdW B L (sk B L p) = 1) (hi : 0 < i) (h40 : i < 40) (h3 : P 0 4 < 3) (hp1 : p1 = sk B L p + rn B L 97 122 (sk B L p)) : smK B L i p P = (nmP B L p1, nmF B L 1 20 p1 0, up (up P 1 (P 0 4).toNat (nmR B L 1 20 p1 0)) 0 4 (P 0 4 + 1)) := by
  unfold kdW at h
  unfold smK
  dsimp only
  rw [h, ← hp1, if_neg (by decide), if_neg (by omega), if_neg (by decide), if_pos rfl]
theorem smK_2 {B : Nat → Int} {L i p p1 : Nat} {P : Dat} (h : kdW B L (sk B L p) = 2) (hi : 0 < i) (h40 : i < 40) (h8 : P 0 5 < 8) (hp1 : p1 = sk B L p + rn B L 97 122 (sk B L p)) : smK B L i p P = smJ B L p1 P := by
  unfold kdW at h
  unfold smK
  dsimp only
  rw [h, ← hp1, if_neg (by decide), if_neg (by omega), if_neg (by decide), if_neg (by decide), if_pos rfl]
theorem smK_3 {B : Nat → Int} {L i p p1 : Nat} {P : Dat} (h : kdW B L (sk B L p) = 3) (hi : 0 < i) (h40 : i < 40) (hp1 : p1 = sk B L p + rn B L 97 122 (sk B L p)) : smK B L i p P = (nmP B L (nmP B L p1), nmF B L 0 999 (nmP B L p1) (nmF B L 0 2 p1 0), up P 8 (nmR B L 0 2 p1 0).toNat (nmR B L 0 999 (nmP B L p1) (nmF B L 0 2 p1 0))) := by
  unfold kdW at h
  unfold smK
  dsimp only
  rw [h, ← hp1, if_neg (by decide), if_neg (by omega), if_neg (by decide), if_neg (by decide), if_neg (by decide)]
theorem fail3_r {F : Nat} {B : Nat → Int} {L i q : Nat} {z : Tq} {c : Int} {σ : Mem} (hc : 0 ≤ c) (h : RT B L q 0 σ) (hz : z.2.1 = ff 0 q c) : ∃ σ', m12_fails F (w32 c) (w32 (q : Int)) σ = some (0, σ') ∧ Qs σ σ' ∧ OK3 B L i z 0 σ' := by
  obtain ⟨σ3, m3, e3, q3⟩ := fails_r (F := F) (a := q) (c := c) h hc
  have eff : ff 0 q c = 1 + 8 * (q : Int) + c := if_pos rfl
  exact ⟨σ3, m3, q3, ok3_bad (hz.trans eff) (by omega) ⟨rfl, e3⟩⟩
theorem ok3_01 {B : Nat → Int} {L i : Nat} {z : Tq} {y : Int32} {σ : Mem} (o : OK3 B L i z y σ) : y = 0 ∨ y = 1 := by
  unfold OK3 at o
  split at o
  · exact Or.inr o.1
  · exact Or.inl o.1
theorem word3 {F : Nat} {B : Nat → Int} {L q : Nat} {f : Int} {σ : Mem} (hT : Txt B L) (hF : 1000 ≤ F) (h : RT B L q f σ) (hq : q ≤ 500) (hs : sk B L q = q) (w : List Int) (J : Int64) (h1 : J = Int64.ofInt (pkf (fun k => w.getD k 0) w.length)) (h2 : w.length < 8) (h3 : ∀ k, k < w.length → 97 ≤ w.getD k 0 ∧ w.getD k 0 ≤ 122) : ∃ σ', m12_isWord F J σ = some (if isK B L w q = true then 1 else 0, σ') ∧ RT B L q f σ' ∧ Qs σ σ' := by
  obtain ⟨σ', m, t, g⟩ := isWord_r (F := F) hT h (by omega) hF w J h1 h2 h3
  rw [hs] at m t
  exact ⟨σ', m, t, g⟩
theorem line_r {F : Nat} {B : Nat → Int} {L i p q : Nat} {P : Dat} {σ : Mem} {k : Int} (hT : Txt B L) (hF : 1000 ≤ F) (h : RT B L q 0 σ) (hq : q = sk B L p) (hq1 : q ≤ 500) (hq2 : q + rn B L 97 122 q ≤ 500) (hi : i < 40) (hC : DC P) (hD : DP P) (hW : SW i P) (hR : RQ i P (gI σ 489)) (hk : kdW B L q = k) (hk0 : 0 ≤ k) (j0 : isK B L kSmithy q = true ↔ k = 0) (j1 : ¬ k = 0 → (isK B L kSmith q = true ↔ k = 1)) (j2 : ¬ k = 0 → ¬ k = 1 → (isK B L kJob q = true ↔ k = 2)) (hk3 : k ≤ 3) : ∃ y σ', m12_smithyLineHere F (w32 (q : Int)) σ = some (y, σ') ∧ Frq σ σ' ∧ OK3 B L i (smK B L i p P) y σ' := by
  have ess : sk B L q = q := by rw [hq]; exact sk_sk
  obtain ⟨dc1, dc2, dc3, dc4⟩ := id hC
  have hB := hD.1 0 1
  rw [hq] at hk
  obtain ⟨σ2, m2, t2, q2⟩ := word3 (F := F) hT hF h hq1 ess kSmithy 126913757866105 (by decide) (by decide) (by decide)
  have r2 : RQ i P (gI σ2 489) := by rw [q2.c (by decide)]; exact hR
  obtain ⟨b1, b2, b3, b4, -⟩ := id r2
  have f4 : ∀ σa : Mem, RT B L q 0 σa → Qs σ σa → (smK B L i p P).2.1 = ff 0 q 4 → ∃ y σ', (Option.bind (m12_fails F (4 : Int32) (w32 (q : Int)) σa) fun p1 => gd (p1.1 = (0 : Int32) ∨ p1.1 = (1 : Int32)) <| some (p1.1, p1.2)) = some (y, σ') ∧ Frq σ σ' ∧ OK3 B L i (smK B L i p P) y σ' := by
    intro σa ta qa hz
    obtain ⟨σ3, hh⟩ := fail3_r (F := F) (i := i) (c := 4) (by decide) ta hz
    have m3 : m12_fails F (4 : Int32) (w32 (q : Int)) σa = _ := hh.1
    rw [m3, Option.bind_some]
    dsimp only
    rw [gd_pos (Or.inl rfl)]
    exact ⟨0, σ3, rfl, (qa.trans hh.2.1).q, hh.2.2⟩
  unfold m12_smithyLineHere
  rw [m2, Option.bind_some]
  dsimp only
  by_cases k0 : k = 0
  · rw [if_pos (j0.mpr k0), if_neg (by decide)]
    by_cases i0 : i = 0
    · subst i0
      rw [smK_0 (hk.trans k0) rfl]
      obtain ⟨y, σ', hh⟩ := smithyHere_r (F := F) (q := q) (p1 := sk B L p + rn B L 97 122 (sk B L p)) hT hF t2 (by omega) (by rw [hq]) (by rw [← hq]; omega) r2 (w32 (q : Int))
      rw [hh.1, Option.bind_some]
      dsimp only
      rw [gd_pos (ok3_01 hh.2.2)]
      exact ⟨y, σ', rfl, q2.q.trans hh.2.1, hh.2.2⟩
    · have w := hW.2.1 (by omega)
      obtain ⟨y, σ', hh⟩ := f4 σ2 t2 q2 (by rw [hq]; exact smK_4 hk (by omega) (Or.inr (Or.inr (Or.inr (fun z => i0 (z.mp k0))))))
      have e : m12_isSmithyHere F (w32 (q : Int)) σ2 = some (y, σ') := by
        unfold m12_isSmithyHere
        rw [gd_pos (by decide), show (0 : Int32).toNatClampNeg = 0 from rfl, (b1 (by omega)).1, if_neg (by rw [wl_0, w_le (by omega) (by omega) (by omega) (by omega)]; omega)]
        exact hh.1
      rw [e, Option.bind_some]
      dsimp only
      rw [gd_pos (ok3_01 hh.2.2)]
      exact ⟨y, σ', rfl, hh.2.1, hh.2.2⟩
  · rw [if_neg (fun z => k0 (j0.mp z)), if_pos rfl, gd_pos (by decide), show (0 : Int32).toNatClampNeg = 0 from rfl]
    by_cases i0 : i = 0
    · rw [b2 i0, if_pos (show w32 0 = (0 : Int32) from rfl)]
      exact f4 σ2 t2 q2 (by rw [hq]; exact smK_4 hk (by omega) (Or.inr (Or.inr (Or.inr (fun z => k0 (z.mpr i0))))))
    · have w := hW.2.1 (by omega)
      obtain ⟨σ3, m3, t3, q3⟩ := word3 (F := F) hT hF t2 hq1 ess kSmith 495756866664 (by decide) (by decide) (by decide)
      have r3 : RQ i P (gI σ3 489) := by rw [q3.c (by decide)]; exact r2
      rw [(b1 (by omega)).1, if_neg (by rw [wl_0, w_eq (by omega) (by omega) (by omega) (by omega)]; omega), m3, Option.bind_some]
      dsimp only
      by_cases k1 : k = 1
      · rw [if_pos ((j1 k0).mpr k1), if_neg (by decide)]
        by_cases z3 : P 0 4 < 3
        · rw [smK_1 (hk.trans k1) (by omega) hi z3 rfl]
          obtain ⟨y, σ', hh⟩ := smithHere_r (F := F) (q := q) (p1 := sk B L p + rn B L 97 122 (sk B L p)) hT hF t3 (by omega) (by rw [hq]) (by rw [← hq]; omega) (by omega) hC z3 r3 (w32 (q : Int))
          rw [hh.1, Option.bind_some]
          dsimp only
          rw [gd_pos hh.2.2.2]
          exact ⟨y, σ', rfl, (q2.trans q3).q.trans hh.2.1, hh.2.2.1⟩
        · obtain ⟨y, σ', hh⟩ := f4 σ3 t3 (q2.trans q3) (by rw [hq]; exact smK_4 hk (by omega) (Or.inr (Or.inl ⟨k1, by omega⟩)))
          have e : m12_isSmithHere F (w32 (q : Int)) σ3 = some (y, σ') := by
            unfold m12_isSmithHere
            rw [gd_pos (by decide), show (3 : Int32).toNatClampNeg = 3 from rfl, r3.2.2.1, if_pos (by rw [show P 0 4 = 3 by omega]; rfl)]
            exact hh.1
          rw [e, Option.bind_some]
          dsimp only
          rw [gd_pos (ok3_01 hh.2.2)]
          exact ⟨y, σ', rfl, hh.2.1, hh.2.2⟩
      · obtain ⟨σ4, m4, t4, q4⟩ := word3 (F := F) hT hF t3 hq1 ess kJob 6975330 (by decide) (by decide) (by decide)
        have r4 : RQ i P (gI σ4 489) := by rw [q4.c (by decide)]; exact r3
        rw [if_neg (fun z => k1 ((j1 k0).mp z)), if_pos rfl, m4, Option.bind_some]
        dsimp only
        by_cases k2 : k = 2
        · rw [if_pos ((j2 k0 k1).mpr k2), if_neg (by decide)]
          by_cases z8 : P 0 5 < 8
          · rw [smK_2 (hk.trans k2) (by omega) hi z8 rfl]
            obtain ⟨y, σ', hh⟩ := jobHere_r (F := F) (q := q) (p1 := sk B L p + rn B L 97 122 (sk B L p)) hT hF t4 (by omega) (by rw [hq]) (by rw [← hq]; omega) (by omega) hC z8 r4 (w32 (q : Int))
            rw [hh.1, Option.bind_some]
            dsimp only
            rw [gd_pos hh.2.2.2]
            exact ⟨y, σ', rfl, ((q2.trans q3).trans q4).q.trans hh.2.1, hh.2.2.1⟩
          · obtain ⟨y, σ', hh⟩ := f4 σ4 t4 ((q2.trans q3).trans q4) (by rw [hq]; exact smK_4 hk (by omega) (Or.inr (Or.inr (Or.inl ⟨k2, by omega⟩))))
            have e : m12_isJobHere F (w32 (q : Int)) σ4 = some (y, σ') := by
              unfold m12_isJobHere
              rw [gd_pos (by decide), show (4 : Int32).toNatClampNeg = 4 from rfl, r4.2.2.2.1, if_pos (by rw [show P 0 5 = 8 by omega]; rfl)]
              exact hh.1
            rw [e, Option.bind_some]
            dsimp only
            rw [gd_pos (ok3_01 hh.2.2)]
            exact ⟨y, σ', rfl, hh.2.1, hh.2.2⟩
        · rw [if_neg (fun z => k2 ((j2 k0 k1).mp z)), if_pos rfl, smK_3 (hk.trans (by omega)) (by omega) hi rfl]
          obtain ⟨y, σ', hh⟩ := partHere_r (F := F) (q := q) (p1 := sk B L p + rn B L 97 122 (sk B L p)) hT hF t4 (by omega) (by rw [hq]) (by rw [← hq]; omega) (by omega) hC r4
          rw [hh.1, Option.bind_some]
          dsimp only
          rw [gd_pos hh.2.2.2]
          exact ⟨y, σ', rfl, ((q2.trans q3).trans q4).q.trans hh.2.1, hh.2.2.1⟩
theorem clause3_r {F : Nat} {B : Nat → Int} {L i p : Nat} {P : Dat} {σ : Mem} (hT : Txt B L) (hF : 1000 ≤ F) (h : RT B L p 0 σ) (hp : p ≤ L) (hi : i ≤ 40) (hC : DC P) (hD : DP P) (hW : SW i P) (hR : RQ i P (gI σ 489)) (h11 : gI σ 483 11 = w32 6) (h14 : gI σ 483 14 = w32 (i : Int)) : ∃ y σ', m12_clauseHere F σ = some (y, σ') ∧ Frs σ σ' ∧ OK3 B L i (smK B L i p P) y σ' ∧ (y = 1 → gI σ' 483 14 = w32 ((i + 1 : Nat) : Int)) := by
  have hL := hT.1
  obtain ⟨σ1, m1, t1, q1⟩ := see_r (F := F) hT h (by omega) hF
  have q := sk_rg (B := B) (L := L) (p := p)
  have rr := (rn_rg (B := B) (L := L) (p := sk B L p) (lo := 97) (hi := 122)).1
  have c11 : gI σ1 483 11 = w32 6 := by rw [q1.j (by unfold V8; omega)]; exact h11
  have ess := sk_sk (B := B) (L := L) (p := p)
  have hq1 : sk B L p ≤ 500 := by omega
  unfold m12_clauseHere
  rw [m1, Option.bind_some]
  dsimp only
  rw [c11, if_pos (show w32 6 = (6 : Int32) from rfl), t1.2.2.1]
  unfold m12_clauseHere_24
  rw [if_neg (by decide)]
  -- the line's count
  have go : ∀ (k : Int) (σa : Mem), kdW B L (sk B L p) = k → 0 ≤ k → k ≤ 3 → (isK B L kSmithy (sk B L p) = true ↔ k = 0) → (¬ k = 0 → (isK B L kSmith (sk B L p) = true ↔ k = 1)) → (¬ k = 0 → ¬ k = 1 → (isK B L kJob (sk B L p) = true ↔ k = 2)) → RT B L (sk B L p) 0 σa → Qs σ σa → ∃ y σ', m12_clauseHere_56 F (w32 (sk B L p : Int)) (1 : Int32) σa = some (y, σ') ∧ Frs σ σ' ∧ OK3 B L i (smK B L i p P) y σ' ∧ (y = 1 → gI σ' 483 14 = w32 ((i + 1 : Nat) : Int)) := by
    intro k σa hk hk0 hk3 j0 j1 j2 ta qa
    have c14 : gI σa 483 14 = w32 (i : Int) := by rw [qa.j (by unfold V8; omega)]; exact h14
    unfold m12_clauseHere_56
    rw [if_neg (by decide)]
    unfold m12_clauseHere_71
    rw [c14]
    by_cases z40 : i = 40
    · rw [if_pos (by rw [z40]; rfl)]
      obtain ⟨σ3, hh⟩ := fail3_r (F := F) (i := i) (z := smK B L i p P) (c := 4) (by decide) ta (smK_4 hk (by omega) (Or.inl (by omega)))
      have m3 : m12_fails F (4 : Int32) (w32 (sk B L p : Int)) σa = _ := hh.1
      rw [m3, Option.bind_some]
      dsimp only
      rw [gd_pos (Or.inl rfl)]
      exact ⟨0, σ3, rfl, (qa.trans hh.2.1).q.s14, hh.2.2, fun z => absurd z (by decide)⟩
    · rw [if_neg (by rw [wl_40, w_eq (by omega) (by omega) (by omega) (by omega)]; omega), w_succ]
      dsimp only
      rw [if_neg (by decide)]
      have tb : RT B L (sk B L p) 0 (sI σa 483 14 (w32 ((i + 1 : Nat) : Int))) := ta.ne (by omega)
      have fb : Frs σ (sI σa 483 14 (w32 ((i + 1 : Nat) : Int))) := ⟨qa.q.1.sI (Or.inl rfl), (qa.2.mono (fun j z => Or.inl z)).at (Or.inr rfl)⟩
      have cb : gI (sI σa 483 14 (w32 ((i + 1 : Nat) : Int))) 483 14 = w32 ((i + 1 : Nat) : Int) := gI_eq ..
      have rb : RQ i P (gI (sI σa 483 14 (w32 ((i + 1 : Nat) : Int))) 489) := by rw [gI_ne _ _ _ (by decide), qa.c (by decide)]; exact hR
      generalize (sI σa 483 14 (w32 ((i + 1 : Nat) : Int))) = σb at *
      obtain ⟨y, σ', hh⟩ := line_r (F := F) (p := p) hT hF tb rfl hq1 (by omega) (by omega) hC hD hW rb hk hk0 j0 j1 j2 hk3
      rw [hh.1, Option.bind_some]
      dsimp only
      rw [gd_pos (ok3_01 hh.2.2)]
      exact ⟨y, σ', rfl, fb.trans hh.2.1.s14, hh.2.2, fun _ => by rw [hh.2.1.2 14 (by unfold V8; omega)]; exact cb⟩
  -- the four words
  have e0 : tws 0 = [kSmithy, kSmith, kJob, kPart] := rfl
  obtain ⟨σ2, m2, t2, q2⟩ := word3 (F := F) hT hF t1 hq1 ess kSmithy 126913757866105 (by decide) (by decide) (by decide)
  unfold m12_isSmithyWord
  rw [m2, Option.bind_some]
  dsimp only
  by_cases z0 : isK B L kSmithy (sk B L p) = true
  · rw [if_pos z0, if_neg (by decide), Option.bind_some]
    dsimp only
    rw [if_neg (by decide)]
    exact go 0 σ2 (by unfold kdW; rw [e0]; exact wdx_yes z0) (by decide) (by decide) ⟨fun _ => rfl, fun _ => z0⟩ (fun z => absurd rfl z) (fun z => absurd rfl z) t2 (q1.trans q2)
  · obtain ⟨σ3, m3, t3, q3⟩ := word3 (F := F) hT hF t2 hq1 ess kSmith 495756866664 (by decide) (by decide) (by decide)
    rw [if_neg z0, if_pos rfl, m3, Option.bind_some]
    dsimp only
    by_cases z1 : isK B L kSmith (sk B L p) = true
    · rw [if_pos z1, if_neg (by decide), Option.bind_some]
      dsimp only
      rw [if_neg (by decide)]
      exact go 1 σ3 (by unfold kdW; rw [e0, wdx_no z0]; exact wdx_yes z1) (by decide) (by decide) ⟨fun z => absurd z z0, fun z => absurd z (by decide)⟩ (fun _ => ⟨fun _ => rfl, fun _ => z1⟩) (fun _ z => absurd rfl z) t3 ((q1.trans q2).trans q3)
    · obtain ⟨σ4, m4, t4, q4⟩ := word3 (F := F) hT hF t3 hq1 ess kJob 6975330 (by decide) (by decide) (by decide)
      rw [if_neg z1, if_pos rfl, m4, Option.bind_some]
      dsimp only
      by_cases z2 : isK B L kJob (sk B L p) = true
      · rw [if_pos z2, if_neg (by decide), Option.bind_some]
        dsimp only
        rw [if_neg (by decide)]
        exact go 2 σ4 (by unfold kdW; rw [e0, wdx_no z0, wdx_no z1]; exact wdx_yes z2) (by decide) (by decide) ⟨fun z => absurd z z0, fun z => absurd z (by decide)⟩ (fun _ => ⟨fun z => absurd z z1, fun z => absurd z (by decide)⟩) (fun _ _ => ⟨fun _ => rfl, fun _ => z2⟩) t4 (((q1.trans q2).trans q3).trans q4)
      · obtain ⟨σ5, m5, t5, q5⟩ := word3 (F := F) hT hF t4 hq1 ess kPart 1885434484 (by decide) (by decide) (by decide)
        rw [if_neg z2, if_pos rfl, m5, Option.bind_some]
        dsimp only
        by_cases z3 : isK B L kPart (sk B L p) = true
        · rw [if_pos z3, if_neg (by decide), Option.bind_some]
          dsimp only
          rw [if_neg (by decide)]
          exact go 3 σ5 (by unfold kdW; rw [e0, wdx_no z0, wdx_no z1, wdx_no z2]; exact wdx_yes z3) (by decide) (by decide) ⟨fun z => absurd z z0, fun z => absurd z (by decide)⟩ (fun _ => ⟨fun z => absurd z z1, fun z => absurd z (by decide)⟩) (fun _ _ => ⟨fun z => absurd z z2, fun z => absurd z (by decide)⟩) t5 ((((q1.trans q2).trans q3).trans q4).trans q5)
        · rw [if_neg z3, if_pos rfl, Option.bind_some]
          dsimp only
          rw [if_pos rfl]
          unfold m12_clauseHere_49
          obtain ⟨σ6, hh⟩ := fail3_r (F := F) (i := i) (z := smK B L i p P) (c := 0) (by decide) t5 (smK_m1 (by unfold kdW; rw [e0, wdx_no z0, wdx_no z1, wdx_no z2]; exact wdx_no z3))
          have m6 : m12_fails F (0 : Int32) (w32 (sk B L p : Int)) σ5 = _ := hh.1
          rw [m6, Option.bind_some]
          dsimp only
          rw [gd_pos (Or.inl rfl)]
          exact ⟨0, σ6, rfl, (((((q1.trans q2).trans q3).trans q4).trans q5).trans hh.2.1).q.s14, hh.2.2, fun z => absurd z (by decide)⟩
