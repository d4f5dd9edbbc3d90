/-! TEXTS, 14: the reference reads JOBS; a whole SMITHY -/
theorem takes_r {F : Nat} {B : Nat → Int} {L p : Nat} {f : Int} {σ : Mem} (hT : Txt B L) (h : RT B L p f σ) (hp : p ≤ 100000) (hF : 1000 ≤ F) (w : List Int) (J : Int64) (hJ : J = Int64.ofInt (pkf (fun k => w.getD k 0) w.length)) (hl : w.length < 8) (hw : ∀ k, k < w.length → 97 ≤ w.getD k 0 ∧ w.getD k 0 ≤ 122) : ∃ σ', m12_takesWord F J σ = some (if isK B L w (sk B L p) = true then 1 else 0, σ') ∧ RT B L (if isK B L w (sk B L p) = true then sk B L p + rn B L 97 122 (sk B L p) else sk B L p) f σ' ∧ Qs σ σ' := by
  have hL := hT.1
  obtain ⟨σ1, m1, t1, q1⟩ := isWord_r (F := F) hT h (by omega) hF w J hJ hl hw
  have q := sk_rg (B := B) (L := L) (p := p)
  unfold m12_takesWord
  rw [m1, Option.bind_some]
  dsimp only
  by_cases z : isK B L w (sk B L p) = true
  · obtain ⟨σ2, m2, t2, q2⟩ := passWord_r (F := F) hT t1 (by omega) hF
    rw [if_pos z, if_neg (by decide), m2, Option.bind_some, if_pos z]
    exact ⟨σ2, rfl, t2, q1.trans q2⟩
  · rw [if_neg z, if_pos rfl, if_neg z]
    exact ⟨σ1, rfl, t1, q1⟩
theorem partW_r {F : Nat} {B : Nat → Int} {L p : Nat} {f : Int} {σ : Mem} (hT : Txt B L) (h : RT B L p f σ) (hp : p ≤ 1000) (hF : 1000 ≤ F) (hs : sk B L p = p) : ∃ σ', m12_partHere F σ = some (w32 (wdx B p (rn B L 97 122 p) (tws 1) 0), σ') ∧ RT B L (if wdx B p (rn B L 97 122 p) (tws 1) 0 = -1 then p else p + rn B L 97 122 p) f σ' ∧ Qs σ σ' := by
  have e1 : tws 1 = [[102, 97, 99, 101], [98, 101, 97, 107], [104, 101, 101, 108], [119, 101, 108, 100]] := rfl
  rw [e1]
  unfold m12_partHere
  obtain ⟨σ1, m1, t1, q1⟩ := takes_r (F := F) hT h (by omega) hF [102, 97, 99, 101] 1717658469 (by decide) (by decide) (by decide)
  rw [hs] at m1 t1
  by_cases z1 : isK B L [102, 97, 99, 101] p = true
  · rw [if_pos z1] at m1 t1
    rw [m1, Option.bind_some]
    dsimp only
    rw [if_neg (by decide), wdx_yes z1]
    exact ⟨σ1, rfl, t1, q1⟩
  rw [if_neg z1] at m1 t1
  rw [m1, Option.bind_some]
  dsimp only
  rw [if_pos rfl, wdx_no z1]
  obtain ⟨σ2, m2, t2, q2⟩ := takes_r (F := F) hT t1 (by omega) hF [98, 101, 97, 107] 1650811243 (by decide) (by decide) (by decide)
  rw [hs] at m2 t2
  by_cases z2 : isK B L [98, 101, 97, 107] p = true
  · rw [if_pos z2] at m2 t2
    rw [m2, Option.bind_some]
    dsimp only
    rw [if_neg (by decide), wdx_yes z2]
    exact ⟨σ2, rfl, t2, q1.trans q2⟩
  rw [if_neg z2] at m2 t2
  rw [m2, Option.bind_some]
  dsimp only
  rw [if_pos rfl, wdx_no z2]
  obtain ⟨σ3, m3, t3, q3⟩ := takes_r (F := F) hT t2 (by omega) hF [104, 101, 101, 108] 1751475564 (by decide) (by decide) (by decide)
  rw [hs] at m3 t3
  by_cases z3 : isK B L [104, 101, 101, 108] p = true
  · rw [if_pos z3] at m3 t3
    rw [m3, Option.bind_some]
    dsimp only
    rw [if_neg (by decide), wdx_yes z3]
    exact ⟨σ3, rfl, t3, (q1.trans q2).trans q3⟩
  rw [if_neg z3] at m3 t3
  rw [m3, Option.bind_some]
  dsimp only
  rw [if_pos rfl, wdx_no z3]
  obtain ⟨σ4, m4, t4, q4⟩ := takes_r (F := F) hT t3 (by omega) hF [119, 101, 108, 100] 2003135588 (by decide) (by decide) (by decide)
  rw [hs] at m4 t4
  by_cases z4 : isK B L [119, 101, 108, 100] p = true
  · rw [if_pos z4] at m4 t4
    rw [m4, Option.bind_some]
    dsimp only
    rw [if_neg (by decide), wdx_yes z4]
    exact ⟨σ4, rfl, t4, ((q1.trans q2).trans q3).trans q4⟩
  rw [if_neg z4] at m4 t4
  rw [m4, Option.bind_some]
  dsimp only
  rw [if_pos rfl, wdx_no z4]
  exact ⟨σ4, rfl, t4, ((q1.trans q2).trans q3).trans q4⟩
theorem smJ_bad {B : Nat → Int} {L p : Nat} {P : Dat} (h : nmF B L 0 (P 0 4 - 1) p 0 ≠ 0) : (smJ B L p P).2.1 = nmF B L 0 (P 0 4 - 1) p 0 := by
  unfold smJ
  dsimp only
  by_cases zw : wdx B (sk B L (nmP B L p)) (rn B L 97 122 (sk B L (nmP B L p))) (tws 1) 0 = -1
  · rw [if_pos zw]
    exact ff_bad h
  · rw [if_neg zw]
    dsimp only
    rw [nmF_bad (f := nmF B L 0 (P 0 4 - 1) p 0) h, nmF_bad (f := nmF B L 0 (P 0 4 - 1) p 0) h, nmF_bad (f := nmF B L 0 (P 0 4 - 1) p 0) h]
theorem jobHere_r {F : Nat} {B : Nat → Int} {L i p1 : Nat} {P : Dat} {q : Nat} {σ : Mem} (hT : Txt B L) (hF : 1000 ≤ F) (h : RT B L q 0 σ) (hq : q ≤ 500) (hp1 : p1 = q + rn B L 97 122 q) (hpl : p1 ≤ 500) (hi : 0 < i) (hC : DC P) (h8 : P 0 5 < 8) (hR : RQ i P (gI σ 489)) (i1 : Int32) : ∃ y σ', m12_isJobHere F i1 σ = some (y, σ') ∧ Frq σ σ' ∧ OK3 B L i (smJ B L p1 P) y σ' ∧ (y = 0 ∨ y = 1) := by
  have hL := hT.1
  obtain ⟨dc1, dc2, dc3, dc4⟩ := hC
  obtain ⟨a1, a2, a3, a4, a5, a6, a7, a8⟩ := hR
  have p2 := nmP_rg (B := B) (L := L) (p := p1)
  obtain ⟨σ1, m1, t1, q1⟩ := passWord_r (F := F) hT h (by omega) hF
  rw [← hp1] at t1
  obtain ⟨m, hm⟩ : ∃ m : Nat, P 0 5 = (m : Int) := ⟨(P 0 5).toNat, by omega⟩
  have em : (P 0 5).toNat = m := by omega
  have e4 : gI σ1 489 4 = w32 (m : Int) := by rw [q1.c (by decide), a4, hm]
  have e3 : gI σ1 489 3 = w32 (P 0 4) := by rw [q1.c (by decide), a3]
  have eb : (31 : Int32) + (8 : Int32) * w32 (m : Int) = w32 ((31 + 8 * m : Nat) : Int) := by rw [wl_31, wl_8, w_mul, w_add]; congr 1 <;> omega
  have ek : ∀ k : Nat, w32 ((31 + 8 * m : Nat) : Int) + w32 (k : Int) = w32 ((31 + 8 * m + k : Nat) : Int) := fun k => by rw [w_add]; congr 1
  have ek1 : w32 ((31 + 8 * m : Nat) : Int) + (1 : Int32) = w32 ((31 + 8 * m + 1 : Nat) : Int) := ek 1
  have ek2 : w32 ((31 + 8 * m : Nat) : Int) + (2 : Int32) = w32 ((31 + 8 * m + 2 : Nat) : Int) := ek 2
  have ek3 : w32 ((31 + 8 * m : Nat) : Int) + (3 : Int32) = w32 ((31 + 8 * m + 3 : Nat) : Int) := ek 3
  have ek4 : w32 ((31 + 8 * m : Nat) : Int) + (4 : Int32) = w32 ((31 + 8 * m + 4 : Nat) : Int) := ek 4
  have ek5 : w32 ((31 + 8 * m : Nat) : Int) + (5 : Int32) = w32 ((31 + 8 * m + 5 : Nat) : Int) := ek 5
  have ek6 : w32 ((31 + 8 * m : Nat) : Int) + (6 : Int32) = w32 ((31 + 8 * m + 6 : Nat) : Int) := ek 6
  have ek7 : w32 ((31 + 8 * m : Nat) : Int) + (7 : Int32) = w32 ((31 + 8 * m + 7 : Nat) : Int) := ek 7
  have em1 : w32 (P 0 4) - (1 : Int32) = w32 (P 0 4 - 1) := by rw [wl_1, w_sub]
  have hsk := sk_rg (B := B) (L := L) (p := nmP B L p1)
  have rr := (rn_rg (B := B) (L := L) (p := sk B L (nmP B L p1)) (lo := 97) (hi := 122)).1
  unfold m12_isJobHere
  rw [gd_pos (by decide), show (4 : Int32).toNatClampNeg = 4 from rfl, a4, if_neg (by rw [wl_8, w_eq (by omega) (by omega) (by omega) (by omega)]; omega), m1, Option.bind_some, gd_pos (by decide), gd_pos (by decide), show (3 : Int32).toNatClampNeg = 3 from rfl, e4, e3, eb, em1]
  obtain ⟨y3, σ3, m3, s3, f3, k3, g3⟩ := cell_r (F := F) (c := 31 + 8 * m) (lo := 0) (hi := P 0 4 - 1) hT t1 (by omega) hF (by omega) (by decide) (by omega)
  have m3 : m12_cellHere F (w32 ((31 + 8 * m : Nat) : Int)) (0 : Int32) (w32 (P 0 4 - 1)) σ1 = _ := m3
  rw [m3, Option.bind_some, ek1, ek2, ek3, ek4, ek5, ek6, ek7]
  dsimp only
  have Q3 : Frq σ σ3 := q1.q.trans ⟨f3, s3⟩
  by_cases z1 : nmF B L 0 (P 0 4 - 1) p1 0 = 0
  · rw [if_pos z1] at g3
    unfold smJ
    dsimp only
    rw [em]
    obtain ⟨σ5, m5, t5, q5⟩ := see_r (F := F) hT g3.2.1 (by omega) hF
    obtain ⟨σ6, m6, t6, q6⟩ := partW_r (F := F) hT t5 (by omega) hF sk_sk
    have w1 := wdx_rg (B := B) (p := sk B L (nmP B L p1)) (n := rn B L 97 122 (sk B L (nmP B L p1))) (tws 1) 0 (by decide)
    have l1 : (tws 1).length = 4 := rfl
    rw [if_neg (by rw [g3.1]; decide), m5, Option.bind_some]
    dsimp only
    rw [m6, Option.bind_some, gd_pos (w_inB (by omega) (by omega) (by omega)), gd_pos (w_inB (by omega) (by omega) (by omega)), w_natk (by omega)]
    dsimp only
    rw [gI_eq, z1, t5.2.2.1]
    have hpl2 : sk B L (nmP B L p1) + rn B L 97 122 (sk B L (nmP B L p1)) ≤ 500 := by omega
    generalize hwd : wdx B (sk B L (nmP B L p1)) (rn B L 97 122 (sk B L (nmP B L p1))) (tws 1) 0 = w at *
    have Q6 : Frq σ (sI σ6 489 (31 + 8 * m + 1) (w32 w)) := (Q3.trans (q5.trans q6).q).s
    by_cases zw : w = -1
    · rw [if_neg (by rw [wl_0, w_le (by omega) (by omega) (by omega) (by omega)]; omega), if_pos zw]
      rw [if_pos zw] at t6
      have t7 : RT B L (sk B L (nmP B L p1)) 0 (sI σ6 489 (31 + 8 * m + 1) (w32 w)) := t6.n9
      obtain ⟨σ7, m7, e7, q7⟩ := fails_r (F := F) (a := sk B L (nmP B L p1)) (c := 0) t7 (by decide)
      have m7 : m12_fails F (0 : Int32) (w32 (sk B L (nmP B L p1) : Int)) _ = _ := m7
      rw [m7, Option.bind_some]
      dsimp only
      rw [gd_pos (Or.inl rfl)]
      have eff : ff 0 (sk B L (nmP B L p1)) 0 = 1 + 8 * (sk B L (nmP B L p1) : Int) + 0 := if_pos rfl
      exact ⟨0, σ7, rfl, Q6.trans q7.q, ok3_bad eff (by omega) ⟨rfl, e7⟩, Or.inl rfl⟩
    · rw [if_pos (by rw [wl_0, w_le (by omega) (by omega) (by omega) (by omega)]; omega), if_neg zw]
      rw [if_neg zw] at t6
      have t7 : RT B L (sk B L (nmP B L p1) + rn B L 97 122 (sk B L (nmP B L p1))) 0 (sI σ6 489 (31 + 8 * m + 1) (w32 w)) := t6.n9
      generalize sk B L (nmP B L p1) + rn B L 97 122 (sk B L (nmP B L p1)) = p3 at *
      have g31 := nmP_rg (B := B) (L := L) (p := p3)
      have g32 := nmP_rg (B := B) (L := L) (p := nmP B L p3)
      -- blows
      obtain ⟨y8, σ8, m8, s8, f8, k8, g8⟩ := cell_r (F := F) (c := 31 + 8 * m + 2) (lo := 1) (hi := 30) hT t7 (by omega) hF (by omega) (by decide) (by decide)
      have m8 : m12_cellHere F (w32 ((31 + 8 * m + 2 : Nat) : Int)) (1 : Int32) (30 : Int32) _ = _ := m8
      rw [m8, Option.bind_some]
      dsimp only
      have Q8 : Frq σ σ8 := Q6.trans ⟨f8, s8⟩
      by_cases z2 : nmF B L 1 30 p3 0 = 0
      · rw [if_pos z2] at g8
        rw [if_neg (by rw [g8.1]; decide), z2]
        obtain ⟨y9, σ9, m9, s9, f9, k9, g9⟩ := cell_r (F := F) (c := 31 + 8 * m + 3) (lo := 1) (hi := 50) hT g8.2.1 (by omega) hF (by omega) (by decide) (by decide)
        have m9 : m12_cellHere F (w32 ((31 + 8 * m + 3 : Nat) : Int)) (1 : Int32) (50 : Int32) _ = _ := m9
        rw [m9, Option.bind_some]
        dsimp only
        have Q9 : Frq σ σ9 := Q8.trans ⟨f9, s9⟩
        by_cases z3 : nmF B L 1 50 (nmP B L p3) 0 = 0
        · rw [if_pos z3] at g9
          rw [if_neg (by rw [g9.1]; decide), z3]
          obtain ⟨yA, σA, mA, sA, fA, kA, gA⟩ := cell_r (F := F) (c := 31 + 8 * m + 4) (lo := 0) (hi := 50) hT g9.2.1 (by omega) hF (by omega) (by decide) (by decide)
          have mA : m12_cellHere F (w32 ((31 + 8 * m + 4 : Nat) : Int)) (0 : Int32) (50 : Int32) _ = _ := mA
          rw [mA, Option.bind_some]
          dsimp only
          have QA : Frq σ σA := Q9.trans ⟨fA, sA⟩
          by_cases z4 : nmF B L 0 50 (nmP B L (nmP B L p3)) 0 = 0
          · rw [if_pos z4] at gA
            rw [if_neg (by rw [gA.1]; decide), gd_pos (w_inB (by omega) (by omega) (by omega)), gd_pos (by decide), gd_pos (w_inB (by omega) (by omega) (by omega)), gd_pos (w_inB (by omega) (by omega) (by omega)), gd_pos (w_inB (by omega) (by omega) (by omega)), gd_pos (by decide), gd_pos (by decide), w_natk (by omega), w_natk (by omega), w_natk (by omega), w_natk (by omega)]
            have c4 : gI σA 489 4 = w32 (m : Int) := by
              rw [kA 4 (by omega), k9 4 (by omega), k8 4 (by omega), gI_nej (by omega), (q5.trans q6).c (by decide), k3 4 (by omega), q1.c (by decide), a4, hm]
            have c2 : gI σA 489 (31 + 8 * m + 2) = w32 (nmR B L 1 30 p3 0) := by rw [kA _ (by omega), k9 _ (by omega)]; exact g8.2.2
            have o4 : gI (sI σA 489 (31 + 8 * m + 5) (-1 : Int32)) 489 4 = w32 (m : Int) := by rw [gI_nej (by omega)]; exact c4
            rw [o4]
            have o2 : gI (sI (sI σA 489 (31 + 8 * m + 5) (-1 : Int32)) 489 (31 + 8 * m + 6) (w32 (m : Int))) 489 (31 + 8 * m + 2) = w32 (nmR B L 1 30 p3 0) := by rw [gI_nej (by omega), gI_nej (by omega)]; exact c2
            rw [o2]
            have o5 : gI (sI (sI (sI σA 489 (31 + 8 * m + 5) (-1 : Int32)) 489 (31 + 8 * m + 6) (w32 (m : Int))) 489 (31 + 8 * m + 7) (w32 (nmR B L 1 30 p3 0))) 489 4 = w32 (m : Int) := by rw [gI_nej (by omega), gI_nej (by omega), gI_nej (by omega)]; exact c4
            rw [o5, w_succ]
            refine ⟨1, _, rfl, QA.s.s.s.s, ok3_good z4 ⟨rfl, gA.2.1.n9.n9.n9.n9, ?_⟩, Or.inr rfl⟩
            have r0 : ∀ j, j ≠ 4 → (j < 31 + 8 * m ∨ 31 + 8 * m + 7 < j) → gI (sI (sI (sI (sI σA 489 (31 + 8 * m + 5) (-1 : Int32)) 489 (31 + 8 * m + 6) (w32 (m : Int))) 489 (31 + 8 * m + 7) (w32 (nmR B L 1 30 p3 0))) 489 4 (w32 ((m + 1 : Nat) : Int))) 489 j = gI σ 489 j := fun j h0 h1 => by
              rw [gI_nej (by omega), gI_nej (by omega), gI_nej (by omega), gI_nej (by omega), kA _ (by omega), k9 _ (by omega), k8 _ (by omega), gI_nej (by omega), (q5.trans q6).c (by decide), k3 _ (by omega), q1.c (by decide)]
            show RQ (i + 1) (up (up (up (up (up (up (up P 2 m (nmR B L 0 (P 0 4 - 1) p1 0)) 3 m w) 4 m (if w = 3 then 3 else if w = 2 then 4 else if w = 1 then 2 else 1)) 5 m (nmR B L 1 30 p3 0)) 6 m (nmR B L 1 50 (nmP B L p3) 0)) 7 m (nmR B L 0 50 (nmP B L (nmP B L p3)) 0)) 0 5 (P 0 5 + 1)) _
            generalize (if w = 3 then (3 : Int) else if w = 2 then 4 else if w = 1 then 2 else 1) = bb
            have u0 : ∀ (a b : Nat), ((a = 0 ∧ b ≠ 5) ∨ a = 1 ∨ a = 8 ∨ (2 ≤ a ∧ b ≠ m)) → up (up (up (up (up (up (up P 2 m (nmR B L 0 (P 0 4 - 1) p1 0)) 3 m w) 4 m bb) 5 m (nmR B L 1 30 p3 0)) 6 m (nmR B L 1 50 (nmP B L p3) 0)) 7 m (nmR B L 0 50 (nmP B L (nmP B L p3)) 0)) 0 5 (P 0 5 + 1) a b = P a b := fun a b hab => by
              rw [up_ne (by omega), up_ne (by omega), up_ne (by omega), up_ne (by omega), up_ne (by omega), up_ne (by omega), up_ne (by omega)]
            refine ⟨fun _ => ?_, fun z => absurd z (by omega), ?_, ?_, fun j h1 h2 => ?_, fun p hp => ?_, fun j hj => ?_, fun k hk => ?_⟩
            · rw [u0 0 1 (by omega), u0 0 2 (by omega), u0 0 3 (by omega), r0 0 (by omega) (by omega), r0 1 (by omega) (by omega), r0 2 (by omega) (by omega)]
              exact a1 hi
            · rw [u0 0 4 (by omega), r0 3 (by omega) (by omega)]; exact a3
            · rw [gI_eq, up_eq, hm]; rfl
            · rw [r0 j (by omega) (by omega)]; exact a5 j h1 h2
            · rw [u0 0 4 (by omega)] at hp
              obtain ⟨b1, b2⟩ := a6 p hp
              refine ⟨?_, fun k hk h5 => ?_⟩
              · rw [u0 1 p (by omega), r0 _ (by omega) (by omega)]; exact b1
              · rw [r0 _ (by omega) (by omega)]; exact b2 k hk h5
            · rw [up_eq] at hj
              by_cases zj : j = m
              · subst zj
                have x2 : up (up (up (up (up (up (up P 2 j (nmR B L 0 (P 0 4 - 1) p1 0)) 3 j w) 4 j bb) 5 j (nmR B L 1 30 p3 0)) 6 j (nmR B L 1 50 (nmP B L p3) 0)) 7 j (nmR B L 0 50 (nmP B L (nmP B L p3)) 0)) 0 5 (P 0 5 + 1) 2 j = nmR B L 0 (P 0 4 - 1) p1 0 := by
                  rw [up_ne (by omega), up_ne (by omega), up_ne (by omega), up_ne (by omega), up_ne (by omega), up_ne (by omega), up_eq]
                have x3 : up (up (up (up (up (up (up P 2 j (nmR B L 0 (P 0 4 - 1) p1 0)) 3 j w) 4 j bb) 5 j (nmR B L 1 30 p3 0)) 6 j (nmR B L 1 50 (nmP B L p3) 0)) 7 j (nmR B L 0 50 (nmP B L (nmP B L p3)) 0)) 0 5 (P 0 5 + 1) 3 j = w := by
                  rw [up_ne (by omega), up_ne (by omega), up_ne (by omega), up_ne (by omega), up_ne (by omega), up_eq]
                have x5 : up (up (up (up (up (up (up P 2 j (nmR B L 0 (P 0 4 - 1) p1 0)) 3 j w) 4 j bb) 5 j (nmR B L 1 30 p3 0)) 6 j (nmR B L 1 50 (nmP B L p3) 0)) 7 j (nmR B L 0 50 (nmP B L (nmP B L p3)) 0)) 0 5 (P 0 5 + 1) 5 j = nmR B L 1 30 p3 0 := by
                  rw [up_ne (by omega), up_ne (by omega), up_ne (by omega), up_eq]
                have x6 : up (up (up (up (up (up (up P 2 j (nmR B L 0 (P 0 4 - 1) p1 0)) 3 j w) 4 j bb) 5 j (nmR B L 1 30 p3 0)) 6 j (nmR B L 1 50 (nmP B L p3) 0)) 7 j (nmR B L 0 50 (nmP B L (nmP B L p3)) 0)) 0 5 (P 0 5 + 1) 6 j = nmR B L 1 50 (nmP B L p3) 0 := by
                  rw [up_ne (by omega), up_ne (by omega), up_eq]
                have x7 : up (up (up (up (up (up (up P 2 j (nmR B L 0 (P 0 4 - 1) p1 0)) 3 j w) 4 j bb) 5 j (nmR B L 1 30 p3 0)) 6 j (nmR B L 1 50 (nmP B L p3) 0)) 7 j (nmR B L 0 50 (nmP B L (nmP B L p3)) 0)) 0 5 (P 0 5 + 1) 7 j = nmR B L 0 50 (nmP B L (nmP B L p3)) 0 := by
                  rw [up_ne (by omega), up_eq]
                rw [x2, x3, x5, x6, x7, show 32 + 8 * j = 31 + 8 * j + 1 by omega, show 33 + 8 * j = 31 + 8 * j + 2 by omega, show 34 + 8 * j = 31 + 8 * j + 3 by omega, show 35 + 8 * j = 31 + 8 * j + 4 by omega, show 36 + 8 * j = 31 + 8 * j + 5 by omega, show 37 + 8 * j = 31 + 8 * j + 6 by omega, show 38 + 8 * j = 31 + 8 * j + 7 by omega]
                refine ⟨?_, ?_, ?_, ?_, ?_, ?_, ?_, ?_⟩
                · rw [gI_nej (by omega), gI_nej (by omega), gI_nej (by omega), gI_nej (by omega), kA _ (by omega), k9 _ (by omega), k8 _ (by omega), gI_nej (by omega), (q5.trans q6).c (by decide)]; exact g3.2.2
                · rw [gI_nej (by omega), gI_nej (by omega), gI_nej (by omega), gI_nej (by omega), kA _ (by omega), k9 _ (by omega), k8 _ (by omega), gI_eq]
                · rw [gI_nej (by omega), gI_nej (by omega), gI_nej (by omega), gI_nej (by omega)]; exact c2
                · rw [gI_nej (by omega), gI_nej (by omega), gI_nej (by omega), gI_nej (by omega), kA _ (by omega)]; exact g9.2.2
                · rw [gI_nej (by omega), gI_nej (by omega), gI_nej (by omega), gI_nej (by omega)]; exact gA.2.2
                · rw [gI_nej (by omega), gI_nej (by omega), gI_nej (by omega), gI_eq]; rfl
                · rw [gI_nej (by omega), gI_nej (by omega), gI_eq]
                · rw [gI_nej (by omega), gI_eq]
              · have hj : (j : Int) < P 0 5 := by omega
                rw [u0 2 j (by omega), u0 3 j (by omega), u0 5 j (by omega), u0 6 j (by omega), u0 7 j (by omega), r0 (31 + 8 * j) (by omega) (by omega), r0 (32 + 8 * j) (by omega) (by omega), r0 (33 + 8 * j) (by omega) (by omega), r0 (34 + 8 * j) (by omega) (by omega), r0 (35 + 8 * j) (by omega) (by omega), r0 (36 + 8 * j) (by omega) (by omega), r0 (37 + 8 * j) (by omega) (by omega), r0 (38 + 8 * j) (by omega) (by omega)]
                exact a7 j hj
            · rw [u0 8 k (by omega), r0 _ (by omega) (by omega)]; exact a8 k hk
          · rw [if_neg z4] at gA
            rw [if_pos gA.1]
            exact ⟨0, σA, rfl, QA, ok3_bad rfl z4 ⟨rfl, gA.2⟩, Or.inl rfl⟩
        · rw [if_neg z3] at g9
          rw [if_pos g9.1]
          exact ⟨0, σ9, rfl, Q9, ok3_bad (nmF_bad z3) z3 ⟨rfl, g9.2⟩, Or.inl rfl⟩
      · rw [if_neg z2] at g8
        rw [if_pos g8.1]
        have e1 : nmF B L 1 50 (nmP B L p3) (nmF B L 1 30 p3 0) = nmF B L 1 30 p3 0 := nmF_bad z2
        exact ⟨0, σ8, rfl, Q8, ok3_bad (f := nmF B L 1 30 p3 0) (by show nmF B L 0 50 _ (nmF B L 1 50 _ _) = _; rw [e1]; exact nmF_bad z2) z2 ⟨rfl, g8.2⟩, Or.inl rfl⟩
  · rw [if_neg z1] at g3
    rw [if_pos g3.1]
    exact ⟨0, σ3, rfl, Q3, ok3_bad (smJ_bad z1) z1 ⟨rfl, g3.2⟩, Or.inl rfl⟩
