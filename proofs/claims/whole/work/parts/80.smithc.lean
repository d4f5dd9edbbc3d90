/-! TEXTS, 11: a SMITHY's text, as the class reads it, FAULTS and all -/
def nmP (B : Nat → Int) (L p : Nat) : Nat := sk B L p + rn B L 48 57 (sk B L p)
def nmV (B : Nat → Int) (L p : Nat) : Int := nv B (sk B L p) (min (rn B L 48 57 (sk B L p)) 5)
def nmF (B : Nat → Int) (L : Nat) (lo hi : Int) (p : Nat) (f : Int) : Int := nfa lo hi (sk B L p) (rn B L 48 57 (sk B L p)) (nmV B L p) f
def nmR (B : Nat → Int) (L : Nat) (lo hi : Int) (p : Nat) (f : Int) : Int := if nmF B L lo hi p f = 0 then nmV B L p else lo
theorem nm_c {F : Nat} {B : Nat → Int} {L p : Nat} {f lo hi : Int} {σ : Mem} (hT : Txt B L) (h : TC B L p f σ) (hp : p ≤ 1000000) (hF : 1000 ≤ F) (hf : -100000000 ≤ f ∧ f ≤ 100000000) (b1 : -1000000 ≤ lo ∧ lo ≤ 1000000) (b2 : -1000000 ≤ hi ∧ hi ≤ 1000000) : ∃ σ', m8_number F (w32 lo) (w32 hi) σ = some (w32 (nmR B L lo hi p f), σ') ∧ TC B L (nmP B L p) (nmF B L lo hi p f) σ' ∧ Fr (fun c => c = 1) σ σ' := number_c hT h hp hF hf b1 b2
theorem nmP_rg {B : Nat → Int} {L p : Nat} : p ≤ nmP B L p ∧ nmP B L p ≤ max p L := by
  have q := sk_rg (B := B) (L := L) (p := p)
  have r := (rn_rg (B := B) (L := L) (p := sk B L p) (lo := 48) (hi := 57)).1
  unfold nmP
  omega
theorem nmF_rg {B : Nat → Int} {L p : Nat} {lo hi f : Int} (hf : 0 ≤ f ∧ f ≤ 1000000) (hp : p ≤ 10000) (hL : L ≤ 400) : 0 ≤ nmF B L lo hi p f ∧ nmF B L lo hi p f ≤ 1000000 := by
  have q := sk_rg (B := B) (L := L) (p := p)
  unfold nmF nfa ff
  repeat' split
  all_goals omega
theorem nmF_bad {B : Nat → Int} {L p : Nat} {lo hi f : Int} (hf : f ≠ 0) : nmF B L lo hi p f = f := nfa_bad hf
theorem nmR_rg {B : Nat → Int} {L p : Nat} {lo hi f : Int} (hT : Txt B L) : nmR B L lo hi p f = lo ∨ (lo ≤ nmR B L lo hi p f ∧ nmR B L lo hi p f ≤ hi) := by
  unfold nmR
  by_cases z : nmF B L lo hi p f = 0
  · rw [if_pos z]
    right
    unfold nmF nfa at z
    by_cases z0 : rn B L 48 57 (sk B L p) = 0
    · rw [if_pos z0] at z
      exact absurd z (ff_ne (by decide))
    · rw [if_neg z0] at z
      by_cases z1 : 5 < rn B L 48 57 (sk B L p) ∨ nmV B L p < lo ∨ hi < nmV B L p
      · rw [if_pos z1] at z
        exact absurd z (ff_ne (by decide))
      · omega
  · rw [if_neg z]; exact Or.inl rfl
abbrev Tq : Type := Nat × Int × Dat
/-- one JOB, behind its word -/
def smJ (B : Nat → Int) (L p : Nat) (P : Dat) : Tq :=
  let j := (P 0 5).toNat
  let f1 := nmF B L 0 (P 0 4 - 1) p 0
  let P1 := up P 2 j (nmR B L 0 (P 0 4 - 1) p 0)
  let q := sk B L (nmP B L p)
  let w := wdx B q (rn B L 97 122 q) (tws 1) 0
  if w = -1 then (q, ff f1 q 0, P1)
  else
    let p3 := q + rn B L 97 122 q
    let P2 := up (up P1 3 j w) 4 j (if w = 3 then 3 else if w = 2 then 4 else if w = 1 then 2 else 1)
    let f2 := nmF B L 1 30 p3 f1
    let P3 := up P2 5 j (nmR B L 1 30 p3 f1)
    let f3 := nmF B L 1 50 (nmP B L p3) f2
    let P4 := up P3 6 j (nmR B L 1 50 (nmP B L p3) f2)
    let f4 := nmF B L 0 50 (nmP B L (nmP B L p3)) f3
    let P5 := up P4 7 j (nmR B L 0 50 (nmP B L (nmP B L p3)) f3)
    (nmP B L (nmP B L (nmP B L p3)), f4, up P5 0 5 (P 0 5 + 1))
/-- one clause, no FAULT being there yet -/
def smK (B : Nat → Int) (L i p : Nat) (P : Dat) : Tq :=
  let q := sk B L p
  let k := wdx B q (rn B L 97 122 q) (tws 0) 0
  let p1 := q + rn B L 97 122 q
  if k = -1 then (q, ff 0 q 0, P)
  else if 40 ≤ i ∨ (k = 1 ∧ 3 ≤ P 0 4) ∨ (k = 2 ∧ 8 ≤ P 0 5) ∨ ¬ (k = 0 ↔ i = 0) then (q, ff 0 q 4, P)
  else if k = 0 then
    (nmP B L (nmP B L (nmP B L p1)), nmF B L 1 999 (nmP B L (nmP B L p1)) (nmF B L 20 99 (nmP B L p1) (nmF B L 1 9 p1 0)), up (up (up P 0 1 (nmR B L 1 9 p1 0)) 0 2 (nmR B L 20 99 (nmP B L p1) (nmF B L 1 9 p1 0))) 0 3 (nmR B L 1 999 (nmP B L (nmP B L p1)) (nmF B L 20 99 (nmP B L p1) (nmF B L 1 9 p1 0))))
  else if k = 1 then (nmP B L p1, nmF B L 1 20 p1 0, up (up P 1 (P 0 4).toNat (nmR B L 1 20 p1 0)) 0 4 (P 0 4 + 1))
  else if k = 2 then smJ B L p1 P
  else (nmP B L (nmP B L p1), nmF B L 0 999 (nmP B L p1) (nmF B L 0 2 p1 0), up P 8 (nmR B L 0 2 p1 0).toNat (nmR B L 0 999 (nmP B L p1) (nmF B L 0 2 p1 0)))
def smR (B : Nat → Int) (L : Nat) : Nat → Nat → Nat → Dat → Int × Dat
  | 0, _, _, P => (1, P)
  | d + 1, i, p, P =>
    let z := smK B L i p P
    let q := sk B L z.1
    if z.2.1 = 0 ∧ ch B L q = -1 then (0, z.2.2)
    else if z.2.1 = 0 ∧ ch B L q = 59 then smR B L d (i + 1) (q + 1) z.2.2
    else (ff z.2.1 q 0, z.2.2)
/-- what always holds of the numbers that are being read -/
def DP (P : Dat) : Prop := Bd 1000 P ∧ (∀ j, j < 8 → 0 ≤ P 3 j ∧ P 3 j ≤ 3)
def DC (P : Dat) : Prop := 0 ≤ P 0 4 ∧ P 0 4 ≤ 3 ∧ 0 ≤ P 0 5 ∧ P 0 5 ≤ 8
theorem DP.up {P : Dat} (h : DP P) {i j : Nat} {v : Int} (h1 : -1000 ≤ v) (h2 : v ≤ 1000) (h3 : i = 3 → 0 ≤ v ∧ v ≤ 3) : DP (up P i j v) := by
  refine ⟨h.1.up (by omega) (by omega), fun k hk => ?_⟩
  rw [up_at]
  by_cases z : 3 = i ∧ k = j
  · rw [if_pos z]; exact h3 z.1.symm
  · rw [if_neg z]; exact h.2 k hk
theorem up_ne {A : Dat} {i j i' j' : Nat} {v : Int} (h : i' ≠ i ∨ j' ≠ j) : up A i j v i' j' = A i' j' := by
  rw [up_at, if_neg (by omega)]
theorem dc_u {P : Dat} (h : DC P) {i j : Nat} {v : Int} (hne : i ≠ 0 ∨ (j ≠ 4 ∧ j ≠ 5)) : DC (up P i j v) := by
  obtain ⟨a, b, c, d⟩ := h
  refine ⟨?_, ?_, ?_, ?_⟩
  · rw [up_ne (by omega)]; exact a
  · rw [up_ne (by omega)]; exact b
  · rw [up_ne (by omega)]; exact c
  · rw [up_ne (by omega)]; exact d
theorem dc_5 {P : Dat} (h : DC P) {v : Int} (h1 : 0 ≤ v) (h2 : v ≤ 8) : DC (up P 0 5 v) := by
  obtain ⟨a, b, c, d⟩ := h
  refine ⟨?_, ?_, ?_, ?_⟩
  · rw [up_ne (by omega)]; exact a
  · rw [up_ne (by omega)]; exact b
  · rw [up_eq]; exact h1
  · rw [up_eq]; exact h2
theorem dc_4 {P : Dat} (h : DC P) {v : Int} (h1 : 0 ≤ v) (h2 : v ≤ 3) : DC (up P 0 4 v) := by
  obtain ⟨a, b, c, d⟩ := h
  refine ⟨?_, ?_, ?_, ?_⟩
  · rw [up_eq]; exact h1
  · rw [up_eq]; exact h2
  · rw [up_ne (by omega)]; exact c
  · rw [up_ne (by omega)]; exact d
theorem RepP.up {c : Nat} {σ : Mem} {A : Dat} (h : RepP c σ A) (i j : Nat) (v : Int) : RepP c (sI σ (c + i) j (w32 v)) (up A i j v) := fun i' hi j' hj => by
  rw [gI_sI, up_at]
  by_cases q : i' = i ∧ j' = j
  · rw [if_pos ⟨by omega, q.2⟩, if_pos q]
  · rw [if_neg (fun z => q ⟨by omega, z.2⟩), if_neg q]
    exact h i' hi j' hj
/-- the class in the middle of a SMITHY's text -/
def MC (B : Nat → Int) (L : Nat) (z : Tq) (σ : Mem) : Prop := TC B L z.1 z.2.1 σ ∧ RepP 3 σ z.2.2 ∧ DP z.2.2 ∧ DC z.2.2 ∧ z.1 ≤ 1000 ∧ 0 ≤ z.2.1 ∧ z.2.1 ≤ 100000
theorem ff_rg2 {f c : Int} {q : Nat} (hf : 0 ≤ f ∧ f ≤ 100000) (hq : q ≤ 1000) (hc : 0 ≤ c ∧ c ≤ 10) : 0 ≤ ff f q c ∧ ff f q c ≤ 100000 := by
  unfold ff
  split <;> omega
theorem nmF_rg2 {B : Nat → Int} {L p : Nat} {lo hi f : Int} (hf : 0 ≤ f ∧ f ≤ 100000) (hp : p ≤ 1000) (hL : L ≤ 400) : 0 ≤ nmF B L lo hi p f ∧ nmF B L lo hi p f ≤ 100000 := by
  have q := sk_rg (B := B) (L := L) (p := p)
  unfold nmF nfa ff
  repeat' split
  all_goals omega
theorem job81_c {F : Nat} {B : Nat → Int} {L p : Nat} {f b : Int} {P : Dat} {σ : Mem} (hT : Txt B L) (hF : 1000 ≤ F) (h : MC B L (p, f, P) σ) (h8 : P 0 5 < 8) (hb : 0 ≤ b ∧ b ≤ 10) : ∃ σ', m4_readJob_81 F 3 7 (w32 (P 0 5)) (w32 b) σ = some σ' ∧ MC B L (nmP B L (nmP B L (nmP B L p)), nmF B L 0 50 (nmP B L (nmP B L p)) (nmF B L 1 50 (nmP B L p) (nmF B L 1 30 p f)), up (up (up (up (up P 4 (P 0 5).toNat b) 5 (P 0 5).toNat (nmR B L 1 30 p f)) 6 (P 0 5).toNat (nmR B L 1 50 (nmP B L p) (nmF B L 1 30 p f))) 7 (P 0 5).toNat (nmR B L 0 50 (nmP B L (nmP B L p)) (nmF B L 1 50 (nmP B L p) (nmF B L 1 30 p f)))) 0 5 (P 0 5 + 1)) σ' := by
  have hL := hT.1
  obtain ⟨ht, hR, hD, hC, hp, hf1, hf2⟩ := h
  obtain ⟨c1, c2, c3, c4⟩ := id hC
  have hC : DC P := hC
  have ht : TC B L p f σ := ht
  have hR : RepP 3 σ P := hR
  have hD : DP P := hD
  have c1 : 0 ≤ P 0 4 := c1
  have c2 : P 0 4 ≤ 3 := c2
  have c3 : 0 ≤ P 0 5 := c3
  have hf1 : 0 ≤ f := hf1
  have hf2 : f ≤ 100000 := hf2
  have hp : p ≤ 1000 := hp
  have e5 : ∀ (P' : Dat) (σ' : Mem), RepP 3 σ' P' → gI σ' 3 5 = w32 (P' 0 5) := fun P' σ' h => h.at 0 5
  have p1 := nmP_rg (B := B) (L := L) (p := p)
  have p2 := nmP_rg (B := B) (L := L) (p := nmP B L p)
  have p3 := nmP_rg (B := B) (L := L) (p := nmP B L (nmP B L p))
  have F1 := nmF_rg2 (B := B) (L := L) (lo := 1) (hi := 30) ⟨hf1, hf2⟩ hp hL
  have F2 := nmF_rg2 (B := B) (L := L) (lo := 1) (hi := 50) F1 (show nmP B L p ≤ 1000 by omega) hL
  have F3 := nmF_rg2 (B := B) (L := L) (lo := 0) (hi := 50) F2 (show nmP B L (nmP B L p) ≤ 1000 by omega) hL
  have r1 := nmR_rg (B := B) (L := L) (p := p) (lo := 1) (hi := 30) (f := f) hT
  have r2 := nmR_rg (B := B) (L := L) (p := nmP B L p) (lo := 1) (hi := 50) (f := nmF B L 1 30 p f) hT
  have r3 := nmR_rg (B := B) (L := L) (p := nmP B L (nmP B L p)) (lo := 0) (hi := 50) (f := nmF B L 1 50 (nmP B L p) (nmF B L 1 30 p f)) hT
  have R1 := hR.up 4 (P 0 5).toNat b
  have T1 : TC B L p f (sI σ 7 (P 0 5).toNat (w32 b)) := ht.ne (by decide)
  obtain ⟨σ2, m2, T2, f2⟩ := nm_c (F := F) (lo := 1) (hi := 30) hT T1 (by omega) hF (by omega) (by decide) (by decide)
  have R2 := (R1.fr f2 (fun i hi => by omega)).up 5 (P 0 5).toNat (nmR B L 1 30 p f)
  have T3 : TC B L (nmP B L p) (nmF B L 1 30 p f) (sI σ2 8 (P 0 5).toNat (w32 (nmR B L 1 30 p f))) := T2.ne (by decide)
  obtain ⟨σ4, m4, T4, f4⟩ := nm_c (F := F) (lo := 1) (hi := 50) hT T3 (by omega) hF (by omega) (by decide) (by decide)
  have R4 := (R2.fr f4 (fun i hi => by omega)).up 6 (P 0 5).toNat (nmR B L 1 50 (nmP B L p) (nmF B L 1 30 p f))
  have T5 : TC B L (nmP B L (nmP B L p)) (nmF B L 1 50 (nmP B L p) (nmF B L 1 30 p f)) (sI σ4 9 (P 0 5).toNat (w32 (nmR B L 1 50 (nmP B L p) (nmF B L 1 30 p f)))) := T4.ne (by decide)
  obtain ⟨σ6, m6, T6, f6⟩ := nm_c (F := F) (lo := 0) (hi := 50) hT T5 (by omega) hF (by omega) (by decide) (by decide)
  have R6 := (R4.fr f6 (fun i hi => by omega)).up 7 (P 0 5).toNat (nmR B L 0 50 (nmP B L (nmP B L p)) (nmF B L 1 50 (nmP B L p) (nmF B L 1 30 p f)))
  have R7 := R6.up 0 5 (P 0 5 + 1)
  have g5 : ∀ (i j : Nat) (v : Int) (P' : Dat), i ≠ 0 → up P' i j v 0 5 = P' 0 5 := fun i j v P' hi => up_ne (Or.inl (by omega))
  have m2 : m8_number F (1 : Int32) (30 : Int32) (sI σ 7 (P 0 5).toNat (w32 b)) = _ := m2
  have m4 : m8_number F (1 : Int32) (50 : Int32) (sI σ2 8 (P 0 5).toNat (w32 (nmR B L 1 30 p f))) = _ := m4
  have m6 : m8_number F (0 : Int32) (50 : Int32) (sI σ4 9 (P 0 5).toNat (w32 (nmR B L 1 50 (nmP B L p) (nmF B L 1 30 p f)))) = _ := m6
  have q1 : gI (sI σ 7 (P 0 5).toNat (w32 b)) 3 5 = w32 (P 0 5) := by rw [gI_nec (by decide)]; exact e5 P σ hR
  have q2 : gI (sI σ2 8 (P 0 5).toNat (w32 (nmR B L 1 30 p f))) 3 5 = w32 (P 0 5) := by rw [gI_nec (by decide), f2.gI (by decide)]; exact q1
  have q3 : gI (sI σ4 9 (P 0 5).toNat (w32 (nmR B L 1 50 (nmP B L p) (nmF B L 1 30 p f)))) 3 5 = w32 (P 0 5) := by rw [gI_nec (by decide), f4.gI (by decide)]; exact q2
  have q4 : gI (sI σ6 10 (P 0 5).toNat (w32 (nmR B L 0 50 (nmP B L (nmP B L p)) (nmF B L 1 50 (nmP B L p) (nmF B L 1 30 p f))))) 3 5 = w32 (P 0 5) := by rw [gI_nec (by decide), f6.gI (by decide)]; exact q3
  unfold m4_readJob_81
  rw [gd_pos (w_inB (by omega) (by omega) (by omega)), w_nat (by omega) (by omega)]
  dsimp only
  rw [m2, Option.bind_some, q1, gd_pos (w_inB (by omega) (by omega) (by omega)), w_nat (by omega) (by omega)]
  show ∃ σ', (Option.bind (m8_number F (1 : Int32) (50 : Int32) (sI σ2 8 (P 0 5).toNat (w32 (nmR B L 1 30 p f)))) _) = some σ' ∧ _
  rw [m4, Option.bind_some, q2, gd_pos (w_inB (by omega) (by omega) (by omega)), w_nat (by omega) (by omega)]
  show ∃ σ', (Option.bind (m8_number F (0 : Int32) (50 : Int32) (sI σ4 9 (P 0 5).toNat (w32 (nmR B L 1 50 (nmP B L p) (nmF B L 1 30 p f))))) _) = some σ' ∧ _
  rw [m6, Option.bind_some, q3, gd_pos (w_inB (by omega) (by omega) (by omega)), w_nat (by omega) (by omega)]
  dsimp only
  refine ⟨_, rfl, ?_, ?_, ?_, ?_, ?_, F3.1, F3.2⟩
  · exact (T6.ne (by decide)).ne (by decide)
  · show RepP 3 (sI (sI σ6 10 (P 0 5).toNat _) 3 5 _) _
    rw [q4, wl_1, w_add]
    exact R7
  · exact ((((hD.up (by omega) (by omega) (fun z => by omega)).up (by omega) (by omega) (fun z => by omega)).up (by omega) (by omega) (fun z => by omega)).up (by omega) (by omega) (fun z => by omega)).up (by omega) (by omega) (fun z => by omega)
  · exact dc_5 (dc_u (dc_u (dc_u (dc_u hC (Or.inl (by decide))) (Or.inl (by decide))) (Or.inl (by decide))) (Or.inl (by decide))) (by omega) (by omega)
  · show nmP B L (nmP B L (nmP B L p)) ≤ 1000; omega
theorem job_c {F : Nat} {B : Nat → Int} {L p : Nat} {P : Dat} {σ : Mem} (hT : Txt B L) (hF : 1000 ≤ F) (h : MC B L (p, 0, P) σ) (h8 : P 0 5 < 8) : ∃ σ', m4_readJob F 3 σ = some σ' ∧ MC B L (smJ B L p P) σ' := by
  have hL := hT.1
  obtain ⟨ht, hR, hD, hC, hp, -, -⟩ := id h
  obtain ⟨c1, c2, c3, c4⟩ := id hC
  have hp : p ≤ 1000 := hp
  have ht : TC B L p 0 σ := ht
  have hR : RepP 3 σ P := hR
  have hD : DP P := hD
  have c1 : 0 ≤ P 0 4 := c1
  have c2 : P 0 4 ≤ 3 := c2
  have c3 : 0 ≤ P 0 5 := c3
  have c4 : P 0 5 ≤ 8 := c4
  have e5 : gI σ 3 5 = w32 (P 0 5) := hR.at 0 5
  have e4 : gI σ 3 4 = w32 (P 0 4) := hR.at 0 4
  have p1 := nmP_rg (B := B) (L := L) (p := p)
  have F1 := nmF_rg2 (B := B) (L := L) (p := p) (lo := 0) (hi := P 0 4 - 1) (f := 0) (by decide) hp hL
  have r1 := nmR_rg (B := B) (L := L) (p := p) (lo := 0) (hi := P 0 4 - 1) (f := 0) hT
  obtain ⟨σ1, m1, T1, f1⟩ := nm_c (F := F) (lo := 0) (hi := P 0 4 - 1) hT ht (by omega) hF (by decide) (by decide) (by omega)
  have m1 : m8_number F (0 : Int32) (w32 (P 0 4) - (1 : Int32)) σ = some (w32 (nmR B L 0 (P 0 4 - 1) p 0), σ1) := by rw [wl_1, w_sub]; exact m1
  have R2 := (hR.fr f1 (fun i hi => by omega)).up 2 (P 0 5).toNat (nmR B L 0 (P 0 4 - 1) p 0)
  have T2 : TC B L (nmP B L p) (nmF B L 0 (P 0 4 - 1) p 0) (sI σ1 5 (P 0 5).toNat (w32 (nmR B L 0 (P 0 4 - 1) p 0))) := T1.ne (by decide)
  obtain ⟨σ3, m3, T3, f3⟩ := next_c (F := F) hT T2 (by omega) hF
  have q := sk_rg (B := B) (L := L) (p := nmP B L p)
  have R3 := R2.fr f3 (fun i hi => by omega)
  have D3 : DP (up P 2 (P 0 5).toNat (nmR B L 0 (P 0 4 - 1) p 0)) := hD.up (by omega) (by omega) (fun z => by omega)
  have C3 : DC (up P 2 (P 0 5).toNat (nmR B L 0 (P 0 4 - 1) p 0)) := by
    refine ⟨?_, ?_, ?_, ?_⟩ <;> rw [up_ne (by omega)] <;> assumption
  have w1 := wdx_rg (B := B) (p := sk B L (nmP B L p)) (n := rn B L 97 122 (sk B L (nmP B L p))) (tws 1) 0 (by decide)
  have l1 : (tws 1).length = 4 := rfl
  have rr := (rn_rg (B := B) (L := L) (p := sk B L (nmP B L p)) (lo := 97) (hi := 122)).1
  unfold m4_readJob smJ
  rw [e4, m1, Option.bind_some, e5, gd_pos (w_inB (by omega) (by omega) (by omega)), w_nat (by omega) (by omega)]
  dsimp only
  show ∃ σ', (Option.bind (m8_next F (sI σ1 5 (P 0 5).toNat (w32 (nmR B L 0 (P 0 4 - 1) p 0)))) _) = some σ' ∧ _
  rw [m3, Option.bind_some]
  dsimp only
  rw [word_c (by decide) hT T3 (by omega) hF, Option.bind_some]
  by_cases z : wdx B (sk B L (nmP B L p)) (rn B L 97 122 (sk B L (nmP B L p))) (tws 1) 0 = -1
  · rw [if_pos (by rw [z]; rfl), if_pos z, T3.2.2.1]
    obtain ⟨σ4, m4, T4, f4⟩ := fail_c (F := F) (a := sk B L (nmP B L p)) (c := 0) T3 (by omega) (by omega)
    have m4 : m8_fail F (w32 (sk B L (nmP B L p) : Int)) (0 : Int32) σ3 = _ := m4
    have G := ff_rg2 (q := sk B L (nmP B L p)) (c := 0) F1 (by omega) (by decide)
    rw [m4, Option.bind_some]
    exact ⟨σ4, rfl, T4, R3.fr f4 (fun i hi => by omega), D3, C3, by show sk B L (nmP B L p) ≤ 1000; omega, G.1, G.2⟩
  · rw [if_neg (by rw [wl_m1, w_eq (by omega) (by omega) (by omega) (by omega)]; exact z), if_neg z]
    obtain ⟨σ4, m4, T4, f4⟩ := passWord_c (F := F) hT T3 (by omega) hF
    have R4 := R3.fr f4 (fun i hi => by omega)
    have e54 : gI σ4 3 5 = w32 (P 0 5) := by
      have := R4.at 0 5
      rw [up_ne (by omega)] at this
      exact this
    have R5 := R4.up 3 (P 0 5).toNat (wdx B (sk B L (nmP B L p)) (rn B L 97 122 (sk B L (nmP B L p))) (tws 1) 0)
    have T5 : TC B L (sk B L (nmP B L p) + rn B L 97 122 (sk B L (nmP B L p))) (nmF B L 0 (P 0 4 - 1) p 0) (sI σ4 6 (P 0 5).toNat (w32 (wdx B (sk B L (nmP B L p)) (rn B L 97 122 (sk B L (nmP B L p))) (tws 1) 0))) := T4.ne (by decide)
    rw [m4, Option.bind_some, e54, gd_pos (w_inB (by omega) (by omega) (by omega)), w_nat (by omega) (by omega)]
    have hpl : sk B L (nmP B L p) + rn B L 97 122 (sk B L (nmP B L p)) ≤ 1000 := by omega
    generalize wdx B (sk B L (nmP B L p)) (rn B L 97 122 (sk B L (nmP B L p))) (tws 1) 0 = w at *
    generalize sk B L (nmP B L p) + rn B L 97 122 (sk B L (nmP B L p)) = p3 at *
    have M5 : MC B L (p3, nmF B L 0 (P 0 4 - 1) p 0, up (up P 2 (P 0 5).toNat (nmR B L 0 (P 0 4 - 1) p 0)) 3 (P 0 5).toNat w) (sI σ4 6 (P 0 5).toNat (w32 w)) := by
      refine ⟨T5, R5, D3.up (by omega) (by omega) (fun _ => by omega), ?_, hpl, F1.1, F1.2⟩
      refine ⟨?_, ?_, ?_, ?_⟩ <;> show _ <;> rw [show (p3, nmF B L 0 (P 0 4 - 1) p 0, up (up P 2 (P 0 5).toNat (nmR B L 0 (P 0 4 - 1) p 0)) 3 (P 0 5).toNat w).2.2 = up (up P 2 (P 0 5).toNat (nmR B L 0 (P 0 4 - 1) p 0)) 3 (P 0 5).toNat w from rfl, up_ne (by omega), up_ne (by omega)] <;> assumption
    have e55 : up (up P 2 (P 0 5).toNat (nmR B L 0 (P 0 4 - 1) p 0)) 3 (P 0 5).toNat w 0 5 = P 0 5 := by rw [up_ne (by omega), up_ne (by omega)]
    have q5 : gI (sI σ4 6 (P 0 5).toNat (w32 w)) 3 5 = w32 (P 0 5) := by rw [gI_nec (by decide)]; exact e54
    have fin : ∀ b : Int, 0 ≤ b ∧ b ≤ 10 → (if w = 3 then 3 else if w = 2 then 4 else if w = 1 then 2 else 1) = b → ∃ σ', m4_readJob_81 F 3 7 (w32 (P 0 5)) (w32 b) (sI σ4 6 (P 0 5).toNat (w32 w)) = some σ' ∧ MC B L (nmP B L (nmP B L (nmP B L p3)), nmF B L 0 50 (nmP B L (nmP B L p3)) (nmF B L 1 50 (nmP B L p3) (nmF B L 1 30 p3 (nmF B L 0 (P 0 4 - 1) p 0))), up (up (up (up (up (up (up P 2 (P 0 5).toNat (nmR B L 0 (P 0 4 - 1) p 0)) 3 (P 0 5).toNat w) 4 (P 0 5).toNat (if w = 3 then 3 else if w = 2 then 4 else if w = 1 then 2 else 1)) 5 (P 0 5).toNat (nmR B L 1 30 p3 (nmF B L 0 (P 0 4 - 1) p 0))) 6 (P 0 5).toNat (nmR B L 1 50 (nmP B L p3) (nmF B L 1 30 p3 (nmF B L 0 (P 0 4 - 1) p 0)))) 7 (P 0 5).toNat (nmR B L 0 50 (nmP B L (nmP B L p3)) (nmF B L 1 50 (nmP B L p3) (nmF B L 1 30 p3 (nmF B L 0 (P 0 4 - 1) p 0))))) 0 5 (P 0 5 + 1)) σ' := by
      intro b hb eb
      obtain ⟨σ9, m9, M9⟩ := job81_c (F := F) (b := b) hT hF M5 (by rw [e55]; exact h8) hb
      rw [e55] at m9 M9
      rw [eb]
      exact ⟨σ9, m9, M9⟩
    by_cases z3 : w = 3
    · rw [if_pos (by rw [z3]; rfl), q5]
      exact fin 3 (by decide) (by rw [if_pos z3])
    · rw [if_neg (by rw [wl_3, w_eq (by omega) (by omega) (by omega) (by omega)]; exact z3), q5]
      rcases (show w = 0 ∨ w = 1 ∨ w = 2 by omega) with h0 | h0 | h0
      · rw [show (1 : Int32) <<< (w32 w &&& (31 : Int32)) = w32 1 by rw [h0]; decide]
        exact fin 1 (by decide) (by rw [h0]; decide)
      · rw [show (1 : Int32) <<< (w32 w &&& (31 : Int32)) = w32 2 by rw [h0]; decide]
        exact fin 2 (by decide) (by rw [h0]; decide)
      · rw [show (1 : Int32) <<< (w32 w &&& (31 : Int32)) = w32 4 by rw [h0]; decide]
        exact fin 4 (by decide) (by rw [h0]; decide)
theorem clause_c {F : Nat} {B : Nat → Int} {L i p : Nat} {P : Dat} {σ : Mem} (hT : Txt B L) (hF : 1000 ≤ F) (hi : i ≤ 40) (h : MC B L (p, 0, P) σ) : ∃ σ', m4_readClause F 3 (w32 (i : Int)) σ = some σ' ∧ MC B L (smK B L i p P) σ' := by
  have hL := hT.1
  obtain ⟨ht, hR, hD, hC, hp, -, -⟩ := id h
  obtain ⟨c1, c2, c3, c4⟩ := id hC
  have hp : p ≤ 1000 := hp
  have ht : TC B L p 0 σ := ht
  have hR : RepP 3 σ P := hR
  have hD : DP P := hD
  have hC : DC P := hC
  have c1 : 0 ≤ P 0 4 := c1
  have c2 : P 0 4 ≤ 3 := c2
  have c3 : 0 ≤ P 0 5 := c3
  have c4 : P 0 5 ≤ 8 := c4
  obtain ⟨σ1, m1, t1, f1⟩ := next_c (F := F) hT ht (by omega) hF
  have q := sk_rg (B := B) (L := L) (p := p)
  have rr := (rn_rg (B := B) (L := L) (p := sk B L p) (lo := 97) (hi := 122)).1
  have R1 := hR.fr f1 (fun i hi => by omega)
  have e5 : gI σ1 3 5 = w32 (P 0 5) := R1.at 0 5
  have e4 : gI σ1 3 4 = w32 (P 0 4) := R1.at 0 4
  have w0 := wdx_rg (B := B) (p := sk B L p) (n := rn B L 97 122 (sk B L p)) (tws 0) 0 (by decide)
  have l0 : (tws 0).length = 4 := rfl
  have hwd := word_c (F := F) (c1 := 0) (by decide) hT t1 (by omega) hF
  obtain ⟨σ2, m2, t2, f2⟩ := passWord_c (F := F) hT t1 (by omega) hF
  have R2 := R1.fr f2 (fun i hi => by omega)
  have hq1 : sk B L p ≤ 1000 := by omega
  have hq2 : sk B L p + rn B L 97 122 (sk B L p) ≤ 1000 := by omega
  unfold m4_readClause smK
  rw [m1, Option.bind_some]
  dsimp only
  rw [hwd, Option.bind_some, t1.2.2.1, e4]
  generalize wdx B (sk B L p) (rn B L 97 122 (sk B L p)) (tws 0) 0 = k at *
  generalize sk B L p + rn B L 97 122 (sk B L p) = p1 at *
  have bad : ∀ c : Int, 0 ≤ c ∧ c ≤ 10 → ∃ σ', (Option.bind (m8_fail F (w32 (sk B L p : Int)) (w32 c) σ1) fun p3 => some p3) = some σ' ∧ MC B L (sk B L p, ff 0 (sk B L p) c, P) σ' := by
    intro c hc
    obtain ⟨σ3, m3, t3, f3⟩ := fail_c (F := F) (a := sk B L p) (c := c) t1 (by omega) (by decide)
    have G := ff_rg2 (f := 0) (q := sk B L p) (c := c) (by decide) hq1 hc
    rw [m3, Option.bind_some]
    exact ⟨σ3, rfl, t3, R1.fr f3 (fun i hi => by omega), hD, hC, hq1, G.1, G.2⟩
  have bad4 : ∃ σ', m4_readClause_93 F 3 (w32 (i : Int)) σ1 = some σ' ∧ MC B L (sk B L p, ff 0 (sk B L p) 4, P) σ' := by
    unfold m4_readClause_93
    rw [t1.2.2.1]
    exact bad 4 (by decide)
  have bad60 : ∃ σ', m4_readClause_60 F 3 (w32 (i : Int)) (fun x3 s0 σ => m4_readClause_65 F 3 (w32 (i : Int)) x3 s0 σ) (w32 k) σ1 = some σ' ∧ MC B L (sk B L p, ff 0 (sk B L p) 4, P) σ' := by
    show ∃ σ', m4_readClause_65 F 3 (w32 (i : Int)) (w32 k) (1 : Int32) σ1 = some σ' ∧ _
    unfold m4_readClause_65
    rw [if_neg (by decide)]
    exact bad4
  by_cases zk : k = -1
  · rw [if_pos (by rw [zk]; rfl), if_pos zk]
    exact bad 0 (by decide)
  · rw [if_neg (by rw [wl_m1, w_eq (by omega) (by omega) (by omega) (by omega)]; exact zk), if_neg zk]
    by_cases z40 : 40 ≤ i
    · rw [if_pos (by rw [wl_40, w_le (by omega) (by omega) (by omega) (by omega)]; omega), if_pos (Or.inl z40)]
      exact bad60
    · rw [if_neg (by rw [wl_40, w_le (by omega) (by omega) (by omega) (by omega)]; omega)]
      -- the kind fits the place, or not
      have mid : ¬ (k = 1 ∧ 3 ≤ P 0 4) → ¬ (k = 2 ∧ 8 ≤ P 0 5) → ∃ σ', m4_readClause_65 F 3 (w32 (i : Int)) (w32 k) (0 : Int32) σ1 = some σ' ∧ MC B L (if 40 ≤ i ∨ (k = 1 ∧ 3 ≤ P 0 4) ∨ (k = 2 ∧ 8 ≤ P 0 5) ∨ ¬ (k = 0 ↔ i = 0) then (sk B L p, ff 0 (sk B L p) 4, P)
  else if k = 0 then
    (nmP B L (nmP B L (nmP B L p1)), nmF B L 1 999 (nmP B L (nmP B L p1)) (nmF B L 20 99 (nmP B L p1) (nmF B L 1 9 p1 0)), up (up (up P 0 1 (nmR B L 1 9 p1 0)) 0 2 (nmR B L 20 99 (nmP B L p1) (nmF B L 1 9 p1 0))) 0 3 (nmR B L 1 999 (nmP B L (nmP B L p1)) (nmF B L 20 99 (nmP B L p1) (nmF B L 1 9 p1 0))))
  else if k = 1 then (nmP B L p1, nmF B L 1 20 p1 0, up (up P 1 (P 0 4).toNat (nmR B L 1 20 p1 0)) 0 4 (P 0 4 + 1))
  else if k = 2 then smJ B L p1 P
  else (nmP B L (nmP B L p1), nmF B L 0 999 (nmP B L p1) (nmF B L 0 2 p1 0), up P 8 (nmR B L 0 2 p1 0).toNat (nmR B L 0 999 (nmP B L p1) (nmF B L 0 2 p1 0)))) σ' := by
        intro n1 n2
        have s90 : ∀ a b : Int32, (a = b ↔ (k = 0 ↔ i = 0)) → ∃ σ', m4_readClause_90 F 3 (w32 (i : Int)) (fun σ => (fun σ => m4_readClause_93 F 3 (w32 (i : Int)) σ) σ) (w32 k) a b σ1 = some σ' ∧ MC B L (if 40 ≤ i ∨ (k = 1 ∧ 3 ≤ P 0 4) ∨ (k = 2 ∧ 8 ≤ P 0 5) ∨ ¬ (k = 0 ↔ i = 0) then (sk B L p, ff 0 (sk B L p) 4, P)
  else if k = 0 then
    (nmP B L (nmP B L (nmP B L p1)), nmF B L 1 999 (nmP B L (nmP B L p1)) (nmF B L 20 99 (nmP B L p1) (nmF B L 1 9 p1 0)), up (up (up P 0 1 (nmR B L 1 9 p1 0)) 0 2 (nmR B L 20 99 (nmP B L p1) (nmF B L 1 9 p1 0))) 0 3 (nmR B L 1 999 (nmP B L (nmP B L p1)) (nmF B L 20 99 (nmP B L p1) (nmF B L 1 9 p1 0))))
  else if k = 1 then (nmP B L p1, nmF B L 1 20 p1 0, up (up P 1 (P 0 4).toNat (nmR B L 1 20 p1 0)) 0 4 (P 0 4 + 1))
  else if k = 2 then smJ B L p1 P
  else (nmP B L (nmP B L p1), nmF B L 0 999 (nmP B L p1) (nmF B L 0 2 p1 0), up P 8 (nmR B L 0 2 p1 0).toNat (nmR B L 0 999 (nmP B L p1) (nmF B L 0 2 p1 0)))) σ' := by
          intro a b hab
          unfold m4_readClause_90
          by_cases zo : (k = 0 ↔ i = 0)
          · rw [if_pos (hab.mpr zo), if_neg (by
              intro z
              rcases z with z | z | z | z
              · exact z40 z
              · exact n1 z
              · exact n2 z
              · exact z zo), m2, Option.bind_some]
            have p2 := nmP_rg (B := B) (L := L) (p := p1)
            have p3 := nmP_rg (B := B) (L := L) (p := nmP B L p1)
            have p4 := nmP_rg (B := B) (L := L) (p := nmP B L (nmP B L p1))
            by_cases k0 : k = 0
            · rw [if_pos (by rw [k0]; rfl), if_pos k0]
              have F1 := nmF_rg2 (B := B) (L := L) (p := p1) (lo := 1) (hi := 9) (f := 0) (by decide) hq2 hL
              have F2 := nmF_rg2 (B := B) (L := L) (p := nmP B L p1) (lo := 20) (hi := 99) F1 (by omega) hL
              have F3 := nmF_rg2 (B := B) (L := L) (p := nmP B L (nmP B L p1)) (lo := 1) (hi := 999) F2 (by omega) hL
              have r1 := nmR_rg (B := B) (L := L) (p := p1) (lo := 1) (hi := 9) (f := 0) hT
              have r2 := nmR_rg (B := B) (L := L) (p := nmP B L p1) (lo := 20) (hi := 99) (f := nmF B L 1 9 p1 0) hT
              have r3 := nmR_rg (B := B) (L := L) (p := nmP B L (nmP B L p1)) (lo := 1) (hi := 999) (f := nmF B L 20 99 (nmP B L p1) (nmF B L 1 9 p1 0)) hT
              obtain ⟨σ4, m4, T4, f4⟩ := nm_c (F := F) (lo := 1) (hi := 9) hT t2 (by omega) hF (by decide) (by decide) (by decide)
              have R4 := (R2.fr f4 (fun i hi => by omega)).up 0 1 (nmR B L 1 9 p1 0)
              have T5 : TC B L (nmP B L p1) (nmF B L 1 9 p1 0) (sI σ4 3 1 (w32 (nmR B L 1 9 p1 0))) := T4.ne (by decide)
              obtain ⟨σ6, m6, T6, f6⟩ := nm_c (F := F) (lo := 20) (hi := 99) hT T5 (by omega) hF (by omega) (by decide) (by decide)
              have R6 := (R4.fr f6 (fun i hi => by omega)).up 0 2 (nmR B L 20 99 (nmP B L p1) (nmF B L 1 9 p1 0))
              have T7 : TC B L (nmP B L (nmP B L p1)) (nmF B L 20 99 (nmP B L p1) (nmF B L 1 9 p1 0)) (sI σ6 3 2 (w32 (nmR B L 20 99 (nmP B L p1) (nmF B L 1 9 p1 0)))) := T6.ne (by decide)
              obtain ⟨σ8, m8, T8, f8⟩ := nm_c (F := F) (lo := 1) (hi := 999) hT T7 (by omega) hF (by omega) (by decide) (by decide)
              have R8 := (R6.fr f8 (fun i hi => by omega)).up 0 3 (nmR B L 1 999 (nmP B L (nmP B L p1)) (nmF B L 20 99 (nmP B L p1) (nmF B L 1 9 p1 0)))
              have m4 : m8_number F (1 : Int32) (9 : Int32) σ2 = _ := m4
              have m6 : m8_number F (20 : Int32) (99 : Int32) (sI σ4 3 1 (w32 (nmR B L 1 9 p1 0))) = _ := m6
              have m8 : m8_number F (1 : Int32) (999 : Int32) (sI σ6 3 2 (w32 (nmR B L 20 99 (nmP B L p1) (nmF B L 1 9 p1 0)))) = _ := m8
              rw [m4, Option.bind_some]
              dsimp only
              rw [m6, Option.bind_some]
              dsimp only
              rw [m8, Option.bind_some]
              refine ⟨_, rfl, T8.ne (by decide), R8, ((hD.up (by omega) (by omega) (fun z => by omega)).up (by omega) (by omega) (fun z => by omega)).up (by omega) (by omega) (fun z => by omega), ?_, by show nmP B L (nmP B L (nmP B L p1)) ≤ 1000; omega, F3.1, F3.2⟩
              exact dc_u (dc_u (dc_u hC (Or.inr (by decide))) (Or.inr (by decide))) (Or.inr (by decide))
            · rw [if_neg (by rw [wl_0, w_eq (by omega) (by omega) (by omega) (by omega)]; exact k0), if_neg k0]
              by_cases k1 : k = 1
              · rw [if_pos (by rw [k1]; rfl), if_pos k1]
                have F1 := nmF_rg2 (B := B) (L := L) (p := p1) (lo := 1) (hi := 20) (f := 0) (by decide) hq2 hL
                have r1 := nmR_rg (B := B) (L := L) (p := p1) (lo := 1) (hi := 20) (f := 0) hT
                obtain ⟨σ4, m4, T4, f4⟩ := nm_c (F := F) (lo := 1) (hi := 20) hT t2 (by omega) hF (by decide) (by decide) (by decide)
                have R4 := (R2.fr f4 (fun i hi => by omega)).up 1 (P 0 4).toNat (nmR B L 1 20 p1 0)
                have R5 := R4.up 0 4 (P 0 4 + 1)
                have m4 : m8_number F (1 : Int32) (20 : Int32) σ2 = _ := m4
                have e42 : gI σ2 3 4 = w32 (P 0 4) := R2.at 0 4
                have e43 : gI (sI σ4 4 (P 0 4).toNat (w32 (nmR B L 1 20 p1 0))) 3 4 = w32 (P 0 4) := by rw [gI_nec (by decide), f4.gI (by decide)]; exact e42
                rw [m4, Option.bind_some, e42, gd_pos (w_inB (by omega) (by omega) (by omega)), w_nat (by omega) (by omega)]
                refine ⟨_, rfl, (T4.ne (by decide)).ne (by decide), ?_, (hD.up (by omega) (by omega) (fun z => by omega)).up (by omega) (by omega) (fun z => by omega), ?_, by show nmP B L p1 ≤ 1000; omega, F1.1, F1.2⟩
                · show RepP 3 (sI (sI σ4 4 (P 0 4).toNat (w32 (nmR B L 1 20 p1 0))) 3 4 (gI (sI σ4 4 (P 0 4).toNat (w32 (nmR B L 1 20 p1 0))) 3 4 + 1)) _
                  rw [e43, wl_1, w_add]
                  exact R5
                · exact dc_4 (dc_u hC (Or.inl (by decide))) (by omega) (by omega)
              · rw [if_neg (by rw [wl_1, w_eq (by omega) (by omega) (by omega) (by omega)]; exact k1), if_neg k1]
                by_cases k2 : k = 2
                · rw [if_pos (by rw [k2]; rfl), if_pos k2]
                  obtain ⟨σ4, m4, M4⟩ := job_c (F := F) (p := p1) (P := P) hT hF ⟨t2, R2, hD, hC, hq2, Int.le_refl _, show (0 : Int) ≤ 100000 by decide⟩ (by omega)
                  rw [m4]
                  exact ⟨σ4, rfl, M4⟩
                · rw [if_neg (by rw [wl_2, w_eq (by omega) (by omega) (by omega) (by omega)]; exact k2), if_neg k2]
                  have F1 := nmF_rg2 (B := B) (L := L) (p := p1) (lo := 0) (hi := 2) (f := 0) (by decide) hq2 hL
                  have F2 := nmF_rg2 (B := B) (L := L) (p := nmP B L p1) (lo := 0) (hi := 999) F1 (by omega) hL
                  have r1 := nmR_rg (B := B) (L := L) (p := p1) (lo := 0) (hi := 2) (f := 0) hT
                  have r2 := nmR_rg (B := B) (L := L) (p := nmP B L p1) (lo := 0) (hi := 999) (f := nmF B L 0 2 p1 0) hT
                  obtain ⟨σ4, m4, T4, f4⟩ := nm_c (F := F) (lo := 0) (hi := 2) hT t2 (by omega) hF (by decide) (by decide) (by decide)
                  obtain ⟨σ6, m6, T6, f6⟩ := nm_c (F := F) (lo := 0) (hi := 999) hT T4 (by omega) hF (by omega) (by decide) (by decide)
                  have R6 := ((R2.fr f4 (fun i hi => by omega)).fr f6 (fun i hi => by omega)).up 8 (nmR B L 0 2 p1 0).toNat (nmR B L 0 999 (nmP B L p1) (nmF B L 0 2 p1 0))
                  have m4 : m8_number F (0 : Int32) (2 : Int32) σ2 = _ := m4
                  have m6 : m8_number F (0 : Int32) (999 : Int32) σ4 = _ := m6
                  rw [m4, Option.bind_some]
                  dsimp only
                  rw [m6, Option.bind_some, gd_pos (w_inB (by omega) (by omega) (by omega)), w_nat (by omega) (by omega)]
                  refine ⟨_, rfl, T6.ne (by decide), R6, hD.up (by omega) (by omega) (fun z => by omega), ?_, by show nmP B L (nmP B L p1) ≤ 1000; omega, F2.1, F2.2⟩
                  exact dc_u hC (Or.inl (by decide))
          · rw [if_neg (fun z => zo (hab.mp z)), if_pos (Or.inr (Or.inr (Or.inr zo)))]
            exact bad4
        unfold m4_readClause_65 m4_readClause_81
        rw [if_pos rfl]
        by_cases k0 : k = 0
        · rw [if_pos (by rw [k0]; rfl)]
          by_cases i0 : i = 0
          · rw [if_pos (by rw [i0]; rfl)]
            exact s90 1 1 ⟨fun _ => ⟨fun _ => i0, fun _ => k0⟩, fun _ => rfl⟩
          · rw [if_neg (by rw [wl_0, w_eq (by omega) (by omega) (by omega) (by omega)]; omega)]
            exact s90 1 0 ⟨fun z => absurd z (by decide), fun z => absurd (z.mp k0) i0⟩
        · rw [if_neg (by rw [wl_0, w_eq (by omega) (by omega) (by omega) (by omega)]; exact k0)]
          by_cases i0 : i = 0
          · rw [if_pos (by rw [i0]; rfl)]
            exact s90 0 1 ⟨fun z => absurd z (by decide), fun z => absurd (z.mpr i0) k0⟩
          · rw [if_neg (by rw [wl_0, w_eq (by omega) (by omega) (by omega) (by omega)]; omega)]
            exact s90 0 0 ⟨fun _ => ⟨fun z => absurd z k0, fun z => absurd z i0⟩, fun _ => rfl⟩
      have s46 : ¬ (k = 1 ∧ 3 ≤ P 0 4) → ∃ σ', m4_readClause_46 F 3 (w32 (i : Int)) (fun x3 σ => m4_readClause_60 F 3 (w32 (i : Int)) (fun x3 s0 σ => m4_readClause_65 F 3 (w32 (i : Int)) x3 s0 σ) x3 σ) (fun x3 s0 σ => m4_readClause_65 F 3 (w32 (i : Int)) x3 s0 σ) (w32 k) σ1 = some σ' ∧ MC B L (if 40 ≤ i ∨ (k = 1 ∧ 3 ≤ P 0 4) ∨ (k = 2 ∧ 8 ≤ P 0 5) ∨ ¬ (k = 0 ↔ i = 0) then (sk B L p, ff 0 (sk B L p) 4, P)
  else if k = 0 then
    (nmP B L (nmP B L (nmP B L p1)), nmF B L 1 999 (nmP B L (nmP B L p1)) (nmF B L 20 99 (nmP B L p1) (nmF B L 1 9 p1 0)), up (up (up P 0 1 (nmR B L 1 9 p1 0)) 0 2 (nmR B L 20 99 (nmP B L p1) (nmF B L 1 9 p1 0))) 0 3 (nmR B L 1 999 (nmP B L (nmP B L p1)) (nmF B L 20 99 (nmP B L p1) (nmF B L 1 9 p1 0))))
  else if k = 1 then (nmP B L p1, nmF B L 1 20 p1 0, up (up P 1 (P 0 4).toNat (nmR B L 1 20 p1 0)) 0 4 (P 0 4 + 1))
  else if k = 2 then smJ B L p1 P
  else (nmP B L (nmP B L p1), nmF B L 0 999 (nmP B L p1) (nmF B L 0 2 p1 0), up P 8 (nmR B L 0 2 p1 0).toNat (nmR B L 0 999 (nmP B L p1) (nmF B L 0 2 p1 0)))) σ' := by
        intro n1
        unfold m4_readClause_46
        by_cases k2 : k = 2
        · rw [if_pos (by rw [k2]; rfl), e5]
          by_cases z8 : P 0 5 < 8
          · rw [if_pos (by rw [wl_8, w_lt (by omega) (by omega) (by omega) (by omega)]; exact z8)]
            exact mid n1 (fun z => by omega)
          · rw [if_neg (by rw [wl_8, w_lt (by omega) (by omega) (by omega) (by omega)]; exact z8), if_pos (Or.inr (Or.inr (Or.inl ⟨k2, by omega⟩)))]
            exact bad60
        · rw [if_neg (by rw [wl_2, w_eq (by omega) (by omega) (by omega) (by omega)]; exact k2)]
          exact mid n1 (fun z => k2 z.1)
      by_cases k1 : k = 1
      · rw [if_pos (by rw [k1]; rfl)]
        by_cases z3 : 3 ≤ P 0 4
        · rw [if_pos (by rw [wl_3, w_le (by omega) (by omega) (by omega) (by omega)]; exact z3), if_pos (Or.inr (Or.inl ⟨k1, z3⟩))]
          exact bad60
        · rw [if_neg (by rw [wl_3, w_le (by omega) (by omega) (by omega) (by omega)]; exact z3)]
          exact s46 (fun z => z3 z.2)
      · rw [if_neg (by rw [wl_1, w_eq (by omega) (by omega) (by omega) (by omega)]; exact k1)]
        exact s46 (fun z => k1 z.1)
