/-! THE WORLD: what the class and the reference hold between calls -/
abbrev Wd : Type := Dat × Dat × Dat × Int × Int
def wP (w : Wd) : Dat := w.1
def wA (w : Wd) : Dat := w.2.1
def wN (w : Wd) : Dat := w.2.2.1
def wF (w : Wd) : Int := w.2.2.2.1
def wX (w : Wd) : Int := w.2.2.2.2
/-- world; rules; tape; what can be undone, the oldest first; images -/
abbrev Ab : Type := Wd × (Nat × (Nat → Dat)) × (Nat × (Nat → Int)) × (Nat × (Nat → Dat)) × (Nat → Option Wd)
def sW (S : Ab) : Wd := S.1
def sRc (S : Ab) : Nat := S.2.1.1
def sRu (S : Ab) : Nat → Dat := S.2.1.2
def sLen (S : Ab) : Nat := S.2.2.1.1
def sB (S : Ab) : Nat → Int := S.2.2.1.2
def sPc (S : Ab) : Nat := S.2.2.2.1.1
def sH (S : Ab) : Nat → Dat := S.2.2.2.1.2
def sIm (S : Ab) : Nat → Option Wd := S.2.2.2.2
def CW (c : Nat) (σ : Mem) (w : Wd) : Prop := RepP (c + 1) σ (wP w) ∧ RepS (c + 10) σ (wA w) ∧ RepN (c + 20) σ (wN w) ∧ gI σ c 3 = w32 (wF w) ∧ gI σ c 4 = w32 (wX w)
def pastAt (pn pc i : Nat) : Nat := 187 + 10 * ((pn + 20 - pc + i) % 20)
def CInv (S : Ab) (σ : Mem) : Prop :=
  CW 16 σ (sW S) ∧ (gI σ 0 4 = w32 (sRc S : Int) ∧ ∀ k, k < sRc S → RepG (151 + 6 * k) σ (sRu S k)) ∧
  (gI σ 1 1 = w32 (sLen S : Int) ∧ ∀ i, i < sLen S → gI σ 2 i = w32 (sB S i)) ∧
  (∃ pn : Nat, pn < 20 ∧ gI σ 0 7 = w32 (pn : Int) ∧ gI σ 0 6 = w32 (sPc S : Int) ∧ ∀ i, i < sPc S → RepS (pastAt pn (sPc S) i) σ (sH S i)) ∧
  (∀ k, k < 4 → match sIm S k with
    | none => gI σ 15 k = w32 0
    | some w => gI σ 15 k = w32 1 ∧ CW (387 + 24 * k) σ w)
/-- a plan and a state as the reference holds them, at any row of numbers -/
def SaidQ (f : Nat → Int32) (P A : Dat) : Prop :=
  (∀ i j, i ≤ 10 → sok P i j → f (sidx i j) = w32 (A i j)) ∧ (∀ j, j < 5 → f j = w32 (P 0 (j + 1))) ∧ (∀ p : Nat, (p : Int) < P 0 4 → f (15 + 7 * p) = w32 (P 1 p)) ∧
  (∀ j : Nat, (j : Int) < P 0 5 → f (31 + 8 * j) = w32 (P 2 j) ∧ f (32 + 8 * j) = w32 (P 3 j) ∧ f (34 + 8 * j) = w32 (P 6 j) ∧ f (35 + 8 * j) = w32 (P 7 j) ∧ f (38 + 8 * j) = w32 (P 5 j))
def SaidR (f : Nat → Int32) (P A : Dat) : Prop := SaidQ f P A ∧ ∀ k, k < 3 → f (98 + k) = w32 (P 8 k)
theorem SaidR.A {σ : Mem} {P A : Dat} (h : SaidR (gI σ 493) P A) (h27 : gI σ 483 27 = w32 (A 9 3)) : RepA σ P A := ⟨h.1.1, h.1.2.1, h.1.2.2.1, h.1.2.2.2, h.2, h27⟩
theorem RepA.S {σ : Mem} {P A : Dat} (h : RepA σ P A) : SaidR (gI σ 493) P A := ⟨⟨h.1, h.2.1, h.2.2.1, h.2.2.2.1⟩, h.2.2.2.2.1⟩
theorem SaidQ.same {f g : Nat → Int32} {P A : Dat} (h : SaidQ f P A) (h4 : P 0 4 ≤ 3) (h5 : P 0 5 ≤ 8) (e : ∀ k, k < 98 → g k = f k) : SaidQ g P A := by
  refine ⟨fun i j hi hs => ?_, fun j hj => ?_, fun p hp => ?_, fun j hj => ?_⟩
  · rw [e _ (by have := sidx_pl h4 h5 hi hs; omega)]; exact h.1 i j hi hs
  · rw [e _ (by omega)]; exact h.2.1 j hj
  · rw [e _ (by omega)]; exact h.2.2.1 p hp
  · rw [e _ (by omega), e _ (by omega), e _ (by omega), e _ (by omega), e _ (by omega)]; exact h.2.2.2 j hj
def NoteR (f : Nat → Int32) (N : Dat) : Prop := f 131 = w32 (N 0 0) ∧ ∀ i : Nat, (i : Int) < N 0 0 → f (101 + 3 * i) = w32 (N 1 i) ∧ f (102 + 3 * i) = w32 (N 2 i) ∧ f (103 + 3 * i) = w32 (N 3 i)
def RInv (S : Ab) (σ : Mem) : Prop :=
  (SaidR (gI σ 493) (wP (sW S)) (wA (sW S)) ∧ NoteR (gI σ 493) (wN (sW S))) ∧
  (gI σ 483 21 = w32 (wF (sW S)) ∧ gI σ 483 22 = w32 (wX (sW S)) ∧ gI σ 483 23 = w32 (-1) ∧ gI σ 483 24 = w32 (-1) ∧ gI σ 483 25 = w32 0 ∧ gI σ 483 26 = w32 0 ∧ gI σ 483 27 = w32 0 ∧ gI σ 483 28 = w32 0) ∧
  (gI σ 483 2 = w32 (sRc S : Int) ∧ ∀ k, k < sRc S → RepGr k σ (sRu S k)) ∧
  (gI σ 483 1 = w32 (sLen S : Int) ∧ ∀ i, i < sLen S → gI σ 484 i = (w32 (sB S i)).toInt8.toInt32) ∧
  (gI σ 483 34 = w32 (sPc S : Int) ∧ ∀ i, i < sPc S → SaidQ (fun k => gI σ 497 (98 * i + k)) (wP (sW S)) (sH S i)) ∧
  (∀ k, k < 4 → match sIm S k with
    | none => gI σ 509 k = w32 0
    | some w => gI σ 509 k = w32 1 ∧ gI σ 507 k = w32 (wF w) ∧ gI σ 508 k = w32 (wX w) ∧ SaidR (fun i => gI σ 506 (132 * k + i)) (wP w) (wA w) ∧ NoteR (fun i => gI σ 506 (132 * k + i)) (wN w))
/-- pay earned by a smith: of the jobs that are done -/
def earnL (P A : Dat) (p : Int) : Nat → Nat → Int → Int
  | 0, _, s => s
  | d + 1, j, s => earnL P A p d (j + 1) (if P 2 j = p ∧ A 6 j = 0 then s + P 7 j else s)
def earnN (P A : Dat) (p : Int) : Int := earnL P A p (P 0 5).toNat 0 0
def WfPl (P : Dat) : Prop := WfP P ∧ WfJ P ∧ WfB P ∧ (P 0 0 = 0 ∨ P 0 0 = 1) ∧ (P 0 0 = 1 ↔ 0 < P 0 1) ∧ P 0 2 ≤ 99 ∧ (P 0 0 = 0 → P 0 4 = 0 ∧ P 0 5 = 0) ∧ (∀ j : Nat, (j : Int) < P 0 5 → 0 ≤ P 7 j ∧ P 7 j ≤ 50) ∧ (∀ k, k < 3 → 0 ≤ P 8 k) ∧ (∀ p : Nat, (p : Int) < P 0 4 → 1 ≤ P 1 p)
def WfSt (P A : Dat) (t : Nat) : Prop := WfI P A t ∧ A 9 3 = 0 ∧ (∀ p : Nat, (p : Int) < P 0 4 → A 10 p = earnN P A p) ∧ ∀ j, 0 ≤ A 8 j ∧ A 8 j ≤ 10000 + t
def WfN (N : Dat) : Prop := 0 ≤ N 0 0 ∧ N 0 0 ≤ 10 ∧ ∀ i : Nat, (i : Int) < N 0 0 → 0 ≤ N 1 i ∧ N 1 i ≤ 99 ∧ 0 ≤ N 2 i ∧ N 2 i ≤ 2 ∧ 0 ≤ N 3 i ∧ N 3 i ≤ 9999
def WfW (w : Wd) (rc t : Nat) : Prop := WfPl (wP w) ∧ WfSt (wP w) (wA w) t ∧ WfN (wN w) ∧ -1 ≤ wF w ∧ wF w < rc ∧ 0 ≤ wX w ∧ wX w ≤ 2147483647
def Wf (t : Nat) (S : Ab) : Prop :=
  WfW (sW S) (sRc S) t ∧ (sRc S ≤ 6 ∧ ∀ k, k < sRc S → WfR (sRu S k) ∧ WfL (sRu S k)) ∧ (sLen S ≤ 400 ∧ ∀ i, i < sLen S → 0 ≤ sB S i ∧ sB S i ≤ 255) ∧ (sPc S ≤ 20 ∧ ∀ i, i < sPc S → WfSt (wP (sW S)) (sH S i) t) ∧ ∀ k w, k < 4 → sIm S k = some w → WfW w (sRc S) t
/-! who may write what between calls -/
def Scr (c : Nat) : Prop := (40 ≤ c ∧ c ≤ 150) ∨ (151 ≤ c ∧ c ≤ 186 ∧ c % 6 = 0) ∨ c = 1000 ∨ (483 ≤ c ∧ c ≤ 509)
theorem CW.fr {W : Nat → Prop} {σ σ' : Mem} {c : Nat} {w : Wd} (h : CW c σ w) (f : Fr W σ σ') (hw : ∀ i, i ≤ 23 → ¬ W (c + i)) : CW c σ' w := by
  obtain ⟨a, b, d, e, g⟩ := h
  refine ⟨a.fr f (fun i hi => ?_), b.fr f (fun i hi => ?_), d.fr f (fun i hi => ?_), ?_, ?_⟩
  · rw [Nat.add_assoc]; exact hw _ (by omega)
  · rw [Nat.add_assoc]; exact hw _ (by omega)
  · rw [Nat.add_assoc]; exact hw _ (by omega)
  · rw [f.gI (show ¬ W c from hw 0 (by decide))]; exact e
  · rw [f.gI (show ¬ W c from hw 0 (by decide))]; exact g
theorem CInv.fr {W : Nat → Prop} {σ σ' : Mem} {S : Ab} (h : CInv S σ) (wf : sRc S ≤ 6) (f : Fr W σ σ') (hw : ∀ c, W c → Scr c) : CInv S σ' := by
  obtain ⟨a, ⟨b1, b2⟩, ⟨d1, d2⟩, ⟨pn, e1, e2, e3, e4⟩, g⟩ := h
  have no : ∀ c, c < 40 ∨ (151 ≤ c ∧ c ≤ 186 ∧ c % 6 ≠ 0) ∨ (186 < c ∧ c < 483) → ¬ W c := fun c hc z => by
    have := hw c z
    unfold Scr at this
    omega
  have pa : ∀ i, 187 ≤ pastAt pn (sPc S) i ∧ pastAt pn (sPc S) i ≤ 377 := fun i => by
    unfold pastAt
    have := Nat.mod_lt (pn + 20 - sPc S + i) (show 0 < 20 by decide)
    omega
  refine ⟨a.fr f (fun i hi => no _ (by omega)), ⟨?_, fun k hk => ?_⟩, ⟨?_, fun i hi => ?_⟩, ⟨pn, e1, ?_, ?_, fun i hi => ?_⟩, fun k hk => ?_⟩
  · rw [f.gI (no 0 (by decide))]; exact b1
  · exact (b2 k hk).fr f (fun i hi => no _ (by omega))
  · rw [f.gI (no 1 (by decide))]; exact d1
  · rw [f.gI (no 2 (by decide))]; exact d2 i hi
  · rw [f.gI (no 0 (by decide))]; exact e2
  · rw [f.gI (no 0 (by decide))]; exact e3
  · exact (e4 i hi).fr f (fun a ha => no _ (by have := pa i; omega))
  · have gk := g k hk
    cases hI : sIm S k with
    | none => rw [hI] at gk; rw [f.gI (no 15 (by decide))]; exact gk
    | some w =>
      rw [hI] at gk
      exact ⟨by rw [f.gI (no 15 (by decide))]; exact gk.1, gk.2.fr f (fun i hi => no _ (by omega))⟩
/-- the reference's side holds if its rows and slots are as they were -/
theorem RInv.same {σ σ' : Mem} {S : Ab} (h : RInv S σ) (wP0 : (wP (sW S)) 0 4 ≤ 3) (wP1 : (wP (sW S)) 0 5 ≤ 8) (hN : (wN (sW S)) 0 0 ≤ 10) (h493 : ∀ k, k < 132 → gI σ' 493 k = gI σ 493 k) (hs : ∀ j, j = 1 ∨ j = 2 ∨ (21 ≤ j ∧ j ≤ 28) ∨ j = 34 → gI σ' 483 j = gI σ 483 j) (hc : ∀ c, c = 484 ∨ c = 485 ∨ c = 487 ∨ c = 488 ∨ c = 497 ∨ (506 ≤ c ∧ c ≤ 509) → gI σ' c = gI σ c) : RInv S σ' := by
  obtain ⟨⟨a1, a2⟩, ⟨b1, b2, b3, b4, b5, b6, b7, b8⟩, ⟨c1, c2⟩, ⟨d1, d2⟩, ⟨e1, e2⟩, g⟩ := h
  refine ⟨⟨⟨a1.1.same wP0 wP1 (fun k hk => h493 k (by omega)), fun k hk => ?_⟩, ⟨?_, fun i hi => ?_⟩⟩, ⟨?_, ?_, ?_, ?_, ?_, ?_, ?_, ?_⟩, ⟨?_, fun k hk => ?_⟩, ⟨?_, fun i hi => ?_⟩, ⟨?_, fun i hi => ?_⟩, fun k hk => ?_⟩
  · rw [h493 _ (by omega)]; exact a1.2 k hk
  · rw [h493 _ (by omega)]; exact a2.1
  · rw [h493 _ (by omega), h493 _ (by omega), h493 _ (by omega)]; exact a2.2 i hi
  · rw [hs 21 (by omega)]; exact b1
  · rw [hs 22 (by omega)]; exact b2
  · rw [hs 23 (by omega)]; exact b3
  · rw [hs 24 (by omega)]; exact b4
  · rw [hs 25 (by omega)]; exact b5
  · rw [hs 26 (by omega)]; exact b6
  · rw [hs 27 (by omega)]; exact b7
  · rw [hs 28 (by omega)]; exact b8
  · rw [hs 2 (by omega)]; exact c1
  · obtain ⟨x, y, z⟩ := c2 k hk
    refine ⟨by rw [hc 488 (by omega)]; exact x, fun j hj => by rw [hc 485 (by omega)]; exact y j hj, fun i hi => ?_⟩
    rw [hc 487 (by omega)]; exact z i hi
  · rw [hs 1 (by omega)]; exact d1
  · rw [hc 484 (by omega)]; exact d2 i hi
  · rw [hs 34 (by omega)]; exact e1
  · rw [hc 497 (by omega)]; exact e2 i hi
  · have gk := g k hk
    cases hI : sIm S k with
    | none => rw [hI] at gk; rw [hc 509 (by omega)]; exact gk
    | some w =>
      rw [hI] at gk
      obtain ⟨x, y, z, u, v⟩ := gk
      refine ⟨by rw [hc 509 (by omega)]; exact x, by rw [hc 507 (by omega)]; exact y, by rw [hc 508 (by omega)]; exact z, ?_, ?_⟩
      · rw [hc 506 (by omega)]; exact u
      · rw [hc 506 (by omega)]; exact v
/-! the reference's copy of what was said -/
theorem keeps_r {F : Nat} {σ : Mem} (hF : 100 ≤ F) : ∃ σ', m12_keeps F σ = some σ' ∧ gI σ' 493 = gI σ 493 ∧ (∀ j, j < 98 → gI σ' 498 j = gI σ 493 j) ∧ gI σ' 483 27 = w32 0 := by
  have loop : ∀ (d n k : Nat) (τ : Mem), k + d = 98 → d < n → gI τ 493 = gI σ 493 → (∀ j, j < k → gI τ 498 j = gI σ 493 j) → ∃ σ', m12_keeps_2 F n (w32 (k : Int)) τ = some σ' ∧ gI σ' 493 = gI σ 493 ∧ (∀ j, j < 98 → gI σ' 498 j = gI σ 493 j) ∧ gI σ' 483 27 = w32 0 := by
    intro d
    induction d with
    | zero =>
      intro n k τ h1 h2 h3 h4
      obtain ⟨n, rfl⟩ : ∃ k, n = k + 1 := ⟨n - 1, by omega⟩
      unfold m12_keeps_2
      rw [if_pos (by rw [wl_98, w_le (by omega) (by omega) (by omega) (by omega)]; omega)]
      exact ⟨_, rfl, by rw [gI_ne _ _ _ (by decide)]; exact h3, fun j hj => by rw [gI_nec (by decide)]; exact h4 j (by omega), by rw [gI_eq]; rfl⟩
    | succ d ih =>
      intro n k τ h1 h2 h3 h4
      obtain ⟨n, rfl⟩ : ∃ k, n = k + 1 := ⟨n - 1, by omega⟩
      unfold m12_keeps_2
      rw [if_neg (by rw [wl_98, w_le (by omega) (by omega) (by omega) (by omega)]; omega), gd_pos (w_inB (by omega) (by omega) (by omega)), gd_pos (w_inB (by omega) (by omega) (by omega)), w_natk (by omega), w_succ]
      refine ih n (k + 1) _ (by omega) (by omega) (by rw [gI_ne _ _ _ (by decide)]; exact h3) (fun j hj => ?_)
      by_cases hjk : j = k
      · rw [hjk, gI_eq, h3]
      · rw [gI_nej hjk]; exact h4 j (by omega)
  exact loop 98 F 0 σ (by omega) (by omega) rfl (fun j hj => by omega)
theorem laysBack_r {F : Nat} {σ : Mem} (hF : 100 ≤ F) : ∃ σ', m12_laysBack F σ = some σ' ∧ (∀ j, gI σ' 493 j = if j < 98 then gI σ 498 j else gI σ 493 j) ∧ gI σ' 498 = gI σ 498 ∧ gI σ' 483 27 = w32 0 := by
  have loop : ∀ (d n k : Nat) (τ : Mem), k + d = 98 → d < n → gI τ 498 = gI σ 498 → (∀ j, gI τ 493 j = if j < k then gI σ 498 j else gI σ 493 j) → ∃ σ', m12_laysBack_2 F n (w32 (k : Int)) τ = some σ' ∧ (∀ j, gI σ' 493 j = if j < 98 then gI σ 498 j else gI σ 493 j) ∧ gI σ' 498 = gI σ 498 ∧ gI σ' 483 27 = w32 0 := by
    intro d
    induction d with
    | zero =>
      intro n k τ h1 h2 h3 h4
      obtain ⟨n, rfl⟩ : ∃ k, n = k + 1 := ⟨n - 1, by omega⟩
      unfold m12_laysBack_2
      rw [if_pos (by rw [wl_98, w_le (by omega) (by omega) (by omega) (by omega)]; omega)]
      rw [show k = 98 by omega] at h4
      exact ⟨_, rfl, fun j => by rw [gI_nec (by decide)]; exact h4 j, by rw [gI_ne _ _ _ (by decide)]; exact h3, by rw [gI_eq]; rfl⟩
    | succ d ih =>
      intro n k τ h1 h2 h3 h4
      obtain ⟨n, rfl⟩ : ∃ k, n = k + 1 := ⟨n - 1, by omega⟩
      unfold m12_laysBack_2
      rw [if_neg (by rw [wl_98, w_le (by omega) (by omega) (by omega) (by omega)]; omega), gd_pos (w_inB (by omega) (by omega) (by omega)), gd_pos (w_inB (by omega) (by omega) (by omega)), w_natk (by omega), w_succ]
      refine ih n (k + 1) _ (by omega) (by omega) (by rw [gI_ne _ _ _ (by decide)]; exact h3) (fun j => ?_)
      by_cases hjk : j = k
      · rw [hjk, gI_eq, h3, if_pos (by omega)]
      · rw [gI_nej hjk, h4 j]
        by_cases hj : j < k
        · rw [if_pos hj, if_pos (by omega)]
        · rw [if_neg hj, if_neg (by omega)]
  exact loop 98 F 0 σ (by omega) (by omega) rfl (fun j => by rw [if_neg (by omega)])
