/-! QUERY: order, 2: the class's search -/
def opI (b : Nat → Bool) : Nat → Nat → List Nat
  | 0, _ => []
  | d + 1, x => if b x then x :: opI b d (x + 1) else opI b d (x + 1)
theorem opI_congr {b b' : Nat → Bool} : ∀ (d x : Nat), (∀ y, x ≤ y → y < x + d → b y = b' y) → opI b d x = opI b' d x
  | 0, _, _ => rfl
  | d + 1, x, h => by
    unfold opI
    rw [h x (Nat.le_refl _) (by omega), opI_congr d (x + 1) (fun y h1 h2 => h y (by omega) (by omega))]
theorem opI_mem {b : Nat → Bool} {y : Nat} : ∀ (d x : Nat), y ∈ opI b d x ↔ x ≤ y ∧ y < x + d ∧ b y = true
  | 0, x => by
    unfold opI
    constructor
    · intro h; cases h
    · rintro ⟨h1, h2, -⟩; omega
  | d + 1, x => by
    unfold opI
    by_cases hb : b x = true
    · rw [if_pos hb, List.mem_cons, opI_mem d (x + 1)]
      constructor
      · rintro (h | ⟨h1, h2, h3⟩)
        · subst h; exact ⟨Nat.le_refl _, by omega, hb⟩
        · exact ⟨by omega, by omega, h3⟩
      · rintro ⟨h1, h2, h3⟩
        by_cases hx : y = x
        · exact Or.inl hx
        · exact Or.inr ⟨by omega, by omega, h3⟩
    · rw [if_neg hb, opI_mem d (x + 1)]
      constructor
      · rintro ⟨h1, h2, h3⟩
        exact ⟨by omega, by omega, h3⟩
      · rintro ⟨h1, h2, h3⟩
        by_cases hx : y = x
        · rw [hx] at h3; exact absurd h3 hb
        · exact ⟨by omega, by omega, h3⟩
theorem opI_erase {b : Nat → Bool} {y : Nat} : ∀ (d x : Nat), opI (fun z => b z && decide (z ≠ y)) d x = (opI b d x).erase y
  | 0, _ => rfl
  | d + 1, x => by
    unfold opI
    by_cases hx : x = y
    · have e : (b x && decide (x ≠ y)) = false := by rw [hx]; simp
      rw [if_neg (by rw [e]; decide)]
      by_cases hb : b x = true
      · rw [if_pos hb, hx, List.erase_cons_head]
        exact opI_congr d (y + 1) (fun z h1 _ => by rw [decide_eq_true (show z ≠ y by omega), Bool.and_true])
      · rw [if_neg hb]
        exact opI_erase d (x + 1)
    · have e : (b x && decide (x ≠ y)) = b x := by rw [decide_eq_true hx, Bool.and_true]
      rw [e]
      by_cases hb : b x = true
      · rw [if_pos hb, if_pos hb, List.erase_cons_tail (by simpa using hx), opI_erase d (x + 1)]
      · rw [if_neg hb, if_neg hb]
        exact opI_erase d (x + 1)
def prmL (g : Nat → List (List Nat)) : List Nat → List (List Nat)
  | [] => []
  | x :: xs => g x ++ prmL g xs
def prm : Nat → List Nat → List (List Nat)
  | 0, _ => [[]]
  | n + 1, l => prmL (fun x => (prm n (l.erase x)).map (fun is => x :: is)) l
def hz (P : Dat) (f : Nat → Nat) (p k x : Nat) (A : Dat) : Dat := if k = 0 ∧ ¬ (f x : Int) = jobN P A p then up A 1 p 0 else A
def pX (P : Dat) (f : Nat → Nat) (p k x : Nat) (A : Dat) : Dat := up (hz P f p k x A) 8 (f x) (-1)
def tmI (P : Dat) (ro : Option Dat) (f : Nat → Nat) (p : Nat) : Nat → List Nat → Nat → Dat → Option Nat
  | _, [], _, _ => some 0
  | k, x :: xs, d, A => if 0 < (leg P ro (f x) d (pX P f p k x A)).2 6 (f x) then none else Option.map (fun n => n + (leg P ro (f x) d (pX P f p k x A)).1) (tmI P ro f p (k + 1) xs (d - (leg P ro (f x) d (pX P f p k x A)).1) (leg P ro (f x) d (pX P f p k x A)).2)
theorem tmI_cons {P : Dat} {ro : Option Dat} {f : Nat → Nat} {p k x : Nat} {xs : List Nat} {d : Nat} {A : Dat} : tmI P ro f p k (x :: xs) d A = if 0 < (leg P ro (f x) d (pX P f p k x A)).2 6 (f x) then none else Option.map (fun n => n + (leg P ro (f x) d (pX P f p k x A)).1) (tmI P ro f p (k + 1) xs (d - (leg P ro (f x) d (pX P f p k x A)).1) (leg P ro (f x) d (pX P f p k x A)).2) := rfl
def lf (v : List Nat → Option Nat) (g : Nat) (pre : List Nat) (st : Nat × List Nat) (is : List Nat) : Nat × List Nat :=
  match v is with
  | some n => if g + n < st.1 then (g + n, pre ++ is) else st
  | none => st
theorem lf_none {v : List Nat → Option Nat} {g : Nat} {pre : List Nat} {st : Nat × List Nat} {is : List Nat} (h : v is = none) : lf v g pre st is = st := by
  unfold lf; rw [h]
theorem lf_some {v : List Nat → Option Nat} {g n : Nat} {pre : List Nat} {st : Nat × List Nat} {is : List Nat} (h : v is = some n) : lf v g pre st is = if g + n < st.1 then (g + n, pre ++ is) else st := by
  unfold lf; rw [h]
theorem lf_le {v : List Nat → Option Nat} {g : Nat} {pre : List Nat} {st : Nat × List Nat} {is : List Nat} : (lf v g pre st is).1 ≤ st.1 := by
  cases h : v is with
  | none => rw [lf_none h]; exact Nat.le_refl _
  | some n =>
    rw [lf_some h]
    by_cases z : g + n < st.1
    · rw [if_pos z]; exact Nat.le_of_lt z
    · rw [if_neg z]; exact Nat.le_refl _
theorem foldl_id {α β : Type} {f : β → α → β} {st : β} : ∀ (l : List α), (∀ a, a ∈ l → f st a = st) → l.foldl f st = st
  | [], _ => rfl
  | a :: l, h => by
    rw [List.foldl_cons, h a (List.mem_cons_self ..)]
    exact foldl_id l (fun b hb => h b (List.mem_cons_of_mem _ hb))
theorem fold_leg {P : Dat} {ro : Option Dat} {f : Nat → Nat} {p : Nat} (k x g : Nat) (pre : List Nat) (st : Nat × List Nat) (A : Dat) (l : List (List Nat)) (hb : st.1 ≤ 501) :
    (l.map (fun is => x :: is)).foldl (lf (fun is => tmI P ro f p k is (500 - g) A) g pre) st =
      if 0 < (leg P ro (f x) (st.1 - 1 - g) (pX P f p k x A)).2 6 (f x) then st
      else l.foldl (lf (fun is => tmI P ro f p (k + 1) is (500 - (g + (leg P ro (f x) (st.1 - 1 - g) (pX P f p k x A)).1)) (leg P ro (f x) (st.1 - 1 - g) (pX P f p k x A)).2) (g + (leg P ro (f x) (st.1 - 1 - g) (pX P f p k x A)).1) (pre ++ [x])) st := by
  rw [List.foldl_map]
  generalize hX : pX P f p k x A = X
  by_cases hd : 0 < (leg P ro (f x) (st.1 - 1 - g) X).2 6 (f x)
  · rw [if_pos hd]
    refine foldl_id l (fun is _ => ?_)
    by_cases h2 : 0 < (leg P ro (f x) (500 - g) X).2 6 (f x)
    · exact lf_none (show tmI P ro f p k (x :: is) (500 - g) A = none by rw [tmI_cons, hX, if_pos h2])
    · have late := leg_late _ _ X hd h2
      cases h : tmI P ro f p (k + 1) is (500 - g - (leg P ro (f x) (500 - g) X).1) (leg P ro (f x) (500 - g) X).2 with
      | none => exact lf_none (show tmI P ro f p k (x :: is) (500 - g) A = none by rw [tmI_cons, hX, if_neg h2, h]; rfl)
      | some n =>
        refine (lf_some (n := n + (leg P ro (f x) (500 - g) X).1) (show tmI P ro f p k (x :: is) (500 - g) A = some (n + (leg P ro (f x) (500 - g) X).1) by rw [tmI_cons, hX, if_neg h2, h]; rfl)).trans ?_
        rw [if_neg (by omega)]
  · rw [if_neg hd]
    have e := leg_mono (st.1 - 1 - g) (500 - g) X (by omega) hd
    refine congrArg (fun φ => List.foldl φ st l) (funext fun s => funext fun is => ?_)
    generalize leg P ro (f x) (st.1 - 1 - g) X = r at hd e ⊢
    cases h : tmI P ro f p (k + 1) is (500 - (g + r.1)) r.2 with
    | none =>
      rw [lf_none (v := fun is => tmI P ro f p (k + 1) is (500 - (g + r.1)) r.2) h]
      exact lf_none (show tmI P ro f p k (x :: is) (500 - g) A = none by rw [tmI_cons, hX, e, if_neg hd, Nat.sub_sub, h]; rfl)
    | some n =>
      rw [lf_some (v := fun is => tmI P ro f p (k + 1) is (500 - (g + r.1)) r.2) h]
      refine (lf_some (n := n + r.1) (show tmI P ro f p k (x :: is) (500 - g) A = some (n + r.1) by rw [tmI_cons, hX, e, if_neg hd, Nat.sub_sub, h]; rfl)).trans ?_
      rw [show g + (n + r.1) = g + r.1 + n by omega, List.append_assoc]
      rfl
theorem fold_le {v : List Nat → Option Nat} {g : Nat} {pre : List Nat} : ∀ (l : List (List Nat)) (st : Nat × List Nat), (l.foldl (lf v g pre) st).1 ≤ st.1
  | [], _ => Nat.le_refl _
  | a :: l, st => by
    rw [List.foldl_cons]
    exact Nat.le_trans (fold_le l _) lf_le
theorem getD_lo {l : List Nat} {x i : Nat} (h : i < l.length) : (l ++ [x]).getD i 0 = l.getD i 0 := by
  rw [List.getD_eq_getElem?_getD, List.getD_eq_getElem?_getD, List.getElem?_append_left h]
theorem getD_hi {l : List Nat} {x : Nat} : (l ++ [x]).getD l.length 0 = x := by
  rw [List.getD_eq_getElem?_getD, List.getElem?_append_right (Nat.le_refl _), Nat.sub_self]; rfl
/-! the model -/
def COs (N p : Nat) (P : Dat) (ro : Option Dat) (f : Nat → Nat) (k : Nat) (A : Dat) (st : Nat × List Nat) (σ : Mem) : Prop :=
  CE (61 + 10 * k) Kp ro P A σ ∧ gI σ 56 6 = w32 (N : Int) ∧ gI σ 56 7 = w32 (st.1 : Int) ∧ gI σ 56 9 = w32 (p : Int) ∧ (∀ x, x < N → gI σ 60 x = w32 (f x : Int)) ∧ (st.1 ≤ 500 → ∀ i, i < N → gI σ 59 i = w32 (f (st.2.getD i 0) : Int)) ∧ st.1 ≤ 501
theorem CE.upd {c1 : Nat} {K : Nat → Int} {ro : Option Dat} {P A : Dat} {σ : Mem} (h : CE c1 K ro P A σ) (hc : 61 ≤ c1 ∧ c1 ≤ 111) (i j : Nat) (hi : i ≤ 9) (v : Int) : CE c1 K ro P (up A i j v) (sI σ (c1 + i) j (w32 v)) :=
  ⟨h.1.ne (Or.inr (by omega)), h.2.1.up i j v, h.2.2.1.ne (by omega), h.2.2.2.fr ((Fr.rf (fun c => c = c1 + i) σ).sI rfl) (fun c z => by omega)⟩
/-- the same look ahead at another cell -/
theorem CE.to {c1 c0 : Nat} {K : Nat → Int} {ro : Option Dat} {P A A0 : Dat} {σ σ0 : Mem} {W : Nat → Prop} (h : CE c1 K ro P A σ) (h0 : RepS c0 σ0 A0) (f : Fr W σ0 σ) (hw : ∀ i, i ≤ 9 → ¬ W (c0 + i)) : CE c0 K ro P A0 σ := ⟨h.1, h0.fr f hw, h.2.2.1, h.2.2.2⟩
theorem putFirst_c {F c1 k x p m : Nat} {ro : Option Dat} {P A : Dat} {f : Nat → Nat} {σ : Mem} (h : CE c1 Kp ro P A σ) (hc : 61 ≤ c1 ∧ c1 ≤ 111) (h9 : gI σ 56 9 = w32 (p : Int)) (hx : f x < 8) (hp : p < 3) (bP : Bd 1000000000 P) (bA : Bd 1000000000 A) (hm : P 0 5 = (m : Int)) (hm8 : m ≤ 8) (hF : 100 ≤ F) :
    ∃ σ', m0_putFirst F c1 (w32 (f x : Int)) (if k = 0 then (1 : Int32) else 0) σ = some σ' ∧ CE c1 Kp ro P (pX P f p k x A) σ' ∧ Fr (fun c => c = c1 + 1 ∨ c = c1 + 8) σ σ' := by
  unfold m0_putFirst pX hz
  by_cases hk : k = 0
  · rw [if_pos hk, if_neg (by decide), h9, jobOf_ok h.1 h.2.1 bP bA (by omega) hm hm8 hF, Option.bind_some]
    have rj := jobN_rg (P := P) (A := A) (p := p) hm
    by_cases hj : (f x : Int) = jobN P A p
    · rw [if_pos (by rw [hj]), if_neg (fun z => z.2 hj), gd_pos (w_inB (by omega) (by omega) (by omega)), w_natk (by omega)]
      exact ⟨_, rfl, h.upd hc 8 (f x) (by decide) (-1), (Fr.rf _ σ).sI (Or.inr rfl)⟩
    · rw [if_neg (by rw [w_eq (by omega) (by omega) (by omega) (by omega)]; exact hj), if_pos ⟨hk, hj⟩, gd_pos (w_inB (by omega) (by omega) (by omega)), gd_pos (w_inB (by omega) (by omega) (by omega)), w_natk (by omega), w_natk (by omega)]
      exact ⟨_, rfl, (h.upd hc 1 p (by decide) 0).upd hc 8 (f x) (by decide) (-1), ((Fr.rf _ σ).sI (Or.inl rfl)).sI (Or.inr rfl)⟩
  · rw [if_neg hk, if_pos rfl, if_neg (fun z => hk z.1), gd_pos (w_inB (by omega) (by omega) (by omega)), w_natk (by omega)]
    exact ⟨_, rfl, h.upd hc 8 (f x) (by decide) (-1), (Fr.rf _ σ).sI (Or.inr rfl)⟩
def Wl5 (c1 c : Nat) : Prop := (40 ≤ c ∧ c ≤ 44) ∨ (c1 ≤ c ∧ c ≤ c1 + 9) ∨ (156 ≤ c ∧ c ≤ 186 ∧ c % 6 = 0)
theorem leg_c {F c1 b x : Nat} {ro : Option Dat} {P : Dat} {f : Nat → Nat} {rec : Int32 → Int32 → Mem → Option Mem} {i1 i2 : Int32} {k11 : Int32 → Mem → Option Mem} (wPl : WfPl P) (hc : 61 ≤ c1 ∧ c1 ≤ 111) (hb : b ≤ 501) (hx : x < 5) (hf : f x < 8) (hF : 1000 ≤ F) :
    ∀ (d n' g t : Nat) (σ : Mem) (X : Dat), d = b - 1 - g → d < n' → g ≤ 1000 → CE c1 Kp ro P X σ → gI σ 56 7 = w32 (b : Int) → gI σ 60 x = w32 (f x : Int) → WfI P X t → t + d ≤ 9000 →
    ∃ σ', m0_chooseJobs_91 F rec i1 i2 k11 n' (w32 (x : Int)) c1 (w32 (g : Int)) σ = m0_chooseJobs_132 F rec i1 i2 (fun x3 σ => k11 x3 σ) (w32 (x : Int)) c1 (w32 ((g + (leg P ro (f x) d X).1 : Nat) : Int)) σ' ∧ CE c1 Kp ro P (leg P ro (f x) d X).2 σ' ∧ Fr (Wl5 c1) σ σ' := by
  intro d
  induction d with
  | zero =>
    intro n' g t σ X h1 h2 h3 hE e7 e60 wI ht
    obtain ⟨n', rfl⟩ : ∃ q, n' = q + 1 := ⟨n' - 1, by omega⟩
    unfold m0_chooseJobs_91
    rw [e7, show w32 (b : Int) - (1 : Int32) = w32 ((b : Int) - 1) by rw [wl_1, w_sub], if_pos (by rw [w_le (by omega) (by omega) (by omega) (by omega)]; omega)]
    exact ⟨σ, rfl, hE, Fr.rf _ σ⟩
  | succ d ih =>
    intro n' g t σ X h1 h2 h3 hE e7 e60 wI ht
    obtain ⟨n', rfl⟩ : ∃ q, n' = q + 1 := ⟨n' - 1, by omega⟩
    have e6 : gI σ (c1 + 6) (f x) = w32 (X 6 (f x)) := hE.2.1 6 (by decide) (f x) hf
    have bX := (wI.bd (by omega)) 6 (f x)
    unfold m0_chooseJobs_91
    rw [e7, show w32 (b : Int) - (1 : Int32) = w32 ((b : Int) - 1) by rw [wl_1, w_sub], if_neg (by rw [w_le (by omega) (by omega) (by omega) (by omega)]; omega), gd_pos (w_inB (by omega) (by omega) (by omega)), w_natk (by omega), e60, gd_pos (w_inB (by omega) (by omega) (by omega)), w_natk (by omega), e6]
    by_cases hl : 0 < X 6 (f x)
    · rw [if_neg (by rw [wl_0, w_le (by omega) (by omega) (by omega) (by omega)]; omega)]
      obtain ⟨σ1, m1, E1, -, -⟩ := ce_go (F := F) hE wPl.1 (wI.bd (by omega)) Kp_bd (show StC c1 by unfold StC; omega) hF
      have f1 := f2_go m1
      have f1' : Fr (Wl5 c1) σ σ1 := f1.mono (fun c z => by unfold Wm2_go at z; unfold Wl5; omega)
      rw [m1, Option.bind_some, w_succ]
      obtain ⟨σ2, m2, E2, f2⟩ := ih n' (g + 1) (t + 1) σ1 (passA P Kp ro X) (by omega) (by omega) (by omega) E1 (by rw [f1'.gI (by unfold Wl5; omega)]; exact e7) (by rw [f1'.gI (by unfold Wl5; omega)]; exact e60) (passA_wf wI wPl.1 wPl.2.1 wPl.2.2.1 Kp2) (by omega)
      rw [leg_succ hl]
      refine ⟨σ2, ?_, E2, f1'.trans f2⟩
      rw [m2]
      dsimp only
      rw [show g + 1 + (leg P ro (f x) d (passA P Kp ro X)).1 = g + ((leg P ro (f x) d (passA P Kp ro X)).1 + 1) by omega]
    · rw [if_pos (by rw [wl_0, w_le (by omega) (by omega) (by omega) (by omega)]; omega), leg_done hl]
      exact ⟨σ, rfl, hE, Fr.rf _ σ⟩
def opA (A : Dat) (f : Nat → Nat) (x : Nat) : Bool := decide (0 < A 6 (f x))
def Rk (P : Dat) (m p : Nat) (A : Dat) : Prop := ∀ j, j < m → P 2 j = (p : Int) → 0 < A 6 j → 0 ≤ A 8 j
/-- what comes behind a JOB that is done -/
def JFin (F N m p : Nat) (P : Dat) (ro : Option Dat) (f : Nat → Nat) (t0 n k D : Nat) : Prop :=
  ∀ (pre : List Nat) (x g : Nat) (st : Nat × List Nat) (A : Dat) (σ : Mem) (i2 : Int32) (k11 : Int32 → Mem → Option Mem), x < N → pre.length = k → COs N p P ro f (k + 1) A st σ → (∀ i, i < k + 1 → gI σ 58 i = w32 (f ((pre ++ [x]).getD i 0) : Int)) → g ≤ 500 → g < st.1 → WfI P A (t0 + g) → Rk P m p A → ¬ 0 < A 6 (f x) →
    ∃ σ', m0_chooseJobs_132 F (m0_chooseJobs F D) (w32 (k : Int)) i2 k11 (w32 (x : Int)) (61 + 10 * (k + 1)) (w32 (g : Int)) σ = k11 (w32 ((x + 1 : Nat) : Int)) σ' ∧
      COs N p P ro f (k + 1) A ((prm n (opI (opA A f) N 0)).foldl (lf (fun is => tmI P ro f p (k + 1) is (500 - g) A) g (pre ++ [x])) st) σ' ∧ (∀ i, i < k + 1 → gI σ' 58 i = gI σ 58 i) ∧ Fr (Wr k) σ σ'
theorem COs.fr {N p : Nat} {P : Dat} {ro : Option Dat} {f : Nat → Nat} {k : Nat} {A : Dat} {st : Nat × List Nat} {σ σ' : Mem} {W : Nat → Prop} (h : COs N p P ro f k A st σ) (g : Fr W σ σ') (hE : CE (61 + 10 * k) Kp ro P A σ') (hw : ¬ W 56 ∧ ¬ W 59 ∧ ¬ W 60) : COs N p P ro f k A st σ' := by
  obtain ⟨a, b, c, d, e, i, j⟩ := h
  refine ⟨hE, by rw [g.gI hw.1]; exact b, by rw [g.gI hw.1]; exact c, by rw [g.gI hw.1]; exact d, fun x hx => by rw [g.gI hw.2.2]; exact e x hx, fun z x hx => by rw [g.gI hw.2.1]; exact i z x hx, j⟩
theorem jobs_step {F N m p : Nat} {P : Dat} {ro : Option Dat} {f : Nat → Nat} {t0 n k D : Nat} (wPl : WfPl P) (hm : P 0 5 = (m : Int)) (hN : N ≤ 5) (hF : 1000 ≤ F) (hp : p < 3) (hf : ∀ x, x < N → f x < m ∧ P 2 (f x) = (p : Int)) (hi : ∀ x y, x < N → y < N → f x = f y → x = y) (ht0 : t0 ≤ 700) (hk : k + (n + 1) = N) (fin : JFin F N m p P ro f t0 n k D)
    (g : Nat) (pre : List Nat) (st : Nat × List Nat) (A : Dat) (σ : Mem) (hE : COs N p P ro f k A st σ) (hpre : pre.length = k) (hrow : ∀ i, i < k → gI σ 58 i = w32 (f (pre.getD i 0) : Int)) (hg : g ≤ 500) (wI : WfI P A (t0 + g)) (hr : Rk P m p A) :
    ∃ σ', m0_chooseJobs F (D + 1) (w32 (k : Int)) (w32 (g : Int)) σ = some σ' ∧ COs N p P ro f k A ((prm (n + 1) (opI (opA A f) N 0)).foldl (lf (fun is => tmI P ro f p k is (500 - g) A) g pre) st) σ' ∧ (∀ i, i < k → gI σ' 58 i = gI σ 58 i) ∧ Fr (Wr k) σ σ' := by
  obtain ⟨bP, ⟨m', hm', hm8⟩, -, -⟩ := id wPl.1
  have m8 : m ≤ 8 := by omega
  have bA := wI.bd (show t0 + g ≤ 9000 by omega)
  have c61 : 61 ≤ 61 + 10 * (k + 1) ∧ 61 + 10 * (k + 1) ≤ 111 := by omega
  have loop : ∀ (d n' x : Nat) (st : Nat × List Nat) (σ : Mem), x + d = N → d < n' → COs N p P ro f k A st σ → (∀ i, i < k → gI σ 58 i = w32 (f (pre.getD i 0) : Int)) →
      ∃ σ', m0_chooseJobs_11 F (m0_chooseJobs F D) (w32 (k : Int)) (w32 (g : Int)) n' (w32 (x : Int)) σ = some σ' ∧ COs N p P ro f k A ((prmL (fun x => (prm n ((opI (opA A f) N 0).erase x)).map (fun is => x :: is)) (opI (opA A f) d x)).foldl (lf (fun is => tmI P ro f p k is (500 - g) A) g pre) st) σ' ∧ (∀ i, i < k → gI σ' 58 i = gI σ 58 i) ∧ Fr (Wr k) σ σ' := by
    intro d
    induction d with
    | zero =>
      intro n' x st σ h1 h2 hE hrow
      obtain ⟨n', rfl⟩ : ∃ q, n' = q + 1 := ⟨n' - 1, by omega⟩
      unfold m0_chooseJobs_11
      rw [hE.2.1, if_pos (by rw [w_le (by omega) (by omega) (by omega) (by omega)]; omega)]
      exact ⟨σ, rfl, hE, fun _ _ => rfl, Fr.rf _ σ⟩
    | succ d ihd =>
      intro n' x st σ h1 h2 hE hrow
      obtain ⟨n', rfl⟩ : ∃ q, n' = q + 1 := ⟨n' - 1, by omega⟩
      obtain ⟨hCE, e6, e7, e9, e60, e59, hst⟩ := id hE
      obtain ⟨fx8, fxp⟩ := hf x (by omega)
      obtain ⟨σ1, m1, s1⟩ := cpS_ok (F := F) (c0 := 61 + 10 * (k + 1)) (c1 := 61 + 10 * k) (by omega) (by omega) hCE.2.1
      have f1 := f7_copyFrom m1
      have f1' : Fr (fun c => 61 + 10 * (k + 1) ≤ c ∧ c ≤ 61 + 10 * (k + 1) + 9) σ σ1 := f1.mono (fun c z => by unfold Wm7_copyFrom at z; omega)
      have E1 : CE (61 + 10 * (k + 1)) Kp ro P A σ1 := ⟨hCE.1.fr f1' (fun i hi => by omega), s1, hCE.2.2.1.fr f1' (by omega), hCE.2.2.2.fr f1' (fun c z => by omega)⟩
      have E1k : CE (61 + 10 * k) Kp ro P A σ1 := E1.to hCE.2.1 f1' (fun i hi => by omega)
      have q60 : gI σ1 60 x = w32 (f x : Int) := by rw [f1'.gI (by omega)]; exact e60 x (by omega)
      have q6 : gI σ1 (61 + 10 * (k + 1) + 6) (f x) = w32 (A 6 (f x)) := s1 6 (by decide) (f x) (show f x < 8 by omega)
      have b6 := bA 6 (f x)
      have fw1 : Fr (Wr k) σ σ1 := f1'.mono (fun c z => by unfold Wr; omega)
      have r1 : ∀ i, i < k → gI σ1 58 i = gI σ 58 i := fun i hi => by rw [f1'.gI (by omega)]
      unfold m0_chooseJobs_11
      rw [e6, if_neg (by rw [w_le (by omega) (by omega) (by omega) (by omega)]; omega), w_succ, gd_pos (w_inB (by omega) (by omega) (by omega)), gd_pos (w_inB (by omega) (by omega) (by omega)), w_natk (by omega), w_natk (by omega), m1, Option.bind_some, gd_pos (w_inB (by omega) (by omega) (by omega)), w_natk (by omega), q60, gd_pos (w_inB (by omega) (by omega) (by omega)), w_natk (by omega), q6]
      by_cases hl : 0 < A 6 (f x)
      · have ob : opA A f x = true := decide_eq_true hl
        have eop : opI (opA A f) (d + 1) x = x :: opI (opA A f) d (x + 1) := by
          rw [opI, if_pos ob]
        rw [if_neg (by rw [wl_0, w_le (by omega) (by omega) (by omega) (by omega)]; omega), gd_pos (w_inB (by omega) (by omega) (by omega)), gd_pos (w_inB (by omega) (by omega) (by omega)), gd_pos (w_inB (by omega) (by omega) (by omega)), eop]
        show ∃ σ', _ = some σ' ∧ COs N p P ro f k A (((prm n ((opI (opA A f) N 0).erase x)).map (fun is => x :: is) ++ prmL (fun x => (prm n ((opI (opA A f) N 0).erase x)).map (fun is => x :: is)) (opI (opA A f) d (x + 1))).foldl _ st) σ' ∧ _ ∧ _
        rw [List.foldl_append, fold_leg k x g pre st A _ hst]
        have E2 : CE (61 + 10 * (k + 1)) Kp ro P A (sI σ1 58 k (w32 (f x : Int))) := E1.fr ((Fr.rf (fun c => c = 58) σ1).sI rfl) (fun c z => by omega)
        have f2 : Fr (fun c => c = 58 ∨ (61 + 10 * (k + 1) ≤ c ∧ c ≤ 61 + 10 * (k + 1) + 9)) σ (sI σ1 58 k (w32 (f x : Int))) := (f1'.mono (fun c z => Or.inr z)).sI (Or.inl rfl)
        obtain ⟨σ3, m3, E3, f3⟩ := putFirst_c (F := F) (f := f) (k := k) (x := x) E2 c61 (by rw [f2.gI (by omega)]; exact e9) (by omega) hp (bP.mono (by decide)) (bA.mono (by decide)) hm m8 (by omega)
        have f3' : Fr (fun c => c = 58 ∨ (61 + 10 * (k + 1) ≤ c ∧ c ≤ 61 + 10 * (k + 1) + 9)) σ σ3 := f2.trans (f3.mono (fun c z => by omega))
        have wX : WfI P (pX P f p k x A) (t0 + g) := by
          have w1 : WfI P (hz P f p k x A) (t0 + g) := by
            unfold hz
            split
            · exact WfI_1 wI wPl.2.2.1.2.2.2
            · exact wI
          exact WfI_8 w1 (fun i j hi => by unfold pX; rw [up_at, if_neg (fun z => hi z.1)]) (fun j => by
            unfold pX
            rw [up_at]
            have := w1.2.2.2.1 8 j
            split <;> omega)
        have X6 : ∀ j, pX P f p k x A 6 j = A 6 j := fun j => by
          unfold pX hz
          rw [up_at, if_neg (by omega)]
          split
          · rw [up_at, if_neg (by omega)]
          · rfl
        have X8 : ∀ j, j ≠ f x → pX P f p k x A 8 j = A 8 j := fun j hj => by
          unfold pX hz
          rw [up_at, if_neg (by omega)]
          split
          · rw [up_at, if_neg (by omega)]
          · rfl
        obtain ⟨σ4, m4, E4, f4⟩ := leg_c (F := F) (b := st.1) (rec := m0_chooseJobs F D) (i1 := w32 (k : Int)) (i2 := w32 (g : Int)) (k11 := fun x3 σ => m0_chooseJobs_11 F (m0_chooseJobs F D) (w32 (k : Int)) (w32 (g : Int)) n' x3 σ) wPl c61 hst (show x < 5 by omega) (show f x < 8 by omega) hF (st.1 - 1 - g) F g (t0 + g) σ3 (pX P f p k x A) rfl (by omega) (by omega) E3 (by rw [f3'.gI (by omega)]; exact e7) (by rw [f3'.gI (by omega)]; exact e60 x (by omega)) wX (by omega)
        obtain ⟨k1, k2, k3⟩ := leg_keep (ro := ro) (p := p) (j := f x) wPl hm fx8 fxp (st.1 - 1 - g) (t0 + g) (pX P f p k x A) wX (up_eq ..) (fun j j1 j2 j3 j4 => by rw [X6] at j4; rw [X8 j j2]; exact hr j j1 j3 j4)
        have le := (leg_le (P := P) (ro := ro) (j := f x) (st.1 - 1 - g) (pX P f p k x A)).1
        have f4' : Fr (fun c => c = 58 ∨ Wl5 (61 + 10 * (k + 1)) c) σ σ4 := (f3'.mono (fun c z => by unfold Wl5; omega)).trans (f4.mono (fun c z => Or.inr z))
        have E4k : CE (61 + 10 * k) Kp ro P A σ4 := E4.to hCE.2.1 f4' (fun i hi => by unfold Wl5; omega)
        have fw4 : Fr (Wr k) σ σ4 := f4'.mono (fun c z => by unfold Wl5 at z; unfold Wr; omega)
        have r4 : ∀ i, i < k → gI σ4 58 i = gI σ 58 i := fun i hi => by
          rw [f4.gI (by unfold Wl5; omega), f3.gI (by omega), gI_nej (by omega), r1 i hi]
        have r4k : gI σ4 58 k = w32 (f x : Int) := by
          rw [f4.gI (by unfold Wl5; omega), f3.gI (by omega), gI_eq]
        have go85 : ∀ (s3 : Int32), s3 = (if k = 0 then (1 : Int32) else 0) → m0_chooseJobs_85 F (m0_chooseJobs F D) (w32 (k : Int)) (w32 (g : Int)) (fun x3 σ => m0_chooseJobs_11 F (m0_chooseJobs F D) (w32 (k : Int)) (w32 (g : Int)) n' x3 σ) (w32 (x : Int)) (61 + 10 * (k + 1)) (61 + 10 * (k + 1)) (w32 (f x : Int)) s3 (sI σ1 58 k (w32 (f x : Int))) = m0_chooseJobs_132 F (m0_chooseJobs F D) (w32 (k : Int)) (w32 (g : Int)) (fun x3 σ => m0_chooseJobs_11 F (m0_chooseJobs F D) (w32 (k : Int)) (w32 (g : Int)) n' x3 σ) (w32 (x : Int)) (61 + 10 * (k + 1)) (w32 ((g + (leg P ro (f x) (st.1 - 1 - g) (pX P f p k x A)).1 : Nat) : Int)) σ4 := by
          intro s3 hs
          unfold m0_chooseJobs_85
          rw [hs, m3, Option.bind_some]
          exact m4
        have e85 : (if w32 (k : Int) = (0 : Int32) then m0_chooseJobs_85 F (m0_chooseJobs F D) (w32 (k : Int)) (w32 (g : Int)) (fun x3 σ => m0_chooseJobs_11 F (m0_chooseJobs F D) (w32 (k : Int)) (w32 (g : Int)) n' x3 σ) (w32 (x : Int)) (61 + 10 * (k + 1)) (61 + 10 * (k + 1)) (gI (sI σ1 58 k (w32 (f x : Int))) 60 x) (1 : Int32) (sI σ1 58 k (w32 (f x : Int))) else m0_chooseJobs_85 F (m0_chooseJobs F D) (w32 (k : Int)) (w32 (g : Int)) (fun x3 σ => m0_chooseJobs_11 F (m0_chooseJobs F D) (w32 (k : Int)) (w32 (g : Int)) n' x3 σ) (w32 (x : Int)) (61 + 10 * (k + 1)) (61 + 10 * (k + 1)) (gI (sI σ1 58 k (w32 (f x : Int))) 60 x) (0 : Int32) (sI σ1 58 k (w32 (f x : Int)))) = m0_chooseJobs_132 F (m0_chooseJobs F D) (w32 (k : Int)) (w32 (g : Int)) (fun x3 σ => m0_chooseJobs_11 F (m0_chooseJobs F D) (w32 (k : Int)) (w32 (g : Int)) n' x3 σ) (w32 (x : Int)) (61 + 10 * (k + 1)) (w32 ((g + (leg P ro (f x) (st.1 - 1 - g) (pX P f p k x A)).1 : Nat) : Int)) σ4 := by
          rw [gI_nec (show (60 : Nat) ≠ 58 by decide), q60]
          by_cases hk0 : k = 0
          · rw [if_pos (by rw [hk0]; rfl)]
            exact go85 1 (by rw [if_pos hk0])
          · rw [if_neg (by rw [wl_0, w_eq (by omega) (by omega) (by omega) (by omega)]; omega)]
            exact go85 0 (by rw [if_neg hk0])
        rw [e85]
        by_cases hd : 0 < (leg P ro (f x) (st.1 - 1 - g) (pX P f p k x A)).2 6 (f x)
        · rw [if_pos hd]
          have q : gI σ4 (61 + 10 * (k + 1) + 6) (f x) = w32 ((leg P ro (f x) (st.1 - 1 - g) (pX P f p k x A)).2 6 (f x)) := E4.2.1 6 (by decide) (f x) (show f x < 8 by omega)
          have b4 := k3.bd (by omega) 6 (f x)
          have t60 : gI σ4 60 x = w32 (f x : Int) := by rw [f4'.gI (by unfold Wl5; omega)]; exact e60 x (by omega)
          unfold m0_chooseJobs_132 m0_chooseJobs_169
          rw [gd_pos (w_inB (by omega) (by omega) (by omega)), w_natk (by omega), t60, gd_pos (w_inB (by omega) (by omega) (by omega)), w_natk (by omega), q, if_neg (by rw [wl_0, w_eq (by omega) (by omega) (by omega) (by omega)]; omega), gd_pos (w_inB (by omega) (by omega) (by omega)), gd_pos (w_inB (by omega) (by omega) (by omega)), if_neg (by rw [wl_0, w_eq (by omega) (by omega) (by omega) (by omega)]; omega), w_succ]
          obtain ⟨σ5, m5, c5, r5, f5⟩ := ihd n' (x + 1) st σ4 (by omega) (by omega) (hE.fr f4' E4k (by unfold Wl5; omega)) (fun i hi => by rw [r4 i hi]; exact hrow i hi)
          exact ⟨σ5, m5, c5, fun i hi => by rw [r5 i hi, r4 i hi], fw4.trans f5⟩
        · rw [if_neg hd]
          have pos : 0 < (leg P ro (f x) (st.1 - 1 - g) (pX P f p k x A)).1 := leg_late 0 (st.1 - 1 - g) (pX P f p k x A) (by show 0 < pX P f p k x A 6 (f x); rw [X6]; exact hl) hd
          obtain ⟨σ5, m5, c5, r5, f5⟩ := fin pre x (g + (leg P ro (f x) (st.1 - 1 - g) (pX P f p k x A)).1) st (leg P ro (f x) (st.1 - 1 - g) (pX P f p k x A)).2 σ4 (w32 (g : Int)) (fun x3 σ => m0_chooseJobs_11 F (m0_chooseJobs F D) (w32 (k : Int)) (w32 (g : Int)) n' x3 σ) (by omega) hpre
            ⟨E4, by rw [f4'.gI (by unfold Wl5; omega)]; exact e6, by rw [f4'.gI (by unfold Wl5; omega)]; exact e7, by rw [f4'.gI (by unfold Wl5; omega)]; exact e9, fun y hy => by rw [f4'.gI (by unfold Wl5; omega)]; exact e60 y hy, fun z y hy => by rw [f4'.gI (by unfold Wl5; omega)]; exact e59 z y hy, hst⟩
            (fun i hi => by
              by_cases hik : i = k
              · rw [hik, r4k]
                have := getD_hi (l := pre) (x := x)
                rw [hpre] at this
                rw [this]
              · rw [r4 i (by omega), hrow i (by omega), getD_lo (by omega)]) (by omega) (by omega) (by rw [← Nat.add_assoc]; exact k3)
            (fun j j1 j2 j3 => by
              by_cases hj : j = f x
              · rw [hj] at j3; exact absurd j3 hd
              · rw [k1 j hj j2, X6] at j3
                rw [k2 j, X8 j hj]; exact hr j j1 j2 j3) hd
          rw [m5]
          have eE : opI (opA (leg P ro (f x) (st.1 - 1 - g) (pX P f p k x A)).2 f) N 0 = (opI (opA A f) N 0).erase x := by
            rw [← opI_erase]
            refine opI_congr N 0 (fun y _ hy => ?_)
            by_cases hyx : y = x
            · rw [hyx]
              unfold opA
              rw [decide_eq_false hd]; simp
            · unfold opA
              rw [k1 (f y) (fun z => hyx (hi y x (by omega) (by omega) z)) (hf y (by omega)).2, X6, decide_eq_true (show y ≠ x from hyx), Bool.and_true]
          rw [eE] at c5
          have fd : Fr (Wr k) σ σ5 := fw4.trans f5
          have c5k : COs N p P ro f k A ((prm n ((opI (opA A f) N 0).erase x)).foldl (lf (fun is => tmI P ro f p (k + 1) is (500 - (g + (leg P ro (f x) (st.1 - 1 - g) (pX P f p k x A)).1)) (leg P ro (f x) (st.1 - 1 - g) (pX P f p k x A)).2) (g + (leg P ro (f x) (st.1 - 1 - g) (pX P f p k x A)).1) (pre ++ [x])) st) σ5 :=
            ⟨c5.1.to hCE.2.1 fd (fun i hi => by unfold Wr; omega), c5.2⟩
          have r5' : ∀ i, i < k → gI σ5 58 i = gI σ 58 i := fun i hi => by rw [r5 i (by omega), r4 i hi]
          obtain ⟨σ6, m6, c6, r6, f6⟩ := ihd n' (x + 1) _ σ5 (by omega) (by omega) c5k (fun i hi => by rw [r5' i hi]; exact hrow i hi)
          exact ⟨σ6, m6, c6, fun i hi => by rw [r6 i hi, r5' i hi], fd.trans f6⟩
      · have ob : ¬ opA A f x = true := fun z => hl (of_decide_eq_true z)
        rw [if_pos (by rw [wl_0, w_le (by omega) (by omega) (by omega) (by omega)]; omega), w_succ, opI, if_neg ob]
        obtain ⟨σ5, m5, c5, r5, f5⟩ := ihd n' (x + 1) st σ1 (by omega) (by omega) (hE.fr f1' E1k (by omega)) (fun i hi => by rw [r1 i hi]; exact hrow i hi)
        exact ⟨σ5, m5, c5, fun i hi => by rw [r5 i hi, r1 i hi], fw1.trans f5⟩
  show ∃ σ', m0_chooseJobs_e F (m0_chooseJobs F D) (w32 (k : Int)) (w32 (g : Int)) σ = some σ' ∧ _ ∧ _ ∧ _
  unfold m0_chooseJobs_e
  rw [hE.2.1, if_pos (by rw [w_lt (by omega) (by omega) (by omega) (by omega)]; omega)]
  exact loop N F 0 st σ (by omega) (by omega) hE hrow
theorem jobs_c {F N m p : Nat} {P : Dat} {ro : Option Dat} {f : Nat → Nat} {t0 : Nat} (wPl : WfPl P) (hm : P 0 5 = (m : Int)) (hN : N ≤ 5) (hF : 1000 ≤ F) (hp : p < 3) (hf : ∀ x, x < N → f x < m ∧ P 2 (f x) = (p : Int)) (hi : ∀ x y, x < N → y < N → f x = f y → x = y) (ht0 : t0 ≤ 700) :
    ∀ (n k D g : Nat) (pre : List Nat) (st : Nat × List Nat) (A : Dat) (σ : Mem), k + (n + 1) = N → n < D → COs N p P ro f k A st σ → pre.length = k → (∀ i, i < k → gI σ 58 i = w32 (f (pre.getD i 0) : Int)) → g ≤ 500 → WfI P A (t0 + g) → Rk P m p A →
    ∃ σ', m0_chooseJobs F D (w32 (k : Int)) (w32 (g : Int)) σ = some σ' ∧ COs N p P ro f k A ((prm (n + 1) (opI (opA A f) N 0)).foldl (lf (fun is => tmI P ro f p k is (500 - g) A) g pre) st) σ' ∧ (∀ i, i < k → gI σ' 58 i = gI σ 58 i) ∧ Fr (Wr k) σ σ' := by
  obtain ⟨bP, ⟨m', hm', hm8⟩, -, -⟩ := id wPl.1
  have m8 : m ≤ 8 := by omega
  intro n
  induction n with
  | zero =>
    intro k D g pre st A σ h1 h2 hE h3 h4 h5 wI hr
    obtain ⟨D, rfl⟩ : ∃ q, D = q + 1 := ⟨D - 1, by omega⟩
    refine jobs_step wPl hm hN hF hp hf hi ht0 h1 ?_ g pre st A σ hE h3 h4 h5 wI hr
    intro pre x g st A σ i2 k11 hx hpre hE hrow hg hgs wI hr hd
    obtain ⟨hCE, e6, e7, e9, e60, e59, hst⟩ := id hE
    obtain ⟨fx8, fxp⟩ := hf x (by omega)
    have q : gI σ (61 + 10 * (k + 1) + 6) (f x) = w32 (A 6 (f x)) := hCE.2.1 6 (by decide) (f x) (show f x < 8 by omega)
    have z6 : A 6 (f x) = 0 := by
      have := (wI.1.1 (f x) (by omega)).2
      omega
    have t60 : gI σ 60 x = w32 (f x : Int) := e60 x (by omega)
    obtain ⟨σ1, m1, r1, f1⟩ := keepRow_ok (F := F) (σ := sI σ 56 7 (w32 (g : Int))) (by omega)
    have f2 : Fr (fun c => c = 56 ∨ c = 59) σ σ1 := ((Fr.rf _ σ).sI (Or.inl rfl)).trans (f1.mono (fun c z => Or.inr z))
    unfold m0_chooseJobs_132 m0_chooseJobs_169
    rw [gd_pos (w_inB (by omega) (by omega) (by omega)), w_natk (by omega), t60, gd_pos (w_inB (by omega) (by omega) (by omega)), w_natk (by omega), q, z6, if_pos (show w32 0 = (0 : Int32) from rfl), e6, w_succ, if_pos (by rw [w_le (by omega) (by omega) (by omega) (by omega)]; omega), gd_pos (w_inB (by omega) (by omega) (by omega)), gd_pos (w_inB (by omega) (by omega) (by omega)), if_pos (show w32 0 = (0 : Int32) from rfl), w_succ]
    dsimp only
    rw [m1, Option.bind_some]
    have el : (prm 0 (opI (opA A f) N 0)).foldl (lf (fun is => tmI P ro f p (k + 1) is (500 - g) A) g (pre ++ [x])) st = (g, pre ++ [x]) := by
      show lf (fun is => tmI P ro f p (k + 1) is (500 - g) A) g (pre ++ [x]) st [] = _
      refine (lf_some (n := 0) rfl).trans ?_
      rw [if_pos (by omega), List.append_nil]; rfl
    rw [el]
    refine ⟨σ1, rfl, ⟨hCE.fr f2 (fun c z => by omega), ?_, ?_, ?_, fun y hy => ?_, fun _ i hi => ?_, by dsimp only; omega⟩, fun i hi => ?_, f2.mono (fun c z => by unfold Wr; omega)⟩
    · rw [f1.gI (by decide), gI_nej (by decide)]; exact e6
    · rw [f1.gI (by decide), gI_eq]
    · rw [f1.gI (by decide), gI_nej (by decide)]; exact e9
    · rw [f2.gI (by omega)]; exact e60 y hy
    · rw [r1 i (by omega), gI_nec (by decide)]; exact hrow i (by omega)
    · rw [f2.gI (by omega)]
  | succ n ih =>
    intro k D g pre st A σ h1 h2 hE h3 h4 h5 wI hr
    obtain ⟨D, rfl⟩ : ∃ q, D = q + 1 := ⟨D - 1, by omega⟩
    refine jobs_step wPl hm hN hF hp hf hi ht0 h1 ?_ g pre st A σ hE h3 h4 h5 wI hr
    intro pre x g st A σ i2 k11 hx hpre hE hrow hg hgs wI hr hd
    obtain ⟨hCE, e6, e7, e9, e60, e59, hst⟩ := id hE
    obtain ⟨fx8, fxp⟩ := hf x (by omega)
    have q : gI σ (61 + 10 * (k + 1) + 6) (f x) = w32 (A 6 (f x)) := hCE.2.1 6 (by decide) (f x) (show f x < 8 by omega)
    have z6 : A 6 (f x) = 0 := by
      have := (wI.1.1 (f x) (by omega)).2
      omega
    have t60 : gI σ 60 x = w32 (f x : Int) := e60 x (by omega)
    obtain ⟨σ1, m1, c1, r1, f1⟩ := ih (k + 1) D g (pre ++ [x]) st A σ (by omega) (by omega) hE (by rw [List.length_append, hpre]; rfl) hrow hg wI hr
    unfold m0_chooseJobs_132
    rw [gd_pos (w_inB (by omega) (by omega) (by omega)), w_natk (by omega), t60, gd_pos (w_inB (by omega) (by omega) (by omega)), w_natk (by omega), q, z6, if_pos (show w32 0 = (0 : Int32) from rfl), e6, w_succ, if_neg (by rw [w_le (by omega) (by omega) (by omega) (by omega)]; omega), m1, Option.bind_some, w_succ]
    exact ⟨σ1, rfl, c1, r1, f1.mono (fun c z => by unfold Wr at z ⊢; omega)⟩
