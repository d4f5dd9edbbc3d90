/-! QUERY: order, 1: what a SMITH's order of JOBS comes to -/
theorem opn_own {P A : Dat} {p : Int} {j : Nat} (h : opn P A p j = true) : P 2 j = p ∧ 0 < A 6 j := by
  unfold opn at h
  simpa only [Bool.and_eq_true, decide_eq_true_eq] using h
theorem opn_is {P A : Dat} {p : Int} {j : Nat} (h : P 2 j = p) (h2 : 0 < A 6 j) : opn P A p j = true := by
  unfold opn
  simpa only [Bool.and_eq_true, decide_eq_true_eq] using And.intro h h2
theorem jobL_is {P A : Dat} {p : Int} {j : Nat} (hj : opn P A p j = true) : ∀ (d i : Nat) (f : Int), (f = (j : Int) ∨ (i ≤ j ∧ j < i + d ∧ (f = -1 ∨ (0 ≤ f ∧ A 8 j < A 8 f.toNat)))) → (∀ k, i ≤ k → k < i + d → k ≠ j → opn P A p k = true → A 8 j < A 8 k) → jobL P A p d i f = (j : Int)
  | 0, i, f, h, _ => by
    rcases h with h | ⟨h1, h2, -⟩
    · exact h
    · omega
  | d + 1, i, f, h, hr => by
    have hr' : ∀ k, i + 1 ≤ k → k < i + 1 + d → k ≠ j → opn P A p k = true → A 8 j < A 8 k := fun k h1 h2 => hr k (by omega) (by omega)
    unfold jobL
    rcases h with h | ⟨h1, h2, h3⟩
    · rw [if_neg ?_]
      · exact jobL_is hj d (i + 1) f (Or.inl h) hr'
      · intro z
        simp only [Bool.and_eq_true, Bool.or_eq_true, decide_eq_true_eq] at z
        obtain ⟨z1, z2⟩ := z
        rw [h, Int.toNat_natCast] at z2
        by_cases hij : i = j
        · rw [hij] at z2; omega
        · have := hr i (by omega) (by omega) hij z1
          omega
    · by_cases hij : i = j
      · rw [if_pos ?_]
        · exact jobL_is hj d (i + 1) _ (Or.inl (by rw [hij])) hr'
        · simp only [Bool.and_eq_true, Bool.or_eq_true, decide_eq_true_eq]
          refine ⟨by rw [hij]; exact hj, ?_⟩
          rcases h3 with h3 | ⟨-, h3⟩
          · exact Or.inl h3
          · exact Or.inr (by rw [hij]; exact h3)
      · by_cases c : (opn P A p i && (decide (f = -1) || decide (A 8 i < A 8 f.toNat))) = true
        · rw [if_pos c]
          have c1 := (Bool.and_eq_true_iff.mp c).1
          refine jobL_is hj d (i + 1) _ (Or.inr ⟨by omega, by omega, Or.inr ⟨by omega, ?_⟩⟩) hr'
          rw [Int.toNat_natCast]
          exact hr i (by omega) (by omega) hij c1
        · rw [if_neg c]
          exact jobL_is hj d (i + 1) f (Or.inr ⟨by omega, by omega, h3⟩) hr'
theorem jobN_is {P A : Dat} {p : Int} {j m : Nat} (hm : P 0 5 = (m : Int)) (hjm : j < m) (hj : opn P A p j = true) (hr : ∀ k, k < m → k ≠ j → opn P A p k = true → A 8 j < A 8 k) : jobN P A p = (j : Int) := by
  unfold jobN
  rw [hm, Int.toNat_natCast]
  exact jobL_is hj m 0 (-1) (Or.inr ⟨by omega, by omega, Or.inl rfl⟩) (fun k _ h2 => hr k (by omega))
theorem jobL_own {P A B : Dat} {p : Int} (h6 : ∀ k, B 6 k = A 6 k) (h8 : ∀ k, P 2 k = p → B 8 k = A 8 k) : ∀ (d i : Nat) (f : Int), (f = -1 ∨ (0 ≤ f ∧ P 2 f.toNat = p)) → jobL P B p d i f = jobL P A p d i f
  | 0, _, _, _ => rfl
  | d + 1, i, f, hf => by
    have e : opn P B p i = opn P A p i := opn_congr (fun _ => h6 i)
    have c : (opn P B p i && (decide (f = -1) || decide (B 8 i < B 8 f.toNat))) = (opn P A p i && (decide (f = -1) || decide (A 8 i < A 8 f.toNat))) := by
      rw [e]
      by_cases ho : opn P A p i = true
      · have h2 := (opn_own ho).1
        rcases hf with hf | ⟨-, hf⟩
        · simp [hf]
        · rw [h8 i h2, h8 _ hf]
      · have ho : opn P A p i = false := by simpa using ho
        rw [ho, Bool.false_and, Bool.false_and]
    unfold jobL
    rw [c]
    by_cases hc : (opn P A p i && (decide (f = -1) || decide (A 8 i < A 8 f.toNat))) = true
    · rw [if_pos hc]
      exact jobL_own h6 h8 d (i + 1) i (Or.inr ⟨by omega, by rw [Int.toNat_natCast]; exact (opn_own (Bool.and_eq_true_iff.mp hc).1).1⟩)
    · rw [if_neg hc]
      exact jobL_own h6 h8 d (i + 1) f hf
theorem jobN_own {P A B : Dat} {p : Int} (h6 : ∀ k, B 6 k = A 6 k) (h8 : ∀ k, P 2 k = p → B 8 k = A 8 k) : jobN P B p = jobN P A p := jobL_own h6 h8 _ _ _ (Or.inl rfl)
theorem toDo_nil {P A : Dat} {p : Int} : 0 < toDoN P A p ↔ jobN P A p ≠ -1 := toDo_job _ 0 0 (-1) (Or.inl ⟨rfl, rfl⟩)
theorem toDo_some {P A : Dat} {p : Int} {m : Nat} (hm : P 0 5 = (m : Int)) : 0 < toDoN P A p ↔ ∃ k, k < m ∧ opn P A p k = true := by
  rw [toDo_nil]
  constructor
  · intro h
    obtain ⟨a, b, c⟩ := jobN_rg (P := P) (A := A) (p := p) hm
    exact ⟨(jobN P A p).toNat, by omega, c (by omega)⟩
  · rintro ⟨k, h1, h2⟩
    exact jobN_some hm h1 h2
theorem toDoL_own {P A B : Dat} {p : Int} (h : ∀ k, opn P B p k = opn P A p k) : ∀ (d j : Nat) (s : Int), toDoL P B p d j s = toDoL P A p d j s
  | 0, _, _ => rfl
  | d + 1, j, s => by
    unfold toDoL
    rw [h j, toDoL_own h d (j + 1)]
/-! states that agree but for the ranks -/
theorem wl_ag8 {P A B : Dat} {K : Nat → Int} {ro : Option Dat} {J : Nat → Int} {p : Nat} (h : ∀ i k, i ≠ 8 → B i k = A i k) : wlN P B K ro J p = wlN P A K ro J p := by
  have e0 : ∀ k, B 0 k = A 0 k := fun k => h 0 k (by decide)
  have e1 : ∀ k, B 1 k = A 1 k := fun k => h 1 k (by decide)
  have e2 : ∀ k, B 2 k = A 2 k := fun k => h 2 k (by decide)
  have e3 : ∀ k, B 3 k = A 3 k := fun k => h 3 k (by decide)
  have e6 : ∀ k, B 6 k = A 6 k := fun k => h 6 k (by decide)
  have e9 : ∀ k, B 9 k = A 9 k := fun k => h 9 k (by decide)
  have w : wds P B J p = wds P A J p := by
    funext i
    unfold wds wdI wornI
    simp only [e0, e1, e2, e3, e6, e9]
  unfold wlN wl hotB
  rw [w, e1 p]
theorem pass_ag8 {P A B : Dat} {K : Nat → Int} {ro : Option Dat} (h : ∀ i k, i ≠ 8 → B i k = A i k) (hJ : ∀ q, jbs P B K q = jbs P A K q) : ∀ i k, i ≠ 8 → passA P K ro B i k = passA P K ro A i k := by
  have eJ : jbs P B K = jbs P A K := funext hJ
  have eW : wlN P B K ro (jbs P A K) = wlN P A K ro (jbs P A K) := funext fun p => wl_ag8 h
  have hw := workS_ag (P := P) (E := fun i _ => i = 8) (J := jbs P A K) (Wl := wlN P A K ro (jbs P A K)) (fun i j z => Or.inr (Or.inl z)) 3 0 (A, K0 K, fun _ => -1) (B, K0 K, fun _ => -1) (fun i j z => h i j z) rfl
  have e1 : passW P K ro B = workS P (jbs P A K) (wlN P A K ro (jbs P A K)) 3 0 (B, K0 K, fun _ => -1) := by unfold passW; rw [eJ, eW]
  have e2 : (passW P K ro B).2.2 = (passW P K ro A).2.2 := by rw [e1, hw.2]; rfl
  have e3 : Ag (fun i _ => i = 8) (passW P K ro A).1 (passW P K ro B).1 := by rw [e1]; exact hw.1
  have e4 := wearL_ag (E := fun i _ => i = 8) (T := (passW P K ro A).2.2) (fun k z => absurd z (by decide)) 4 0 _ _ e3
  have e5 : Ag (fun i _ => i = 8) (passA P K ro A) (passA P K ro B) := by
    unfold passA
    try dsimp only
    rw [e2]
    exact Ag_up e4 0 0 (by rw [e4 0 0 (show ¬ (0 : Nat) = 8 by decide)])
  exact fun i k hi => e5 i k hi
theorem passA_8 {P A : Dat} {K : Nat → Int} {ro : Option Dat} {k : Nat} : passA P K ro A 8 k = A 8 k := by
  rw [passA_row (Or.inl (by decide)) (by decide)]
  exact workS_8 3 0 _
theorem passA_6 {P A : Dat} {K : Nat → Int} {ro : Option Dat} {k : Nat} (h : ∀ q, jbs P A K q = -1 ∨ k ≠ (jbs P A K q).toNat) : passA P K ro A 6 k = A 6 k := by
  rw [passA_row (Or.inl (by decide)) (by decide)]
  exact workS_6 3 0 _ (fun q _ _ => h q)
theorem jbs_Kp {P A : Dat} {q : Nat} : jbs P A Kp q = jobN P A q := if_neg (Kp2 q)
/-- another JOB of a SMITH than the one that they have stays -/
theorem passA_oth {P A : Dat} {ro : Option Dat} {p j k : Nat} (wP : WfP P) (hj : jobN P A p = (j : Int)) (hk : P 2 k = (p : Int)) (hkj : k ≠ j) : passA P Kp ro A 6 k = A 6 k := by
  refine passA_6 (fun q => ?_)
  by_cases hq : q = p
  · right
    rw [hq, jbs_Kp, hj, Int.toNat_natCast]; exact hkj
  · rcases jbs_lt (K := Kp) (A := A) wP q with h | ⟨-, -, h, -⟩
    · exact Or.inl h
    · right
      intro e
      rw [← e, hk] at h
      omega
/-- the class looks at one JOB (rank -1), the reference at an order -/
def Sm (P : Dat) (m p j : Nat) (js : List Nat) (X B : Dat) : Prop :=
  (∀ i k, i ≠ 8 → B i k = X i k) ∧ (∀ k, P 2 k ≠ (p : Int) → B 8 k = X 8 k) ∧
  (∀ k, k < m → P 2 k = (p : Int) → 0 < X 6 k → k = j ∨ k ∈ js) ∧
  (∀ k, k ∈ js → k < m ∧ P 2 k = (p : Int) ∧ 0 < X 6 k ∧ 0 ≤ X 8 k) ∧
  (j < m ∧ P 2 j = (p : Int) ∧ X 8 j = -1) ∧ List.Pairwise (fun a b => B 8 a < B 8 b) (j :: js)
theorem Sm.step {P : Dat} {m p j : Nat} {js : List Nat} {X B : Dat} {ro : Option Dat} (h : Sm P m p j js X B) (wP : WfP P) (hm : P 0 5 = (m : Int)) (hl : 0 < X 6 j) : Sm P m p j js (passA P Kp ro X) (passA P Kp ro B) := by
  obtain ⟨h1, h2, h3, h4, ⟨h5, h6, h7⟩, h8⟩ := h
  have e6 : ∀ k, B 6 k = X 6 k := fun k => h1 6 k (by decide)
  have jX : jobN P X p = (j : Int) := jobN_is hm h5 (opn_is h6 hl) (fun k k1 k2 k3 => by
    obtain ⟨o1, o2⟩ := opn_own k3
    have k4 := h4 k ((h3 k k1 o1 o2).resolve_left k2)
    omega)
  have jB : jobN P B p = (j : Int) := jobN_is hm h5 (opn_is h6 (by rw [e6]; exact hl)) (fun k k1 k2 k3 => by
    obtain ⟨o1, o2⟩ := opn_own k3
    rw [e6] at o2
    exact (List.pairwise_cons.1 h8).1 k ((h3 k k1 o1 o2).resolve_left k2))
  have hJ : ∀ q, jbs P B Kp q = jbs P X Kp q := fun q => by
    rw [jbs_Kp, jbs_Kp]
    by_cases hq : q = p
    · rw [hq, jX, jB]
    · exact jobN_own e6 (fun k hk => h2 k (by omega))
  have o6 : ∀ k, k ≠ j → P 2 k = (p : Int) → passA P Kp ro X 6 k = X 6 k := fun k k1 k2 => passA_oth wP jX k2 k1
  have nd : j ∉ js := fun z => by
    have := (List.pairwise_cons.1 h8).1 j z
    omega
  refine ⟨pass_ag8 h1 hJ, fun k hk => by rw [passA_8, passA_8]; exact h2 k hk, fun k k1 k2 k3 => ?_, fun k hk => ?_, ⟨h5, h6, by rw [passA_8]; exact h7⟩, ?_⟩
  · by_cases kj : k = j
    · exact Or.inl kj
    · rw [o6 k kj k2] at k3
      exact h3 k k1 k2 k3
  · obtain ⟨a, b, c, d⟩ := h4 k hk
    have kj : k ≠ j := fun z => nd (z ▸ hk)
    exact ⟨a, b, by rw [o6 k kj b]; exact c, by rw [passA_8]; exact d⟩
  · exact h8.imp (fun {a b} z => by rw [passA_8, passA_8]; exact z)
/-- MOMENTS until a JOB is done, d at most -/
def leg (P : Dat) (ro : Option Dat) (j : Nat) : Nat → Dat → Nat × Dat
  | 0, A => (0, A)
  | d + 1, A => if 0 < A 6 j then ((leg P ro j d (passA P Kp ro A)).1 + 1, (leg P ro j d (passA P Kp ro A)).2) else (0, A)
theorem leg_done {P : Dat} {ro : Option Dat} {j : Nat} {A : Dat} (h : ¬ 0 < A 6 j) : ∀ d, leg P ro j d A = (0, A)
  | 0 => rfl
  | d + 1 => by
    unfold leg
    rw [if_neg h]
theorem leg_succ {P : Dat} {ro : Option Dat} {j d : Nat} {A : Dat} (h : 0 < A 6 j) : leg P ro j (d + 1) A = ((leg P ro j d (passA P Kp ro A)).1 + 1, (leg P ro j d (passA P Kp ro A)).2) := by
  rw [leg, if_pos h]
def tm (P : Dat) (ro : Option Dat) : List Nat → Nat → Dat → Option Nat
  | [], _, _ => some 0
  | j :: js, d, A => if 0 < (leg P ro j d (up A 8 j (-1))).2 6 j then none else Option.map (fun n => n + (leg P ro j d (up A 8 j (-1))).1) (tm P ro js (d - (leg P ro j d (up A 8 j (-1))).1) (leg P ro j d (up A 8 j (-1))).2)
/-- MOMENTS until a SMITH has no JOB, d at most -/
def till (P : Dat) (ro : Option Dat) (p : Int) : Nat → Dat → Option Nat
  | 0, B => if 0 < toDoN P B p then none else some 0
  | d + 1, B => if 0 < toDoN P B p then Option.map (fun n => n + 1) (till P ro p d (passA P Kp ro B)) else some 0
theorem till_le {P : Dat} {ro : Option Dat} {p : Int} : ∀ (d : Nat) (B : Dat) (n : Nat), till P ro p d B = some n → n ≤ d
  | 0, B, n, h => by
    unfold till at h
    split at h
    · cases h
    · cases h; exact Nat.le_refl _
  | d + 1, B, n, h => by
    unfold till at h
    split at h
    · cases e : till P ro p d (passA P Kp ro B) with
      | none => rw [e] at h; cases h
      | some k =>
        rw [e] at h
        have := till_le d _ k e
        cases h
        exact Nat.succ_le_succ this
    · cases h; exact Nat.zero_le _
theorem till_no {P : Dat} {ro : Option Dat} {p : Int} {B : Dat} (h : ¬ 0 < toDoN P B p) (d : Nat) : till P ro p d B = some 0 := by
  cases d with
  | zero => unfold till; rw [if_neg h]
  | succ d => unfold till; rw [if_neg h]
theorem tm_till {P : Dat} {ro : Option Dat} {m p : Nat} (wP : WfP P) (hm : P 0 5 = (m : Int)) : ∀ (js : List Nat) (j d : Nat) (X B : Dat), Sm P m p j js X B →
    (if 0 < (leg P ro j d X).2 6 j then none else Option.map (fun n => n + (leg P ro j d X).1) (tm P ro js (d - (leg P ro j d X).1) (leg P ro j d X).2)) = till P ro p d B := by
  intro js
  induction js with
  | nil =>
    intro j d
    induction d with
    | zero =>
      intro X B h
      unfold leg till
      dsimp only
      have e6 : B 6 j = X 6 j := h.1 6 j (by decide)
      by_cases hl : 0 < X 6 j
      · rw [if_pos hl, if_pos ((toDo_some hm).2 ⟨j, h.2.2.2.2.1.1, opn_is h.2.2.2.2.1.2.1 (by rw [e6]; exact hl)⟩)]
      · rw [if_neg hl, if_neg]
        · rfl
        · intro z
          obtain ⟨k, k1, k2⟩ := (toDo_some hm).1 z
          obtain ⟨o1, o2⟩ := opn_own k2
          rw [h.1 6 k (by decide)] at o2
          rcases h.2.2.1 k k1 o1 o2 with q | q
          · rw [q] at o2; exact hl o2
          · cases q
    | succ d ihd =>
      intro X B h
      have e6 : B 6 j = X 6 j := h.1 6 j (by decide)
      by_cases hl : 0 < X 6 j
      · have ho := (toDo_some hm).2 ⟨j, h.2.2.2.2.1.1, opn_is (A := B) h.2.2.2.2.1.2.1 (by rw [e6]; exact hl)⟩
        have ih := ihd (passA P Kp ro X) (passA P Kp ro B) (h.step wP hm hl)
        rw [leg_succ hl, till, if_pos ho, ← ih]
        dsimp only
        by_cases hd : 0 < (leg P ro j d (passA P Kp ro X)).2 6 j
        · rw [if_pos hd, if_pos hd]; rfl
        · rw [if_neg hd, if_neg hd]
          show some _ = some _
          congr 1
      · rw [leg_done hl, till_no]
        · dsimp only; rw [if_neg hl]; rfl
        · intro z
          obtain ⟨k, k1, k2⟩ := (toDo_some hm).1 z
          obtain ⟨o1, o2⟩ := opn_own k2
          rw [h.1 6 k (by decide)] at o2
          rcases h.2.2.1 k k1 o1 o2 with q | q
          · rw [q] at o2; exact hl o2
          · cases q
  | cons j2 js ihj =>
    have stop : ∀ (j d : Nat) (X B : Dat), Sm P m p j (j2 :: js) X B → ¬ 0 < X 6 j → tm P ro (j2 :: js) d X = till P ro p d B := by
      intro j d X B h hl
      obtain ⟨h1, h2, h3, h4, ⟨h5, h6, h7⟩, h8⟩ := h
      have h9 := (List.pairwise_cons.1 h8).2
      obtain ⟨a1, a2, a3, a4⟩ := h4 j2 (List.mem_cons_self ..)
      have nd : j2 ∉ js := fun z => by
        have := (List.pairwise_cons.1 h9).1 j2 z
        omega
      have := ihj j2 d (up X 8 j2 (-1)) B ⟨fun i k hi => by rw [up_at, if_neg (fun z => hi z.1)]; exact h1 i k hi, fun k hk => by rw [up_at, if_neg (fun z => hk (by rw [z.2]; exact a2))]; exact h2 k hk, fun k k1 k2 k3 => ?_, fun k hk => ?_, ⟨a1, a2, up_eq ..⟩, h9⟩
      · rw [← this]; rfl
      · rw [up_at, if_neg (fun z => absurd z.1 (by decide))] at k3
        rcases h3 k k1 k2 k3 with q | q
        · rw [q] at k3; exact absurd k3 hl
        · exact List.mem_cons.1 q
      · obtain ⟨b1, b2, b3, b4⟩ := h4 k (List.mem_cons_of_mem _ hk)
        refine ⟨b1, b2, by rw [up_at, if_neg (fun z => absurd z.1 (by decide))]; exact b3, ?_⟩
        rw [up_at, if_neg (show ¬ ((8 : Nat) = 8 ∧ k = j2) from fun z => nd (z.2 ▸ hk))]; exact b4
    intro j d
    induction d with
    | zero =>
      intro X B h
      by_cases hl : 0 < X 6 j
      · have e6 : B 6 j = X 6 j := h.1 6 j (by decide)
        have ho := (toDo_some hm).2 ⟨j, h.2.2.2.2.1.1, opn_is (A := B) h.2.2.2.2.1.2.1 (by rw [e6]; exact hl)⟩
        unfold leg till
        dsimp only
        rw [if_pos hl, if_pos ho]
      · rw [leg_done hl]
        dsimp only
        rw [if_neg hl, ← stop j 0 X B h hl]
        cases tm P ro (j2 :: js) (0 - 0) X <;> rfl
    | succ d ihd =>
      intro X B h
      by_cases hl : 0 < X 6 j
      · have e6 : B 6 j = X 6 j := h.1 6 j (by decide)
        have ho := (toDo_some hm).2 ⟨j, h.2.2.2.2.1.1, opn_is (A := B) h.2.2.2.2.1.2.1 (by rw [e6]; exact hl)⟩
        have ih := ihd (passA P Kp ro X) (passA P Kp ro B) (h.step wP hm hl)
        rw [leg_succ hl, till, if_pos ho, ← ih]
        dsimp only
        by_cases hd : 0 < (leg P ro j d (passA P Kp ro X)).2 6 j
        · rw [if_pos hd, if_pos hd]; rfl
        · rw [if_neg hd, if_neg hd, show d + 1 - ((leg P ro j d (passA P Kp ro X)).1 + 1) = d - (leg P ro j d (passA P Kp ro X)).1 by omega]
          cases tm P ro (j2 :: js) (d - (leg P ro j d (passA P Kp ro X)).1) (leg P ro j d (passA P Kp ro X)).2 with
          | none => rfl
          | some n => rfl
      · rw [leg_done hl]
        dsimp only
        rw [if_neg hl, ← stop j (d + 1) X B h hl]
        cases e : tm P ro (j2 :: js) (d + 1 - 0) X with
        | none => rfl
        | some n => rfl
/-! what a leg keeps, and how it hangs on its bound -/
theorem leg_le {P : Dat} {ro : Option Dat} {j : Nat} : ∀ (d : Nat) (A : Dat), (leg P ro j d A).1 ≤ d ∧ (0 < (leg P ro j d A).2 6 j → (leg P ro j d A).1 = d)
  | 0, A => ⟨Nat.le_refl _, fun _ => rfl⟩
  | d + 1, A => by
    by_cases h : 0 < A 6 j
    · rw [leg_succ h]
      obtain ⟨a, b⟩ := leg_le (P := P) (ro := ro) (j := j) d (passA P Kp ro A)
      exact ⟨Nat.succ_le_succ a, fun z => by dsimp only; rw [b z]⟩
    · rw [leg_done h]
      exact ⟨Nat.zero_le _, fun z => absurd z h⟩
theorem leg_mono {P : Dat} {ro : Option Dat} {j : Nat} : ∀ (d e : Nat) (A : Dat), d ≤ e → ¬ 0 < (leg P ro j d A).2 6 j → leg P ro j e A = leg P ro j d A
  | 0, e, A, _, h => (leg_done h e).trans rfl
  | d + 1, 0, A, h0, _ => by omega
  | d + 1, e + 1, A, h0, h => by
    by_cases hl : 0 < A 6 j
    · rw [leg_succ hl] at h ⊢
      rw [leg_succ hl, leg_mono d e (passA P Kp ro A) (by omega) h]
    · rw [leg_done hl, leg_done hl]
theorem leg_late {P : Dat} {ro : Option Dat} {j : Nat} : ∀ (d e : Nat) (A : Dat), 0 < (leg P ro j d A).2 6 j → ¬ 0 < (leg P ro j e A).2 6 j → d < (leg P ro j e A).1
  | 0, 0, A, h, h2 => absurd h h2
  | 0, e + 1, A, h, _ => by
    rw [leg_succ (show 0 < A 6 j from h)]
    exact Nat.succ_pos _
  | d + 1, 0, A, h, h2 => by
    by_cases hl : 0 < A 6 j
    · exact absurd hl h2
    · rw [leg_done hl] at h; exact absurd h hl
  | d + 1, e + 1, A, h, h2 => by
    by_cases hl : 0 < A 6 j
    · rw [leg_succ hl] at h h2 ⊢
      exact Nat.succ_lt_succ (leg_late d e (passA P Kp ro A) h h2)
    · rw [leg_done hl] at h; exact absurd h hl
theorem leg_keep {P : Dat} {ro : Option Dat} {m p j : Nat} (wPl : WfPl P) (hm : P 0 5 = (m : Int)) (hj : j < m) (hp : P 2 j = (p : Int)) : ∀ (d t : Nat) (X : Dat), WfI P X t → X 8 j = -1 → (∀ k, k < m → k ≠ j → P 2 k = (p : Int) → 0 < X 6 k → 0 ≤ X 8 k) →
    (∀ k, k ≠ j → P 2 k = (p : Int) → (leg P ro j d X).2 6 k = X 6 k) ∧ (∀ k, (leg P ro j d X).2 8 k = X 8 k) ∧ WfI P (leg P ro j d X).2 (t + (leg P ro j d X).1)
  | 0, t, X, wI, _, _ => ⟨fun _ _ _ => rfl, fun _ => rfl, wI⟩
  | d + 1, t, X, wI, h8, hr => by
    by_cases h : 0 < X 6 j
    · rw [leg_succ h]
      have jX : jobN P X p = (j : Int) := jobN_is hm hj (opn_is hp h) (fun k k1 k2 k3 => by
        obtain ⟨o1, o2⟩ := opn_own k3
        have := hr k k1 k2 o1 o2
        omega)
      have o6 : ∀ k, k ≠ j → P 2 k = (p : Int) → passA P Kp ro X 6 k = X 6 k := fun k k1 k2 => passA_oth wPl.1 jX k2 k1
      obtain ⟨a, b, c⟩ := leg_keep (ro := ro) wPl hm hj hp d (t + 1) (passA P Kp ro X) (passA_wf wI wPl.1 wPl.2.1 wPl.2.2.1 Kp2) (by rw [passA_8]; exact h8) (fun k k1 k2 k3 k4 => by rw [o6 k k2 k3] at k4; rw [passA_8]; exact hr k k1 k2 k3 k4)
      refine ⟨fun k k1 k2 => (a k k1 k2).trans (o6 k k1 k2), fun k => (b k).trans passA_8, ?_⟩
      dsimp only
      rw [show t + ((leg P ro j d (passA P Kp ro X)).1 + 1) = t + 1 + (leg P ro j d (passA P Kp ro X)).1 by omega]
      exact c
    · rw [leg_done h]
      exact ⟨fun _ _ _ => rfl, fun _ => rfl, wI⟩
/-! the ranks may be otherwise -/
theorem WfI_8 {P A B : Dat} {t : Nat} (wI : WfI P A t) (h : ∀ i k, i ≠ 8 → B i k = A i k) (h8 : ∀ k, -(100000 + 10000 * (t : Int)) ≤ B 8 k ∧ B 8 k ≤ 100000 + 10000 * (t : Int)) : WfI P B t := by
  obtain ⟨⟨a, b, c⟩, m0, mt, bA, hn, h9⟩ := wI
  refine ⟨⟨fun j hj => by rw [h 6 j (by decide), h 7 j (by decide)]; exact a j hj, fun q hq => by rw [h 1 q (by decide)]; exact b q hq, fun k hk => by rw [h 9 k (by decide)]; exact c k hk⟩, by rw [h 0 0 (by decide)]; exact m0, by rw [h 0 0 (by decide)]; exact mt, fun i k => ?_, fun p hp hj => ?_, by rw [h 9 3 (by decide)]; exact h9⟩
  · by_cases hi : i = 8
    · rw [hi]; exact h8 k
    · rw [h i k hi]; exact bA i k
  · rw [h 2 p (by decide)]
    refine hn p hp ?_
    have e : toDoN P B p = toDoN P A p := toDoL_own (fun k => opn_congr (fun _ => h 6 k (by decide))) _ _ _
    by_cases z : jobN P A p = -1
    · exact z
    · have := toDo_nil.2 z
      rw [← e] at this
      exact absurd hj (toDo_nil.1 this)
theorem WfI_1 {P A : Dat} {t p : Nat} (wI : WfI P A t) (wB : 0 ≤ P 0 2) : WfI P (up A 1 p 0) t := by
  obtain ⟨⟨a, b, c⟩, m0, mt, bA, hn, h9⟩ := wI
  refine ⟨⟨fun j hj => by rw [up_at, up_at, if_neg (by omega), if_neg (by omega)]; exact a j hj, fun q hq => ?_, fun k hk => by rw [up_at, if_neg (by omega)]; exact c k hk⟩, by rw [up_at, if_neg (by omega)]; exact m0, by rw [up_at, if_neg (by omega)]; exact mt, bA.up (by omega) (by omega), fun q hq hj => ?_, by rw [up_at, if_neg (by omega)]; exact h9⟩
  · rw [up_at]
    split
    · omega
    · exact b q hq
  · rw [up_at, if_neg (by omega)]
    refine hn q hq ?_
    rw [← hj]
    exact (jobL_congr (fun j _ => by rw [up_at, if_neg (by omega)]) (fun j => by rw [up_at, if_neg (by omega)]) _ _ _).symm
