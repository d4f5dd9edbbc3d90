/-! QUERIES: ruled, look, 2: the class -/
def roK (S : Ab) (k : Nat) : Option Dat := if k = 0 then none else some (sRu S (k - 1))
def fitL (P N : Dat) (ro : Option Dat) : Nat → Nat → Dat → Bool
  | 0, _, _ => true
  | d + 1, m, A => agN N A m && fitL P N ro d (m + 1) (passA P Kp ro A)
def fitB (P N : Dat) (ro : Option Dat) : Bool := fitL P N ro 100 0 (bgn P)
theorem fitL_add {P N : Dat} {ro : Option Dat} : ∀ (a b m : Nat) (A : Dat), fitL P N ro (a + b) m A = (fitL P N ro a m A && fitL P N ro b (m + a) (itA P Kp ro a A))
  | 0, b, m, A => by
    rw [Nat.zero_add]
    show _ = (true && _)
    rw [Bool.true_and]; rfl
  | a + 1, b, m, A => by
    rw [show a + 1 + b = (a + b) + 1 by omega]
    show (agN N A m && fitL P N ro (a + b) (m + 1) (passA P Kp ro A)) = ((agN N A m && fitL P N ro a (m + 1) (passA P Kp ro A)) && _)
    rw [fitL_add a b (m + 1), Bool.and_assoc, show m + 1 + a = m + (a + 1) by omega]; rfl
theorem fitL_none {P N : Dat} {ro : Option Dat} : ∀ (d m : Nat) (A : Dat), (∀ i : Nat, (i : Int) < N 0 0 → N 1 i < (m : Int)) → fitL P N ro d m A = true
  | 0, _, _, _ => rfl
  | d + 1, m, A, h => by
    show (agN N A m && fitL P N ro d (m + 1) (passA P Kp ro A)) = true
    rw [fitL_none d (m + 1) _ (fun i hi => by have := h i hi; omega), Bool.and_true]
    exact agL_none _ _ (fun k _ hk => by have := h k (by omega); omega)
def latL (N : Dat) : Nat → Nat → Int → Int
  | 0, _, x => x
  | d + 1, i, x => latL N d (i + 1) (max x (N 1 i))
def latN (N : Dat) : Int := latL N (N 0 0).toNat 0 (-1)
theorem latL_rg {N : Dat} {M : Int} : ∀ (d i : Nat) (x : Int), x ≤ M → (∀ k, i ≤ k → k < i + d → N 1 k ≤ M) → x ≤ latL N d i x ∧ latL N d i x ≤ M ∧ ∀ k, i ≤ k → k < i + d → N 1 k ≤ latL N d i x
  | 0, i, x, h, _ => ⟨Int.le_refl _, h, fun k a b => by omega⟩
  | d + 1, i, x, h, hk => by
    have hi := hk i (Nat.le_refl _) (by omega)
    obtain ⟨a, b, c⟩ := latL_rg (N := N) (M := M) d (i + 1) (max x (N 1 i)) (by omega) (fun k h1 h2 => hk k (by omega) (by omega))
    unfold latL
    refine ⟨by omega, b, fun k h1 h2 => ?_⟩
    by_cases z : k = i
    · rw [z]; omega
    · exact c k (by omega) (by omega)
theorem latN_rg {N : Dat} (wN : WfN N) : -1 ≤ latN N ∧ latN N ≤ 99 ∧ ∀ i : Nat, (i : Int) < N 0 0 → N 1 i ≤ latN N := by
  obtain ⟨w1, w2, w3⟩ := wN
  obtain ⟨a, b, c⟩ := latL_rg (N := N) (M := 99) (N 0 0).toNat 0 (-1) (by decide) (fun k _ h => (w3 k (by omega)).2.1)
  exact ⟨a, b, fun i hi => c i (Nat.zero_le _) (by omega)⟩
/-- up to the last MOMENT that matters -/
theorem fit_cut {P N : Dat} {ro : Option Dat} {l : Int} (wN : WfN N) (h1 : latN N ≤ l) (h2 : l ≤ 99) : fitL P N ro (l + 1).toNat 0 (bgn P) = fitB P N ro := by
  obtain ⟨a, b, c⟩ := latN_rg wN
  unfold fitB
  rw [show (100 : Nat) = (l + 1).toNat + (100 - (l + 1).toNat) by omega, fitL_add, fitL_none (100 - (l + 1).toNat) _ _ (fun i hi => by have := c i hi; omega), Bool.and_true]
theorem latest_c {F : Nat} {σ : Mem} {N : Dat} (hN : RepN 36 σ N) (wN : WfN N) (hF : 100 ≤ F) : m3_latest F 36 σ = some (w32 (latN N)) := by
  obtain ⟨w1, w2, w3⟩ := wN
  have e0 := hN.1
  have loop : ∀ (d n i : Nat) (x : Int), (i : Int) + d = N 0 0 → d < n → -1 ≤ x → x ≤ 99 → m3_latest_4 F 36 σ n (w32 x) (w32 (i : Int)) = some (w32 (latL N d i x)) := by
    intro d
    induction d with
    | zero =>
      intro n i x h1 h2 h3 h4
      obtain ⟨n, rfl⟩ : ∃ k, n = k + 1 := ⟨n - 1, by omega⟩
      unfold m3_latest_4
      rw [e0, if_pos (by rw [w_le (by omega) (by omega) (by omega) (by omega)]; omega)]; rfl
    | succ d ih =>
      intro n i x h1 h2 h3 h4
      obtain ⟨n, rfl⟩ : ∃ k, n = k + 1 := ⟨n - 1, by omega⟩
      obtain ⟨y1, y2, -⟩ := w3 i (by omega)
      have q1 := hN.2 1 (by decide) (by decide) i (by omega)
      unfold m3_latest_4
      rw [e0, if_neg (by rw [w_le (by omega) (by omega) (by omega) (by omega)]; omega), gd_pos (w_inB (by omega) (by omega) (by omega)), w_natk (by omega), q1, mxI_w (by omega) (by omega) (by omega) (by omega), w_succ]
      exact ih n (i + 1) _ (by omega) (by omega) (by omega) (by omega)
  unfold m3_latest latN
  exact loop (N 0 0).toNat F 0 (-1) (by omega) (by omega) (by omega) (by omega)
theorem seen53 {F : Nat} {i2 x3 x4 : Int32} {k82 : Int32 → Int32 → Mem → Option (Int32 × Mem)} : ∀ (d n' q : Nat) (σ : Mem), q + d = 3 → d < n' → ∃ σ', m1_fits_53 F 36 i2 k82 n' x3 x4 (w32 (q : Int)) σ = k82 x3 x4 σ' ∧ Fr (fun c => c = 146) σ σ' ∧ (∀ p, q ≤ p → p < 3 → gI σ' 146 p = gI σ 145 p) ∧ (∀ p, p < q → gI σ' 146 p = gI σ 146 p) := by
  intro d
  induction d with
  | zero =>
    intro n' q σ h1 h2
    obtain ⟨n', rfl⟩ : ∃ k, n' = k + 1 := ⟨n' - 1, by omega⟩
    unfold m1_fits_53
    rw [if_pos (by rw [wl_3, w_le (by omega) (by omega) (by omega) (by omega)]; omega)]
    exact ⟨σ, rfl, Fr.rf _ σ, fun p a b => by omega, fun _ _ => rfl⟩
  | succ d ih =>
    intro n' q σ h1 h2
    obtain ⟨n', rfl⟩ : ∃ k, n' = k + 1 := ⟨n' - 1, by omega⟩
    unfold m1_fits_53
    rw [if_neg (by rw [wl_3, w_le (by omega) (by omega) (by omega) (by omega)]; omega), gd_pos (w_inB (by omega) (by omega) (by omega)), gd_pos (w_inB (by omega) (by omega) (by omega)), w_natk (by omega), w_succ]
    obtain ⟨σ', m1, f1, a, b⟩ := ih n' (q + 1) (sI σ 146 q (gI σ 145 q)) (by omega) (by omega)
    refine ⟨σ', m1, ((Fr.rf (fun c => c = 146) σ).sI rfl).trans f1, fun p p1 p2 => ?_, fun p hp => ?_⟩
    · by_cases z : p = q
      · rw [z, b q (by omega), gI_eq]
      · rw [a p (by omega) p2, gI_nec (by decide)]
    · rw [b p (by omega), gI_nej (by omega)]
def Wft (c : Nat) : Prop := (40 ≤ c ∧ c ≤ 44) ∨ (136 ≤ c ∧ c ≤ 146) ∨ (156 ≤ c ∧ c ≤ 186 ∧ c % 6 = 0)
theorem fits23 {F : Nat} {P N : Dat} {ro : Option Dat} {n last : Int} (wPl : WfPl P) (wN : WfN N) (hn : -1 ≤ n ∧ n ≤ 99) (hl : -1 ≤ last ∧ last ≤ 99) (hF : 1000 ≤ F) : ∀ (d n' m t : Nat) (σ : Mem) (A : Dat), (m : Int) + d = last + 1 → d < n' → CE 136 Kp ro P A σ → RepN 36 σ N → WfI P A t → t + d ≤ 9000 →
    ∃ σ', m1_fits_23 F 36 (w32 n) n' (w32 last) (w32 (m : Int)) σ = some (if fitL P N ro d m A then (1 : Int32) else 0, σ') ∧ Fr Wft σ σ' ∧ (∀ nn : Nat, n = nn → nn < m + d → fitL P N ro d m A = true → ∀ q, q < 3 → gI σ' 146 q = if m ≤ nn then w32 (itA P Kp ro (nn - m) A 9 q) else gI σ 146 q) := by
  intro d
  induction d with
  | zero =>
    intro n' m t σ A h1 h2 hE hN wI ht
    obtain ⟨n', rfl⟩ : ∃ k, n' = k + 1 := ⟨n' - 1, by omega⟩
    unfold m1_fits_23
    rw [if_pos (by rw [w_lt (by omega) (by omega) (by omega) (by omega)]; omega)]
    exact ⟨σ, rfl, Fr.rf _ σ, fun nn e1 e2 _ q _ => by rw [if_neg (by omega)]⟩
  | succ d ih =>
    intro n' m t σ A h1 h2 hE hN wI ht
    obtain ⟨n', rfl⟩ : ∃ k, n' = k + 1 := ⟨n' - 1, by omega⟩
    have bA := wI.bd (show t ≤ 9000 by omega)
    have st136 : StC 136 := by unfold StC; omega
    -- the rest behind one MOMENT
    have rest : ∀ σ1 : Mem, Fr (fun c => c = 146) σ σ1 → ∃ σ', m1_fits_82 F 36 (w32 n) (fun x3 x4 σ => m1_fits_23 F 36 (w32 n) n' x3 x4 σ) (w32 last) (w32 (m : Int)) σ1 = some (if fitL P N ro d (m + 1) (passA P Kp ro A) then (1 : Int32) else 0, σ') ∧ Fr Wft σ σ' ∧ (∀ nn : Nat, n = nn → nn < m + 1 + d → fitL P N ro d (m + 1) (passA P Kp ro A) = true → ∀ q, q < 3 → gI σ' 146 q = if m + 1 ≤ nn then w32 (itA P Kp ro (nn - (m + 1)) (passA P Kp ro A) 9 q) else gI σ1 146 q) := by
      intro σ1 f1
      have E1 : CE 136 Kp ro P A σ1 := hE.fr f1 (fun c z => by omega)
      obtain ⟨σ2, m2, E2, -, -⟩ := ce_go (F := F) E1 wPl.1 bA Kp_bd st136 hF
      have f2 := f2_go m2
      have f2' : Fr (fun c => (40 ≤ c ∧ c ≤ 44) ∨ (136 ≤ c ∧ c ≤ 145) ∨ (156 ≤ c ∧ c ≤ 186 ∧ c % 6 = 0)) σ1 σ2 := f2.mono (fun c z => by unfold Wm2_go at z; omega)
      have f3 : Fr Wft σ σ2 := (f1.mono (fun c z => by unfold Wft; omega)).trans (f2'.mono (fun c z => by unfold Wft; omega))
      obtain ⟨σ3, m3, f4, g4⟩ := ih n' (m + 1) (t + 1) σ2 (passA P Kp ro A) (by omega) (by omega) E2 (hN.fr f3 (fun i hi => by unfold Wft; omega)) (passA_wf wI wPl.1 wPl.2.1 wPl.2.2.1 Kp2) (by omega)
      refine ⟨σ3, ?_, f3.trans f4, fun nn e1 e2 e3 q hq => ?_⟩
      · unfold m1_fits_82
        rw [m2, Option.bind_some, w_succ]
        exact m3
      · rw [g4 nn e1 e2 e3 q hq, f2'.gI (by omega)]
    unfold m1_fits_23
    rw [if_neg (by rw [w_lt (by omega) (by omega) (by omega) (by omega)]; omega), agree_c hN hE.2.1 wN (bA.mono (by decide)) (by omega) (by omega), Option.bind_some]
    simp only [g01]
    by_cases ha : agN N A m = true
    · have ef : fitL P N ro (d + 1) m A = fitL P N ro d (m + 1) (passA P Kp ro A) := by
        show (agN N A m && _) = _
        rw [ha, Bool.true_and]
      rw [if_neg (not_not_intro ha), ef]
      by_cases hm : (m : Int) = n
      · rw [if_pos (by rw [hm])]
        obtain ⟨σ1, m1, f1, g1, -⟩ := seen53 (F := F) (i2 := w32 n) (x3 := w32 last) (x4 := w32 (m : Int)) (k82 := fun x3 x4 σ => m1_fits_82 F 36 (w32 n) (fun x3 x4 σ => m1_fits_23 F 36 (w32 n) n' x3 x4 σ) x3 x4 σ) 3 F 0 σ (by omega) (by omega)
        have m1' : m1_fits_53 F 36 (w32 n) (fun x3 x4 σ => m1_fits_82 F 36 (w32 n) (fun x3 x4 σ => m1_fits_23 F 36 (w32 n) n' x3 x4 σ) x3 x4 σ) F (w32 last) (w32 (m : Int)) (0 : Int32) σ = _ := m1
        rw [m1']
        obtain ⟨σ2, m2, f2, g2⟩ := rest σ1 f1
        refine ⟨σ2, m2, f2, fun nn e1 e2 e3 q hq => ?_⟩
        have hnn : nn = m := by omega
        rw [g2 nn e1 (by omega) e3 q hq, if_neg (by omega), if_pos (by omega), hnn, Nat.sub_self, g1 q (Nat.zero_le _) hq]
        exact hE.2.1 9 (by decide) q (show q < 4 by omega)
      · rw [if_neg (by rw [w_eq (by omega) (by omega) (by omega) (by omega)]; exact hm)]
        obtain ⟨σ2, m2, f2, g2⟩ := rest σ (Fr.rf _ σ)
        refine ⟨σ2, m2, f2, fun nn e1 e2 e3 q hq => ?_⟩
        rw [g2 nn e1 (by omega) e3 q hq]
        by_cases z : m + 1 ≤ nn
        · rw [if_pos z, if_pos (by omega), show nn - m = (nn - (m + 1)) + 1 by omega]; rfl
        · rw [if_neg z, if_neg (by omega)]
    · have ef : fitL P N ro (d + 1) m A = false := by
        show (agN N A m && _) = false
        rw [show agN N A m = false by simpa using ha, Bool.false_and]
      rw [if_pos ha, ef]
      exact ⟨σ, rfl, Fr.rf _ σ, fun _ _ _ z => by cases z⟩
def Wn (P : Dat) (ro : Option Dat) (n q : Nat) : Int := itA P Kp ro n (bgn P) 9 q
theorem fits_c {F : Nat} {P N : Dat} {ro : Option Dat} {n : Int} {σ : Mem} (wPl : WfPl P) (wN : WfN N) (hn : -1 ≤ n ∧ n ≤ 99) (hP : RepP 17 σ P) (hK : RepC σ Kp) (hR : RepRo σ ro) (hN : RepN 36 σ N) (hF : 1000 ≤ F) :
    ∃ σ', m1_fits F 36 (w32 n) σ = some (if fitB P N ro then (1 : Int32) else 0, σ') ∧ Fr Wft σ σ' ∧ (∀ nn : Nat, n = nn → fitB P N ro = true → ∀ q, q < 3 → gI σ' 146 q = w32 (Wn P ro nn q)) := by
  obtain ⟨l1, l2, l3⟩ := latN_rg wN
  obtain ⟨σ1, m1, s1⟩ := begin_ok (F := F) (c0 := 136) (by decide) (by omega) hP
  have f1 := f7_begin m1
  have f1' : Fr (fun c => 136 ≤ c ∧ c ≤ 145) σ σ1 := f1.mono (fun c z => by unfold Wm7_begin at z; omega)
  have E1 : CE 136 Kp ro P (bgn P) σ1 := ⟨hP.fr f1' (fun i hi => by omega), bgn_S s1, hK.fr f1' (by omega), hR.fr f1' (fun c z => by omega)⟩
  obtain ⟨σ2, m2, f2, g2⟩ := fits23 (F := F) (n := n) (last := max n (latN N)) wPl wN hn (by omega) hF (max n (latN N) + 1).toNat F 0 0 σ1 (bgn P) (by omega) (by omega) E1 (hN.fr f1' (fun i hi => by omega)) (bgn_wf wPl).1 (by omega)
  have ef := fit_cut (P := P) (ro := ro) (l := max n (latN N)) wN (by omega) (by omega)
  rw [ef] at m2 g2
  refine ⟨σ2, ?_, (f1'.mono (fun c z => by unfold Wft; omega)).trans f2, fun nn e1 e2 q hq => ?_⟩
  · unfold m1_fits
    rw [latest_c hN wN (by omega), Option.bind_some, m1, Option.bind_some, mxI_w (by omega) (by omega) (by omega) (by omega)]
    exact m2
  · rw [g2 nn e1 (by omega) e2 q hq, if_pos (Nat.zero_le _)]; rfl
theorem plain_ok {F : Nat} {σ : Mem} (p : Nat) : ∃ σ', m2_plain F p σ = some σ' ∧ RepC σ' Kp ∧ gR σ' = p ∧ Fr (fun c => c = 40 ∨ c = 1000) σ σ' := by
  refine ⟨_, rfl, fun j hj => ?_, rfl, ?_⟩
  · rcases (show j = 2 ∨ j = 3 ∨ j = 4 ∨ j = 5 ∨ j = 6 by omega) with rfl | rfl | rfl | rfl | rfl
    · rw [gI_nej (by decide), gI_nej (by decide), gI_nej (by decide), gI_nej (by decide), gI_eq]; rfl
    · rw [gI_nej (by decide), gI_nej (by decide), gI_nej (by decide), gI_eq]; rfl
    · rw [gI_nej (by decide), gI_nej (by decide), gI_eq]; rfl
    · rw [gI_nej (by decide), gI_eq]; rfl
    · rw [gI_eq]; rfl
  · exact (((((((Fr.rf (fun c => c = 40 ∨ c = 1000) σ).sR (Or.inr rfl)).sI (Or.inl rfl)).sI (Or.inl rfl)).sI (Or.inl rfl)).sI (Or.inl rfl)).sI (Or.inl rfl))
theorem opI_snoc {b : Nat → Bool} : ∀ (d x : Nat), opI b (d + 1) x = opI b d x ++ (if b (x + d) then [x + d] else [])
  | 0, x => by
    show (if b x then x :: [] else []) = [] ++ _
    rw [List.nil_append, Nat.add_zero]
  | d + 1, x => by
    rw [opI, opI_snoc d (x + 1), opI, show x + 1 + d = x + (d + 1) by omega]
    by_cases h : b x = true
    · rw [if_pos h, if_pos h]; rfl
    · rw [if_neg h, if_neg h]
theorem opI_len {b : Nat → Bool} : ∀ (d x : Nat), (opI b d x).length ≤ d
  | 0, _ => Nat.le_refl _
  | d + 1, x => by
    unfold opI
    have := opI_len (b := b) d (x + 1)
    split
    · rw [List.length_cons]; omega
    · omega
def fst1 (L : List Nat) : Int := match L with
  | [] => -1
  | x :: _ => (x : Int) - 1
theorem fst1_app {L : List Nat} {x : Nat} : fst1 (L ++ [x]) = if L.length = 0 then (x : Int) - 1 else fst1 L := by
  cases L with
  | nil => rfl
  | cons a l => rfl
/-- what the class has gathered -/
def Gat (L : List Nat) (n : Int) (V : Nat → Nat → Int) (σ : Mem) : Prop := gI σ 135 5 = w32 (L.length : Int) ∧ gI σ 135 6 = w32 (fst1 L) ∧ (0 ≤ n → ∀ q f, q < 3 → f < L.length → gI σ (148 + q) f = w32 (V (L.getD f 0) q))
theorem Gat.fr {L : List Nat} {n : Int} {V : Nat → Nat → Int} {σ σ' : Mem} {W : Nat → Prop} (h : Gat L n V σ) (f : Fr W σ σ') (hw : ∀ c, W c → c ≠ 135 ∧ (c < 148 ∨ 150 < c)) : Gat L n V σ' :=
  ⟨by rw [f.gI (fun z => by have := hw _ z; omega)]; exact h.1, by rw [f.gI (fun z => by have := hw _ z; omega)]; exact h.2.1, fun h0 q k hq hk => by rw [f.gI (fun z => by have := hw _ z; omega)]; exact h.2.2 h0 q k hq hk⟩
theorem weigh89 {F : Nat} {i2 i4 x5 : Int32} {k13 : Int32 → Mem → Option Mem} {l : Nat} (hl : l ≤ 6) : ∀ (d n' q : Nat) (σ : Mem), q + d = 3 → d < n' → gI σ 135 5 = w32 (l : Int) → ∃ σ', m1_weigh_89 F i2 36 i4 k13 n' x5 (w32 (q : Int)) σ = k13 (x5 + 1) σ' ∧ gI σ' 135 5 = w32 ((l + 1 : Nat) : Int) ∧ gI σ' 135 6 = gI σ 135 6 ∧ (∀ p, q ≤ p → p < 3 → gI σ' (148 + p) l = gI σ 146 p) ∧ (∀ p k, p < 3 → (p < q ∨ k ≠ l) → gI σ' (148 + p) k = gI σ (148 + p) k) ∧ Fr (fun c => c = 135 ∨ (148 ≤ c ∧ c ≤ 150)) σ σ' := by
  intro d
  induction d with
  | zero =>
    intro n' q σ h1 h2 h5
    obtain ⟨n', rfl⟩ : ∃ k, n' = k + 1 := ⟨n' - 1, by omega⟩
    unfold m1_weigh_89
    rw [if_pos (by rw [wl_3, w_le (by omega) (by omega) (by omega) (by omega)]; omega), h5, w_succ]
    exact ⟨_, rfl, gI_eq .., gI_nej (by decide), fun p a b => by omega, fun p k hp _ => gI_nec (by omega), (Fr.rf _ σ).sI (Or.inl rfl)⟩
  | succ d ih =>
    intro n' q σ h1 h2 h5
    obtain ⟨n', rfl⟩ : ∃ k, n' = k + 1 := ⟨n' - 1, by omega⟩
    unfold m1_weigh_89
    rw [if_neg (by rw [wl_3, w_le (by omega) (by omega) (by omega) (by omega)]; omega), gd_pos (w_inB (by omega) (by omega) (by omega)), gd_pos (w_inB (by omega) (by omega) (by omega)), h5, gd_pos (w_inB (by omega) (by omega) (by omega)), w_natk (by omega), w_natk (by omega), w_succ, Nat.one_mul]
    obtain ⟨σ', m1, a, b, c, e, f⟩ := ih n' (q + 1) (sI σ (148 + q) l (gI σ 146 q)) (by omega) (by omega) (by rw [gI_nec (by omega)]; exact h5)
    refine ⟨σ', m1, a, by rw [b, gI_nec (by omega)], fun p p1 p2 => ?_, fun p k hp hk => ?_, ((Fr.rf _ σ).sI (by omega)).trans f⟩
    · by_cases z : p = q
      · rw [z, e q l (by omega) (Or.inl (by omega)), gI_eq]
      · rw [c p (by omega) p2, gI_nec (by omega)]
    · rw [e p k hp (by omega), gI_sI, if_neg (by omega)]
theorem weigh13 {F t : Nat} {S : Ab} {n : Int} (wf : Wf t S) (hn : -1 ≤ n ∧ n ≤ 99) (hF : 1000 ≤ F) : ∀ (d n' k : Nat) (σ : Mem), k + d = sRc S + 1 → d < n' → CInv S σ → Gat (opI (fun i => fitB (wP (sW S)) (wN (sW S)) (roK S i)) k 0) n (fun i q => Wn (wP (sW S)) (roK S i) n.toNat q) σ →
    ∃ σ', m1_weigh_13 F (w32 (sRc S : Int)) 36 (w32 n) n' (w32 ((k : Int) - 1)) σ = some σ' ∧ CInv S σ' ∧ Gat (opI (fun i => fitB (wP (sW S)) (wN (sW S)) (roK S i)) (sRc S + 1) 0) n (fun i q => Wn (wP (sW S)) (roK S i) n.toNat q) σ' := by
  have wPl := wf.1.1
  have wNo := wf.1.2.2.1
  have rc6 := wf.2.1.1
  intro d
  induction d with
  | zero =>
    intro n' k σ h1 h2 hC hG
    obtain ⟨n', rfl⟩ : ∃ q, n' = q + 1 := ⟨n' - 1, by omega⟩
    unfold m1_weigh_13
    rw [if_pos (by rw [w_le (by omega) (by omega) (by omega) (by omega)]; omega)]
    have : k = sRc S + 1 := by omega
    subst this
    exact ⟨σ, rfl, hC, hG⟩
  | succ d ih =>
    intro n' k σ h1 h2 hC hG
    obtain ⟨n', rfl⟩ : ∃ q, n' = q + 1 := ⟨n' - 1, by omega⟩
    have hlen := opI_len (b := fun i => fitB (wP (sW S)) (wN (sW S)) (roK S i)) k 0
    have e44 : ∀ s1 : Nat, (s1 = if k = 0 then 0 else 151 + 6 * (k - 1)) → ∃ σ', m1_weigh_44 F (w32 (sRc S : Int)) 36 (w32 n) (fun x5 σ => m1_weigh_13 F (w32 (sRc S : Int)) 36 (w32 n) n' x5 σ) (w32 ((k : Int) - 1)) s1 σ = some σ' ∧ CInv S σ' ∧ Gat (opI (fun i => fitB (wP (sW S)) (wN (sW S)) (roK S i)) (sRc S + 1) 0) n (fun i q => Wn (wP (sW S)) (roK S i) n.toNat q) σ' := by
      intro s1 hs1
      obtain ⟨σ1, m1, k1, r1, f1⟩ := plain_ok (F := F) (σ := σ) s1
      have hC1 : CInv S σ1 := hC.fr rc6 f1 (fun c h => by unfold Scr; omega)
      have R1 : RepRo σ1 (roK S k) := by
        unfold roK
        by_cases h0 : k = 0
        · rw [if_pos h0] at hs1 ⊢
          exact r1.trans hs1
        · rw [if_neg h0] at hs1 ⊢
          have hk : k - 1 < sRc S := by omega
          refine ⟨?_, ?_, (wf.2.1.2 _ hk).1⟩
          · rw [r1, hs1]; exact kd_prog _ (by omega)
          · rw [r1, hs1]; exact hC1.2.1.2 _ hk
      have hG1 := hG.fr f1 (fun c z => by omega)
      have N1 : RepN 36 σ1 (wN (sW S)) := hC1.1.2.2.1
      obtain ⟨σ2, m2, f2, g2⟩ := fits_c (F := F) (n := n) wPl wNo hn hC1.1.1 k1 R1 N1 hF
      have hC2 : CInv S σ2 := hC1.fr rc6 f2 (fun c h => by unfold Wft at h; unfold Scr; omega)
      have hG2 := hG1.fr f2 (fun c z => by unfold Wft at z; omega)
      have es := opI_snoc (b := fun i => fitB (wP (sW S)) (wN (sW S)) (roK S i)) k 0
      rw [Nat.zero_add] at es
      have ek : w32 ((k : Int) - 1) + (1 : Int32) = w32 (((k + 1 : Nat) : Int) - 1) := by rw [wl_1, w_add]; congr 1; omega
      unfold m1_weigh_44
      rw [m1, Option.bind_some, hG1.1, if_neg (by rw [wl_6, w_lt (by omega) (by omega) (by omega) (by omega)]; omega), m2, Option.bind_some]
      dsimp only
      simp only [g01]
      by_cases hfit : fitB (wP (sW S)) (wN (sW S)) (roK S k) = true
      · rw [if_neg (not_not_intro hfit)]
        rw [if_pos hfit] at es
        have fin : ∀ σ3 : Mem, Fr (fun c => c = 135) σ2 σ3 → gI σ3 135 5 = gI σ2 135 5 → gI σ3 135 6 = w32 (fst1 (opI (fun i => fitB (wP (sW S)) (wN (sW S)) (roK S i)) (k + 1) 0)) → ∃ σ', m1_weigh_89 F (w32 (sRc S : Int)) 36 (w32 n) (fun x5 σ => (fun x5 σ => m1_weigh_13 F (w32 (sRc S : Int)) 36 (w32 n) n' x5 σ) x5 σ) F (w32 ((k : Int) - 1)) (0 : Int32) σ3 = some σ' ∧ CInv S σ' ∧ Gat (opI (fun i => fitB (wP (sW S)) (wN (sW S)) (roK S i)) (sRc S + 1) 0) n (fun i q => Wn (wP (sW S)) (roK S i) n.toNat q) σ' := by
          intro σ3 f3 e5 e6
          obtain ⟨σ4, m4, a4, b4, c4, d4, f4⟩ := weigh89 (F := F) (i2 := w32 (sRc S : Int)) (i4 := w32 n) (x5 := w32 ((k : Int) - 1)) (k13 := fun x5 σ => (fun x5 σ => m1_weigh_13 F (w32 (sRc S : Int)) 36 (w32 n) n' x5 σ) x5 σ) (l := (opI (fun i => fitB (wP (sW S)) (wN (sW S)) (roK S i)) k 0).length) (by omega) 3 F 0 σ3 (by omega) (by omega) (by rw [e5]; exact hG2.1)
          have fd : Fr (fun c => c = 135 ∨ (148 ≤ c ∧ c ≤ 150)) σ2 σ4 := (f3.mono (fun c z => Or.inl z)).trans f4
          have m4' : m1_weigh_89 F (w32 (sRc S : Int)) 36 (w32 n) (fun x5 σ => (fun x5 σ => m1_weigh_13 F (w32 (sRc S : Int)) 36 (w32 n) n' x5 σ) x5 σ) F (w32 ((k : Int) - 1)) (0 : Int32) σ3 = _ := m4
          rw [m4', ek]
          refine ih n' (k + 1) σ4 (by omega) (by omega) (hC2.fr rc6 fd (fun c h => by unfold Scr; omega)) ⟨?_, by rw [b4]; exact e6, fun h0 q f hq hf => ?_⟩
          · rw [a4, es, List.length_append]; rfl
          · rw [es, List.length_append] at hf
            have hf : f < (opI (fun i => fitB (wP (sW S)) (wN (sW S)) (roK S i)) k 0).length + 1 := hf
            rw [es]
            by_cases z : f = (opI (fun i => fitB (wP (sW S)) (wN (sW S)) (roK S i)) k 0).length
            · rw [z, c4 q (Nat.zero_le _) hq, getD_hi, f3.gI (by decide), g2 n.toNat (by omega) hfit q hq]
            · rw [d4 q f hq (Or.inr z), getD_lo (by omega), f3.gI (by omega)]
              exact hG2.2.2 h0 q f hq (by omega)
        rw [hG2.1]
        by_cases h0 : (opI (fun i => fitB (wP (sW S)) (wN (sW S)) (roK S i)) k 0).length = 0
        · rw [if_pos (by rw [h0]; rfl)]
          exact fin _ ((Fr.rf _ σ2).sI rfl) (gI_nej (by decide)) (by rw [gI_eq, es, fst1_app, if_pos h0])
        · rw [if_neg (by rw [wl_0, w_eq (by omega) (by omega) (by omega) (by omega)]; omega)]
          exact fin _ ((Fr.rf _ σ2).sI rfl) (gI_nej (by decide)) (by rw [gI_eq, es, fst1_app, if_neg h0]; exact hG2.2.1)
      · rw [if_pos hfit, ek]
        rw [if_neg hfit, List.append_nil] at es
        exact ih n' (k + 1) σ2 (by omega) (by omega) hC2 (by rw [es]; exact hG2)
    unfold m1_weigh_13
    rw [if_neg (by rw [w_le (by omega) (by omega) (by omega) (by omega)]; omega), if_neg (by rw [nI_w, w_le (by omega) (by omega) (by omega) (by omega)]; omega)]
    by_cases h0 : k = 0
    · rw [if_pos (by rw [h0]; rfl)]
      exact e44 0 (by rw [if_pos h0])
    · rw [if_neg (by rw [wl_m1, w_eq (by omega) (by omega) (by omega) (by omega)]; omega), gd_pos (w_inB (by omega) (by omega) (by omega)), w_nat (by omega) (by omega), show ((k : Int) - 1).toNat = k - 1 by omega]
      exact e44 _ (by rw [if_neg h0])
