/-! QUERY: order, 3: the reference -/
theorem toDoL_len {P A : Dat} {p : Int} : ∀ (d j : Nat) (s : Int), toDoL P A p d j s = s + ((opI (opn P A p) d j).length : Int)
  | 0, _, s => by show s = s + ((0 : Nat) : Int); omega
  | d + 1, j, s => by
    unfold toDoL opI
    by_cases h : opn P A p j = true
    · rw [if_pos h, if_pos h, toDoL_len d (j + 1), List.length_cons]; omega
    · rw [if_neg h, if_neg h, toDoL_len d (j + 1)]
theorem openMany_r {F : Nat} {σ : Mem} {P A : Dat} {p : Int} {m : Nat} (hA : RepA σ P A) (wA : WfA P A) (bP : Bd 1000 P) (bA : Bd 1000000000 A) (hm : P 0 5 = (m : Int)) (hm8 : m ≤ 8) (hp : -1000 ≤ p ∧ p ≤ 1000) (hF : 100 ≤ F) : m12_openMany F (w32 p) σ = some (w32 (toDoN P A p)) := by
  have e4 : gI σ 493 4 = w32 (P 0 5) := hA.2.1 4 (by decide)
  have loop : ∀ (d n j : Nat) (s : Int), j + d = m → d < n → m12_openMany_4 F (w32 p) σ n (w32 s) (w32 (j : Int)) = some (w32 (toDoL P A p d j s)) := by
    intro d
    induction d with
    | zero =>
      intro n j s h1 h2
      obtain ⟨n, rfl⟩ : ∃ k, n = k + 1 := ⟨n - 1, by omega⟩
      unfold m12_openMany_4
      rw [gd_pos (by decide), show (4 : Int32).toNatClampNeg = 4 from rfl, e4, hm, if_pos (by rw [w_le (by omega) (by omega) (by omega) (by omega)]; omega)]
      rfl
    | succ d ih =>
      intro n j s h1 h2
      obtain ⟨n, rfl⟩ : ∃ k, n = k + 1 := ⟨n - 1, by omega⟩
      unfold m12_openMany_4
      rw [gd_pos (by decide), show (4 : Int32).toNatClampNeg = 4 from rfl, e4, hm, if_neg (by rw [w_le (by omega) (by omega) (by omega) (by omega)]; omega), isOpen_r hA wA bP bA (by omega) hp (by omega), Option.bind_some, w_succ]
      unfold toDoL
      simp only [g01]
      by_cases h : opn P A p j = true
      · rw [if_neg (not_not_intro h), if_pos h, wl_1, w_add]
        exact ih n (j + 1) _ (by omega) (by omega)
      · rw [if_pos h, if_neg h, wl_0, w_add, Int.add_zero]
        exact ih n (j + 1) _ (by omega) (by omega)
  unfold m12_openMany toDoN
  rw [hm, Int.toNat_natCast]
  exact loop m F 0 0 (by omega) (by omega)
/-! ranks put behind -/
def mxL (B : Dat) : Nat → Nat → Int → Int
  | 0, _, s => s
  | d + 1, i, s => mxL B d (i + 1) (if B 8 i ≤ s then s else B 8 i)
def mxN (m : Nat) (B : Dat) : Int := mxL B m 0 0
theorem mxL_ge {B : Dat} : ∀ (d i : Nat) (s : Int), s ≤ mxL B d i s ∧ ∀ k, i ≤ k → k < i + d → B 8 k ≤ mxL B d i s
  | 0, i, s => ⟨Int.le_refl _, fun k h1 h2 => by omega⟩
  | d + 1, i, s => by
    unfold mxL
    obtain ⟨a, b⟩ := mxL_ge (B := B) d (i + 1) (if B 8 i ≤ s then s else B 8 i)
    have c : s ≤ (if B 8 i ≤ s then s else B 8 i) ∧ B 8 i ≤ (if B 8 i ≤ s then s else B 8 i) := by split <;> omega
    refine ⟨by omega, fun k h1 h2 => ?_⟩
    by_cases hk : k = i
    · rw [hk]; omega
    · exact b k (by omega) (by omega)
theorem mxL_le {B : Dat} {M : Int} (h : ∀ k, B 8 k ≤ M) : ∀ (d i : Nat) (s : Int), s ≤ M → mxL B d i s ≤ M
  | 0, _, _, hs => hs
  | d + 1, i, s, hs => by
    unfold mxL
    refine mxL_le h d (i + 1) _ ?_
    have := h i
    split <;> omega
theorem putsBehind_r {F j m : Nat} {σ : Mem} {P B : Dat} (hA : RepA σ P B) (bB : Bd 900000000 B) (hm : P 0 5 = (m : Int)) (hm8 : m ≤ 8) (hj : j < m) (hF : 100 ≤ F) : m12_putsBehind F (w32 (j : Int)) σ = some (sI σ 493 (sidx 8 j) (w32 (mxN m B + 1))) := by
  have e4 : gI σ 493 4 = w32 (P 0 5) := hA.2.1 4 (by decide)
  have loop : ∀ (d n i : Nat) (s : Int), i + d = m → d < n → -900000000 ≤ s ∧ s ≤ 900000000 → m12_putsBehind_4 F (w32 (j : Int)) n (w32 s) (w32 (i : Int)) σ = some (sI σ 493 (sidx 8 j) (w32 (mxL B d i s + 1))) := by
    intro d
    induction d with
    | zero =>
      intro n i s h1 h2 hs
      obtain ⟨n, rfl⟩ : ∃ k, n = k + 1 := ⟨n - 1, by omega⟩
      unfold m12_putsBehind_4
      have e : ((w32 31 + (w32 8 * w32 (j : Int))) + w32 6) = w32 ((37 + 8 * j : Nat) : Int) := by rw [w_mul, w_add, w_add]; congr 1 <;> omega
      rw [gd_pos (by decide), show (4 : Int32).toNatClampNeg = 4 from rfl, e4, hm, if_pos (by rw [w_le (by omega) (by omega) (by omega) (by omega)]; omega), wl_8, wl_31, wl_6, e, gd_pos (w_inB (by omega) (by omega) (by omega)), w_natk (by omega), wl_1, w_add]
      rfl
    | succ d ih =>
      intro n i s h1 h2 hs
      obtain ⟨n, rfl⟩ : ∃ k, n = k + 1 := ⟨n - 1, by omega⟩
      unfold m12_putsBehind_4
      have q : gI σ 493 (37 + 8 * i) = w32 (B 8 i) := hA.1 8 i (by decide) (show (i : Int) < P 0 5 by omega)
      have b8 := bB 8 i
      rw [gd_pos (by decide), show (4 : Int32).toNatClampNeg = 4 from rfl, e4, hm, if_neg (by rw [w_le (by omega) (by omega) (by omega) (by omega)]; omega), jo_6 (by omega), Option.bind_some, q, w_succ]
      unfold mxL
      by_cases h : B 8 i ≤ s
      · rw [if_pos (by rw [w_le (by omega) (by omega) (by omega) (by omega)]; exact h), if_pos h]
        exact ih n (i + 1) s (by omega) (by omega) hs
      · rw [if_neg (by rw [w_le (by omega) (by omega) (by omega) (by omega)]; exact h), if_neg h, Option.bind_some]
        exact ih n (i + 1) _ (by omega) (by omega) (by omega)
  unfold m12_putsBehind
  exact loop m F 0 0 (by omega) (by omega) (by omega)
def pbA (m : Nat) : List Nat → Dat → Dat
  | [], B => B
  | j :: js, B => pbA m js (up B 8 j (mxN m B + 1))
theorem pbA_spec {m : Nat} : ∀ (js : List Nat) (B : Dat), js.Nodup → (∀ k, k ∈ js → k < m) → (∀ i k, i ≠ 8 → pbA m js B i k = B i k) ∧ (∀ k, k ∉ js → pbA m js B 8 k = B 8 k) ∧ List.Pairwise (fun a b => pbA m js B 8 a < pbA m js B 8 b) js ∧ ∀ a, a ∈ js → mxN m B < pbA m js B 8 a
  | [], B, _, _ => ⟨fun _ _ _ => rfl, fun _ _ => rfl, List.Pairwise.nil, fun a h => by cases h⟩
  | j :: js, B, hn, hk => by
    obtain ⟨n1, n2⟩ := List.nodup_cons.1 hn
    obtain ⟨a, b, c, d⟩ := pbA_spec js (up B 8 j (mxN m B + 1)) n2 (fun k z => hk k (List.mem_cons_of_mem _ z))
    have jm := hk j (List.mem_cons_self ..)
    have g1 := (mxL_ge (B := up B 8 j (mxN m B + 1)) m 0 0).2 j (Nat.zero_le _) (by omega)
    rw [up_eq] at g1
    have g2 : mxN m B + 1 ≤ mxN m (up B 8 j (mxN m B + 1)) := g1
    have ej : pbA m js (up B 8 j (mxN m B + 1)) 8 j = mxN m B + 1 := by rw [b j n1, up_eq]
    refine ⟨fun i k hi => ?_, fun k hk' => ?_, List.pairwise_cons.2 ⟨fun k hk' => ?_, c⟩, fun k hk' => ?_⟩
    · show pbA m js (up B 8 j (mxN m B + 1)) i k = _
      rw [a i k hi, up_at, if_neg (fun z => hi z.1)]
    · show pbA m js (up B 8 j (mxN m B + 1)) 8 k = _
      have k1 : k ≠ j ∧ k ∉ js := ⟨fun z => hk' (by rw [z]; exact List.mem_cons_self ..), fun z => hk' (List.mem_cons_of_mem _ z)⟩
      rw [b k k1.2, up_at, if_neg (fun z => k1.1 z.2)]
    · show pbA m js (up B 8 j (mxN m B + 1)) 8 j < pbA m js (up B 8 j (mxN m B + 1)) 8 k
      rw [ej]
      have := d k hk'
      omega
    · show mxN m B < pbA m js (up B 8 j (mxN m B + 1)) 8 k
      rcases List.mem_cons.1 hk' with z | z
      · rw [z, ej]; omega
      · have := d k z; omega
theorem pbA_le {m : Nat} : ∀ (js : List Nat) (B : Dat) (M : Int), 0 ≤ M → (∀ k, 0 ≤ B 8 k ∧ B 8 k ≤ M) → ∀ k, 0 ≤ pbA m js B 8 k ∧ pbA m js B 8 k ≤ M + js.length
  | [], B, M, _, h, k => by have := h k; show 0 ≤ B 8 k ∧ B 8 k ≤ M + ((0 : Nat) : Int); omega
  | j :: js, B, M, hM, h, k => by
    have g := (mxL_ge (B := B) m 0 0).1
    have g2 := mxL_le (B := B) (M := M) (fun k => (h k).2) m 0 0 hM
    have := pbA_le (m := m) js (up B 8 j (mxN m B + 1)) (M + 1) (by omega) (fun k => by
      rw [up_at]
      have := h k
      unfold mxN
      split <;> omega) k
    rw [List.length_cons]
    show 0 ≤ pbA m js (up B 8 j (mxN m B + 1)) 8 k ∧ pbA m js (up B 8 j (mxN m B + 1)) 8 k ≤ _
    omega
theorem Tr.s493 {σ0 σ : Mem} {j : Nat} {v : Int32} (h : Tr σ0 σ) (hj : j < 98) : Tr σ0 (sI σ 493 j v) :=
  h.step (V := fun _ => False) ((Tl.rf σ).at hj) ((Fr.rf (fun c => c = 493) σ).sI rfl) (fun j' _ => gI_nec (by decide)) (fun c z => by unfold Wq; omega) (fun j z => z.elim)
theorem RE.upd {K : Nat → Int} {ro : Option Dat} {P A : Dat} {σ : Mem} (h : RE K ro P A σ) (hn : P 0 4 ≤ 3) (hm : P 0 5 ≤ 8) (i j : Nat) (v : Int) (h1 : i ≤ 10) (s1 : sok P i j) : RE K ro P (up A i j v) (sI σ 493 (sidx i j) (w32 v)) := by
  obtain ⟨a, b, c⟩ := h
  have sl : Sl (fun _ => False) σ (sI σ 493 (sidx i j) (w32 v)) := fun j' _ => gI_nec (by decide)
  exact ⟨a.upd hn hm i j v h1 s1, b.sl sl (fun j _ _ _ z => z.elim), c.fr ((Fr.rf (fun c => c = 493) σ).sI rfl) sl (by decide) (by decide) (by decide) (fun z => z.elim)⟩
/-- an order laid upon what is told -/
theorem mom36 {F p N m : Nat} {i2 : Int32} {P : Dat} {ro : Option Dat} {σ0 : Mem} {g : Nat → Nat} {M : Int} (wPl : WfPl P) (hm : P 0 5 = (m : Int)) (hN : N ≤ 5) (hg : ∀ x, x < N → g x < m) (hF : 1000 ≤ F) : ∀ (d n' k : Nat) (σ : Mem) (B : Dat), k + d = N → d < n' → RE Kp ro P B σ → Bd 800000000 B → 0 ≤ M → M ≤ 700000000 + k → (∀ k, 0 ≤ B 8 k ∧ B 8 k ≤ M) → (∀ x, x < N → gI σ 502 x = w32 (g x : Int)) → Tr σ0 σ →
    ∃ σ', m12_momentsBy_36 F (w32 (p : Int)) (w32 (N : Int)) n' (-1) (w32 (k : Int)) σ = m12_momentsBy_62 F (w32 (p : Int)) (w32 (N : Int)) F (-1) (0 : Int32) σ' ∧ RE Kp ro P (pbA m ((List.range' k d).map g) B) σ' ∧ Tr σ0 σ' := by
  obtain ⟨bP, ⟨m', hm', hm8⟩, ⟨n4, hn, hn3⟩, -⟩ := id wPl.1
  intro d
  induction d generalizing M with
  | zero =>
    intro n' k σ B h1 h2 hE bB hM0 hM hr h502 tr
    obtain ⟨n', rfl⟩ : ∃ q, n' = q + 1 := ⟨n' - 1, by omega⟩
    unfold m12_momentsBy_36
    rw [if_pos (by rw [w_le (by omega) (by omega) (by omega) (by omega)]; omega)]
    exact ⟨σ, rfl, hE, tr⟩
  | succ d ih =>
    intro n' k σ B h1 h2 hE bB hM0 hM hr h502 tr
    obtain ⟨n', rfl⟩ : ∃ q, n' = q + 1 := ⟨n' - 1, by omega⟩
    have gk := hg k (by omega)
    unfold m12_momentsBy_36
    rw [if_neg (by rw [w_le (by omega) (by omega) (by omega) (by omega)]; omega), gd_pos (w_inB (by omega) (by omega) (by omega)), w_natk (by omega), h502 k (by omega), putsBehind_r hE.1 (bB.mono (by decide)) hm (by omega) gk (by omega), Option.bind_some, w_succ]
    have E2 := hE.upd (by omega) (by omega) 8 (g k) (mxN m B + 1) (by decide) (show ((g k : Nat) : Int) < P 0 5 by omega)
    have g1 := (mxL_ge (B := B) m 0 0).1
    have g2 := mxL_le (B := B) (M := M) (fun k => (hr k).2) m 0 0 hM0
    have g3 : 0 ≤ mxN m B ∧ mxN m B ≤ M := ⟨g1, g2⟩
    obtain ⟨σ', m1, e1, t1⟩ := ih (M := M + 1) n' (k + 1) _ _ (by omega) (by omega) E2 (bB.up (by omega) (by omega)) (by omega) (by omega) (fun y => by
      rw [up_at]
      have := hr y
      split <;> omega) (fun x hx => by rw [gI_nec (by decide)]; exact h502 x hx) (tr.s493 (show 37 + 8 * g k < 98 by omega))
    refine ⟨σ', m1, ?_, t1⟩
    rw [List.range'_succ, List.map_cons]
    exact e1
def resT (k : Nat) (o : Option Nat) : Int := match o with
  | some x => ((k + x : Nat) : Int)
  | none => -1
theorem mom62_end {F n' : Nat} {i1 i2 : Int32} {σ : Mem} {v k : Int} (hv : 0 ≤ v ∨ 500 < k) (b1 : -1 ≤ v ∧ v ≤ 1000) (b2 : 0 ≤ k ∧ k ≤ 1000) : m12_momentsBy_62 F i1 i2 (n' + 1) (w32 v) (w32 k) σ = Option.bind (m12_laysBack F σ) (fun p1 => some (w32 v, p1)) := by
  unfold m12_momentsBy_62 m12_momentsBy_96
  by_cases h : 500 < k
  · rw [if_pos (by rw [wl_500, w_lt (by omega) (by omega) (by omega) (by omega)]; exact h)]
  · rw [if_neg (by rw [wl_500, w_lt (by omega) (by omega) (by omega) (by omega)]; exact h), if_pos (by rw [wl_0, w_le (by omega) (by omega) (by omega) (by omega)]; omega)]
theorem mom62 {F p m : Nat} {i2 : Int32} {P : Dat} {ro : Option Dat} {σ0 : Mem} (wPl : WfPl P) (hm : P 0 5 = (m : Int)) (hp : p < 3) (hF : 1000 ≤ F) : ∀ (d n' k t : Nat) (σ : Mem) (B : Dat), k + d = 500 → d + 1 < n' → RE Kp ro P B σ → WfI P B t → t + d + 1 ≤ 9000 → Tr σ0 σ →
    ∃ σ', m12_momentsBy_62 F (w32 (p : Int)) i2 n' (-1) (w32 (k : Int)) σ = Option.bind (m12_laysBack F σ') (fun p1 => some (w32 (resT k (till P ro p d B)), p1)) ∧ Tr σ0 σ' := by
  obtain ⟨bP, ⟨m', hm', hm8⟩, ⟨n4, hn, hn3⟩, -⟩ := id wPl.1
  have one : ∀ (n' k t : Nat) (σ : Mem) (B : Dat), k ≤ 500 → RE Kp ro P B σ → WfI P B t → t + 1 ≤ 9000 → Tr σ0 σ →
      ∃ σ1, RE Kp ro P (passA P Kp ro B) σ1 ∧ Tr σ0 σ1 ∧ m12_momentsBy_62 F (w32 (p : Int)) i2 (n' + 1) (-1) (w32 (k : Int)) σ = if 0 < toDoN P B p then m12_momentsBy_62 F (w32 (p : Int)) i2 n' (-1) (w32 ((k + 1 : Nat) : Int)) σ1 else m12_momentsBy_62 F (w32 (p : Int)) i2 n' (w32 (k : Int)) (w32 ((k + 1 : Nat) : Int)) σ1 := by
    intro n' k t σ B hk hE wI ht tr
    obtain ⟨σ1, m1, e1, -, -, tl, f, sl⟩ := re_step (F := F) hE wPl wI (by omega) Kp_bd Kp2 (by decide) rfl hF
    have td := toDoL_rg (P := P) (A := B) (p := (p : Int)) (P 0 5).toNat 0 0
    have td2 : 0 ≤ toDoN P B p ∧ toDoN P B p ≤ 8 := by unfold toDoN; omega
    refine ⟨σ1, e1, tr.pass tl f sl, ?_⟩
    rw [m12_momentsBy_62, if_neg (by rw [wl_500, w_lt (by omega) (by omega) (by omega) (by omega)]; omega), if_neg (by decide), openMany_r hE.1 wI.1 bP ((wI.bd (by omega)).mono (by decide)) hm (by omega) (by omega) (by omega), Option.bind_some]
    unfold m12_momentsBy_85
    rw [m1, Option.bind_some, w_succ]
    by_cases h : 0 < toDoN P B p
    · rw [if_neg (by rw [wl_0, w_eq (by omega) (by omega) (by omega) (by omega)]; omega), if_pos h]; rfl
    · rw [if_pos (by rw [wl_0, w_eq (by omega) (by omega) (by omega) (by omega)]; omega), if_neg h]
  intro d
  induction d with
  | zero =>
    intro n' k t σ B h1 h2 hE wI ht tr
    obtain ⟨n', rfl⟩ : ∃ q, n' = q + 1 + 1 := ⟨n' - 2, by omega⟩
    obtain ⟨σ1, e1, t1, m1⟩ := one (n' + 1) k t σ B (by omega) hE wI (by omega) tr
    refine ⟨σ1, ?_, t1⟩
    rw [m1]
    unfold till
    by_cases h : 0 < toDoN P B p
    · rw [if_pos h, if_pos h, wl_m1, mom62_end (by omega) (by omega) (by omega)]; rfl
    · rw [if_neg h, if_neg h, mom62_end (by omega) (by omega) (by omega)]; rfl
  | succ d ih =>
    intro n' k t σ B h1 h2 hE wI ht tr
    obtain ⟨n', rfl⟩ : ∃ q, n' = q + 1 + 1 := ⟨n' - 2, by omega⟩
    obtain ⟨σ1, e1, t1, m1⟩ := one (n' + 1) k t σ B (by omega) hE wI (by omega) tr
    rw [m1]
    unfold till
    by_cases h : 0 < toDoN P B p
    · rw [if_pos h, if_pos h]
      obtain ⟨σ2, m2, t2⟩ := ih (n' + 1) (k + 1) (t + 1) σ1 _ (by omega) (by omega) e1 (passA_wf wI wPl.1 wPl.2.1 wPl.2.2.1 Kp2) (by omega) t1
      refine ⟨σ2, ?_, t2⟩
      rw [m2]
      cases till P ro p d (passA P Kp ro B) with
      | none => rfl
      | some x =>
        show Option.bind (m12_laysBack F σ2) (fun p1 => some (w32 ((k + 1 + x : Nat) : Int), p1)) = Option.bind (m12_laysBack F σ2) (fun p1 => some (w32 ((k + (x + 1) : Nat) : Int), p1))
        rw [show k + 1 + x = k + (x + 1) by omega]
    · refine ⟨σ1, ?_, t1⟩
      rw [if_neg h, if_neg h, mom62_end (by omega) (by omega) (by omega)]; rfl
/-! orders by numbers -/
def prodL : Nat → Nat → Nat → Nat
  | a, _, 0 => a
  | a, x, d + 1 => prodL (a * x) (x + 1) d
def fct (n : Nat) : Nat := prodL 1 2 (n - 1)
theorem orders_r {F n : Nat} {σ : Mem} (hn : n ≤ 5) (hF : 100 ≤ F) : m12_orders F (w32 (n : Int)) σ = some (w32 (fct n : Int)) := by
  have loop : ∀ (d n' x a : Nat), n + 1 ≤ x + d → (d = 0 ∨ x + d = n + 1) → d < n' → x ≤ 20 → m12_orders_4 F (w32 (n : Int)) σ n' (w32 (a : Int)) (w32 (x : Int)) = some (w32 (prodL a x d : Int)) := by
    intro d
    induction d with
    | zero =>
      intro n' x a h1 h2 h3 h4
      obtain ⟨n', rfl⟩ : ∃ q, n' = q + 1 := ⟨n' - 1, by omega⟩
      unfold m12_orders_4
      rw [if_pos (by rw [w_lt (by omega) (by omega) (by omega) (by omega)]; omega)]; rfl
    | succ d ih =>
      intro n' x a h1 h2 h3 h4
      obtain ⟨n', rfl⟩ : ∃ q, n' = q + 1 := ⟨n' - 1, by omega⟩
      unfold m12_orders_4
      rw [if_neg (by rw [w_lt (by omega) (by omega) (by omega) (by omega)]; omega), w_mul, w_succ, ← Int.natCast_mul]
      exact ih n' (x + 1) (a * x) (by omega) (by omega) (by omega) (by omega)
  unfold m12_orders fct
  exact loop (n - 1) F 2 1 (by omega) (by omega) (by omega) (by omega)
theorem fct_rg : ∀ n, n < 6 → 1 ≤ fct n ∧ fct n ≤ 120 := by decide
def nfi : Nat → Int → Nat → Nat → Option Nat
  | 0, _, _, _ => none
  | f + 1, u, t, i => if bitI u i then nfi f u t (i + 1) else if t = 0 then some i else nfi f u (t - 1) (i + 1)
theorem nfi_lt : ∀ (f : Nat) (u : Int) (t i r : Nat), nfi f u t i = some r → r < i + f
  | 0, _, _, _, _, h => by cases h
  | f + 1, u, t, i, r, h => by
    unfold nfi at h
    split at h
    · have := nfi_lt f u t (i + 1) r h; omega
    · split at h
      · cases h; omega
      · have := nfi_lt f u (t - 1) (i + 1) r h; omega
def layL (N : Nat) : Nat → Int → Nat → Nat → Option (List Nat)
  | 0, _, _, _ => some []
  | d + 1, u, r, k => match nfi 8 u (r / fct (N - 1 - k)) 0 with
    | none => none
    | some i => Option.map (fun l => i :: l) (layL N d (orS u i) (r % fct (N - 1 - k)) (k + 1))
def lay (N c : Nat) : Option (List Nat) := layL N N 0 c 0
def layAll (N : Nat) : Nat → Nat → List (Option (List Nat))
  | 0, _ => []
  | d + 1, c => lay N c :: layAll N d (c + 1)
theorem lay_tab : ∀ N, N < 6 → layAll N (fct N) 0 = (prm N (opI (fun _ => true) N 0)).map some := by decide +kernel
theorem prm_tab : ∀ N, N < 6 → ∀ is, is ∈ prm N (opI (fun _ => true) N 0) → is.length = N ∧ is.Nodup ∧ (∀ i, i ∈ is → i < N) ∧ ∀ i, i < N → i ∈ is := by decide +kernel
theorem lay45 {F k : Nat} {i1 i2 : Int32} {k8 : Int32 → Int32 → Int32 → Mem → Option Mem} {x4 : Int32} {u : Int} {σ : Mem} (hk : k < 5) : ∀ (f n' t i r : Nat), nfi f u t i = some r → f < n' → i + f ≤ 8 → t ≤ 1000 → m12_laysOrder_45 F i1 i2 k8 n' (w32 u) x4 (w32 (k : Int)) (w32 (t : Int)) (w32 (i : Int)) σ = k8 (w32 (orS u r)) x4 (w32 ((k + 1 : Nat) : Int)) (sI σ 502 k (gI σ 501 r)) := by
  intro f
  induction f with
  | zero => intro n' t i r h; cases h
  | succ f ih =>
    intro n' t i r h h2 h3 h4
    obtain ⟨n', rfl⟩ : ∃ q, n' = q + 1 := ⟨n' - 1, by omega⟩
    unfold nfi at h
    unfold m12_laysOrder_45 m12_laysOrder_59
    rw [isOf_r, Option.bind_some]
    simp only [g01, Option.bind_some]
    by_cases hb : bitI u i = true
    · rw [if_pos hb] at h
      rw [if_neg (not_not_intro hb), if_neg (not_not_intro hb), wl_0, w_sub, Int.sub_zero, w_succ]
      exact ih n' t (i + 1) r h (by omega) (by omega) h4
    · rw [if_neg hb] at h
      rw [if_pos hb, if_pos hb]
      by_cases ht : t = 0
      · rw [if_pos ht] at h
        cases h
        rw [if_pos (by rw [wl_0, w_le (by omega) (by omega) (by omega) (by omega)]; omega), gd_pos (w_inB (by omega) (by omega) (by omega)), gd_pos (w_inB (by omega) (by omega) (by omega)), w_natk (by omega), w_natk (by omega), w_succ, wl_1, wl_31, orS_w]
      · rw [if_neg ht] at h
        rw [if_neg (by rw [wl_0, w_le (by omega) (by omega) (by omega) (by omega)]; omega), show w32 (t : Int) - (1 : Int32) = w32 ((t - 1 : Nat) : Int) by rw [wl_1, w_sub]; congr 1; omega, w_succ]
        exact ih n' (t - 1) (i + 1) r h (by omega) (by omega) (by omega)
theorem lays_r {F N : Nat} {i1 : Int32} (hN : N ≤ 5) (hF : 1000 ≤ F) : ∀ (d n' k r : Nat) (u : Int) (is : List Nat) (σ : Mem), k + d = N → d < n' → r ≤ 200 → layL N d u r k = some is →
    ∃ σ', m12_laysOrder_8 F i1 (w32 (N : Int)) n' (w32 u) (w32 (r : Int)) (w32 (k : Int)) σ = some σ' ∧ (∀ i, i < d → gI σ' 502 (k + i) = gI σ 501 (is.getD i 0)) ∧ (∀ i, i < k → gI σ' 502 i = gI σ 502 i) ∧ Fr (fun c => c = 502) σ σ' := by
  intro d
  induction d with
  | zero =>
    intro n' k r u is σ h1 h2 h3 h4
    obtain ⟨n', rfl⟩ : ∃ q, n' = q + 1 := ⟨n' - 1, by omega⟩
    unfold m12_laysOrder_8
    rw [if_pos (by rw [w_le (by omega) (by omega) (by omega) (by omega)]; omega)]
    exact ⟨σ, rfl, fun i hi => by omega, fun _ _ => rfl, Fr.rf _ σ⟩
  | succ d ih =>
    intro n' k r u is σ h1 h2 h3 h4
    obtain ⟨n', rfl⟩ : ∃ q, n' = q + 1 := ⟨n' - 1, by omega⟩
    have fr := fct_rg (N - 1 - k) (by omega)
    unfold layL at h4
    cases hn : nfi 8 u (r / fct (N - 1 - k)) 0 with
    | none => rw [hn] at h4; cases h4
    | some i =>
      rw [hn] at h4
      dsimp only at h4
      cases hl : layL N d (orS u i) (r % fct (N - 1 - k)) (k + 1) with
      | none => rw [hl] at h4; cases h4
      | some l =>
        rw [hl] at h4
        cases h4
        have il := nfi_lt 8 u _ 0 i hn
        have q1 : r / fct (N - 1 - k) ≤ 200 := Nat.le_trans (Nat.div_le_self _ _) h3
        have q2 : r % fct (N - 1 - k) ≤ 200 := Nat.le_trans (Nat.mod_le _ _) h3
        obtain ⟨σ', m1, g1, g2, g3⟩ := ih n' (k + 1) (r % fct (N - 1 - k)) (orS u i) l (sI σ 502 k (gI σ 501 i)) (by omega) (by omega) q2 hl
        unfold m12_laysOrder_8
        have en : w32 (N : Int) - (1 : Int32) - w32 (k : Int) = w32 ((N - 1 - k : Nat) : Int) := by
          rw [wl_1, w_sub, w_sub]; congr 1; omega
        rw [if_neg (by rw [w_le (by omega) (by omega) (by omega) (by omega)]; omega), en, orders_r (by omega) (by omega), Option.bind_some, gd_pos (by rw [wl_0, w_eq (by omega) (by omega) (by omega) (by omega)]; omega), Option.bind_some, gd_pos (by rw [wl_0, w_eq (by omega) (by omega) (by omega) (by omega)]; omega), w_remN (by omega) (by omega), w_divN (by omega) (by omega)]
        have l45 := lay45 (F := F) (k := k) (i1 := i1) (i2 := w32 (N : Int)) (k8 := fun x3 x4 x5 σ => m12_laysOrder_8 F i1 (w32 (N : Int)) n' x3 x4 x5 σ) (x4 := w32 ((r % fct (N - 1 - k) : Nat) : Int)) (u := u) (σ := σ) (by omega) 8 F (r / fct (N - 1 - k)) 0 i hn (by omega) (by omega) (by omega)
        refine ⟨σ', l45.trans m1, fun j hj => ?_, fun j hj => ?_, ((Fr.rf (fun c => c = 502) σ).sI rfl).trans g3⟩
        · cases j with
          | zero => rw [Nat.add_zero, g2 k (by omega), gI_eq]; rfl
          | succ j =>
            rw [show k + (j + 1) = k + 1 + j by omega, g1 j (by omega), gI_nec (by decide)]; rfl
        · rw [g2 j (by omega), gI_nej (by omega)]
/-! a order's value, on both sides -/
theorem tmI_tm {P : Dat} {ro : Option Dat} {f : Nat → Nat} {p : Nat} : ∀ (xs : List Nat) (k d : Nat) (A : Dat), 1 ≤ k → tmI P ro f p k xs d A = tm P ro (xs.map f) d A
  | [], _, _, _, _ => rfl
  | x :: xs, k, d, A, hk => by
    have e : pX P f p k x A = up A 8 (f x) (-1) := by
      unfold pX hz
      rw [if_neg (by omega)]
    rw [tmI_cons, e, tmI_tm xs (k + 1) _ _ (by omega)]; rfl
theorem nodup_map {f : Nat → Nat} {N : Nat} (hi : ∀ x y, x < N → y < N → f x = f y → x = y) : ∀ (l : List Nat), l.Nodup → (∀ x, x ∈ l → x < N) → (l.map f).Nodup
  | [], _, _ => List.nodup_nil
  | x :: l, h, hl => by
    obtain ⟨h1, h2⟩ := List.nodup_cons.1 h
    rw [List.map_cons]
    refine List.nodup_cons.2 ⟨fun z => ?_, nodup_map hi l h2 (fun y hy => hl y (List.mem_cons_of_mem _ hy))⟩
    obtain ⟨y, y1, y2⟩ := List.mem_map.1 z
    have := hi y x (hl y (List.mem_cons_of_mem _ y1)) (hl x (List.mem_cons_self ..)) y2
    exact h1 (this ▸ y1)
theorem tm_order {P : Dat} {ro : Option Dat} {f : Nat → Nat} {p m N x : Nat} {xs : List Nat} {A : Dat} (wP : WfP P) (hm : P 0 5 = (m : Int)) (hf : ∀ x, x < N → f x < m ∧ P 2 (f x) = (p : Int)) (hi : ∀ x y, x < N → y < N → f x = f y → x = y) (ho : ∀ x, x < N → 0 < A 6 (f x)) (hall : ∀ k, k < m → P 2 k = (p : Int) → 0 < A 6 k → ∃ x, x < N ∧ f x = k) (hr : ∀ k, 0 ≤ A 8 k) (nd : (x :: xs).Nodup) (hlt : ∀ i, i ∈ x :: xs → i < N) (hsur : ∀ i, i < N → i ∈ x :: xs) (d : Nat) :
    tmI P ro f p 0 (x :: xs) d A = till P ro p d (pbA m ((x :: xs).map f) (hz P f p 0 x A)) := by
  have nm := nodup_map hi (x :: xs) nd hlt
  have mem : ∀ k, k ∈ (x :: xs).map f → k < m ∧ P 2 k = (p : Int) ∧ 0 < A 6 k := fun k hk => by
    obtain ⟨y, y1, y2⟩ := List.mem_map.1 hk
    rw [← y2]
    exact ⟨(hf y (hlt y y1)).1, (hf y (hlt y y1)).2, ho y (hlt y y1)⟩
  obtain ⟨q1, q2, q3, -⟩ := pbA_spec (m := m) ((x :: xs).map f) (hz P f p 0 x A) nm (fun k hk => (mem k hk).1)
  have h6 : ∀ k, hz P f p 0 x A 6 k = A 6 k := fun k => by
    unfold hz; split
    · rw [up_at, if_neg (by omega)]
    · rfl
  have h8 : ∀ k, hz P f p 0 x A 8 k = A 8 k := fun k => by
    unfold hz; split
    · rw [up_at, if_neg (by omega)]
    · rfl
  rw [List.map_cons] at nm q3 mem
  obtain ⟨n1, n2⟩ := List.nodup_cons.1 nm
  have s : Sm P m p (f x) (xs.map f) (pX P f p 0 x A) (pbA m ((x :: xs).map f) (hz P f p 0 x A)) := by
    refine ⟨fun i k hi => ?_, fun k hk => ?_, fun k k1 k2 k3 => ?_, fun k hk => ?_, ⟨(hf x (hlt x (List.mem_cons_self ..))).1, (hf x (hlt x (List.mem_cons_self ..))).2, up_eq ..⟩, q3⟩
    · rw [q1 i k hi]; unfold pX; rw [up_at, if_neg (fun z => hi z.1)]
    · rw [q2 k (fun z => hk (mem k (by rw [List.map_cons] at z; exact z)).2.1)]
      unfold pX
      rw [up_at, if_neg (fun z => hk (by rw [z.2]; exact (hf x (hlt x (List.mem_cons_self ..))).2))]
    · unfold pX at k3
      rw [up_at, if_neg (fun z => absurd z.1 (by decide)), h6] at k3
      obtain ⟨y, y1, y2⟩ := hall k k1 k2 k3
      rw [← y2]
      rcases List.mem_cons.1 (hsur y y1) with z | z
      · exact Or.inl (by rw [z])
      · exact Or.inr (List.mem_map.2 ⟨y, z, rfl⟩)
    · obtain ⟨a, b, c⟩ := mem k (List.mem_cons_of_mem _ hk)
      refine ⟨a, b, ?_, ?_⟩
      · unfold pX; rw [up_at, if_neg (fun z => absurd z.1 (by decide)), h6]; exact c
      · unfold pX; rw [up_at, if_neg (show ¬ ((8 : Nat) = 8 ∧ k = f x) from fun z => n1 (z.2 ▸ hk)), h8]; exact hr k
  have e := tm_till (ro := ro) wP hm (xs.map f) (f x) d _ _ s
  rw [← e, tmI_cons, tmI_tm xs 1 _ _ (by omega)]
