/-! QUERY: days; looking ahead while a what-if field of the reference (slot z) is set -/
def TrV (z : Nat) (σ0 σ : Mem) : Prop := (∀ j, j < 98 → gI σ 498 j = gI σ0 493 j) ∧ Tl σ0 σ ∧ Fr Wq σ0 σ ∧ Sl (fun j => Vq j ∨ j = z) σ0 σ
theorem Tr.toV {z : Nat} {σ0 σ : Mem} (h : Tr σ0 σ) : TrV z σ0 σ := ⟨h.1, h.2.1, h.2.2.1, h.2.2.2.mono (fun _ q => Or.inl q)⟩
theorem TrV.pass {z : Nat} {σ0 σ σ' : Mem} (h : TrV z σ0 σ) (t : Tl σ σ') (f : Fr (fun c => c = 483 ∨ (491 ≤ c ∧ c ≤ 496)) σ σ') (s : Sl (fun j => j = 18 ∨ j = 27 ∨ j = 32) σ σ') : TrV z σ0 σ' :=
  ⟨fun j hj => by rw [f.gI (by omega)]; exact h.1 j hj, h.2.1.trans t, h.2.2.1.trans (f.mono (fun c q => by unfold Wq; omega)), h.2.2.2.trans (s.mono (fun j q => Or.inl (by unfold Vq; omega)))⟩
theorem TrV.set {z : Nat} {σ0 σ : Mem} {v : Int32} (h : TrV z σ0 σ) : TrV z σ0 (sI σ 483 z v) :=
  ⟨fun j hj => by rw [gI_nec (by decide)]; exact h.1 j hj, h.2.1.ne (by decide), h.2.2.1.sI (Or.inl rfl), h.2.2.2.at (Or.inr rfl)⟩
theorem TrV.lng {z j : Nat} {σ0 σ : Mem} {v : Int64} (h : TrV z σ0 σ) : TrV z σ0 (sL σ 483 j v) :=
  ⟨fun k hk => by rw [gI_sL]; exact h.1 k hk, fun k hk => by rw [gI_sL]; exact h.2.1 k hk, h.2.2.1.sL (Or.inl rfl), h.2.2.2.sL⟩
theorem backV {F z : Nat} {σ0 σ : Mem} (h : TrV z σ0 σ) (hF : 100 ≤ F) : ∃ σ', m12_laysBack F σ = some σ' ∧ gI σ' 493 = gI σ0 493 ∧ gI σ' 483 27 = w32 0 ∧ TrV z σ0 σ' ∧ (∀ c, c ≠ 483 → c ≠ 493 → gI σ' c = gI σ c) ∧ (∀ j, j ≠ 27 → gI σ' 483 j = gI σ 483 j) ∧ gL σ' 483 = gL σ 483 := by
  obtain ⟨hk, ht, f, s⟩ := h
  obtain ⟨σ', m, a, b, c⟩ := laysBack_r (F := F) (σ := σ) hF
  have f2 := f12_laysBack m
  have s2 := f12_laysBack_s m
  have e493 : ∀ k, gI σ' 493 k = gI σ0 493 k := fun k => by
    rw [a k]
    by_cases h : k < 98
    · rw [if_pos h]; exact hk k h
    · rw [if_neg h]; exact ht k (by omega)
  exact ⟨σ', m, funext e493, c, ⟨fun j hj => by rw [b]; exact hk j hj, fun k _ => e493 k, f.trans (f2.mono (fun c z => by unfold Wm12_laysBack at z; unfold Wq; omega)), s.trans (s2.mono (fun c z => Or.inl (by unfold Vm12_laysBack at z; unfold Vq; omega)))⟩, fun c h1 h2 => f2.gI (by unfold Wm12_laysBack; omega), fun j hj => s2 j (by unfold Vm12_laysBack; omega), f12_laysBack_g m (by unfold Ym12_laysBack; exact id)⟩
theorem RInv.endV {t z : Nat} {S : Ab} {σ0 σ : Mem} {v : Int32} (hR : RInv S σ0) (wf : Wf t S) (h1 : gI σ 493 = gI σ0 493) (h27 : gI σ 483 27 = w32 0) (tr : TrV z σ0 σ) (hv : v = gI σ0 483 z) (hz : z ≠ 27) : RInv S (sI σ 483 z v) :=
  hR.q wf (by rw [gI_ne _ _ _ (by decide)]; exact h1) (tr.2.2.1.sI (Or.inl rfl)) (fun j hj => by
    by_cases h : j = z
    · rw [h, gI_eq, hv]
    · rw [gI_nej h]
      by_cases h' : j = 27
      · rw [h', h27, hR.2.1.2.2.2.2.2.2.1]
      · exact tr.2.2.2 j (by unfold Vq; omega))
/-- the reference's rows are those of the begin again -/
theorem RE.again {z : Nat} {K : Nat → Int} {ro : Option Dat} {P A : Dat} {σ0 σ : Mem} (h : RE K ro P A σ0) (h93 : A 9 3 = 0) (h1 : gI σ 493 = gI σ0 493) (h27 : gI σ 483 27 = w32 0) (tr : TrV z σ0 σ) (hz : 23 ≤ z ∧ z ≤ 28 ∧ z ≠ 27) {K' : Nat → Int} (q : RepQ σ K') : RE K' ro P A σ := by
  obtain ⟨a, b, c⟩ := h
  refine ⟨a.same h1 (by rw [h27, a.2.2.2.2.2, h93]), q, ?_⟩
  exact c.fr tr.2.2.1 tr.2.2.2 (by unfold Wq; omega) (by unfold Wq; omega) (by unfold Wq; omega) (by unfold Vq; omega)
/-- sums over the SMITHS -/
def cntL (A : Dat) (i : Nat) : Nat → Nat → Int → Int
  | 0, _, s => s
  | d + 1, q, s => cntL A i d (q + 1) (s + A i q)
def cntN (P A : Dat) (i : Nat) : Int := cntL A i (P 0 4).toNat 0 0
theorem countOf_r {F : Nat} {σ : Mem} {P A : Dat} {k i : Nat} (hA : RepA σ P A) (wP : WfP P) (hk : (k = 3 ∧ i = 10) ∨ (k = 4 ∧ i = 4)) (hF : 100 ≤ F) : m12_countOf F (w32 (k : Int)) σ = some (w32 (cntN P A i)) := by
  obtain ⟨n4, hn, hn3⟩ := wP.2.2.1
  have e3 : gI σ 493 3 = w32 (P 0 4) := hA.2.1 3 (by decide)
  have loop : ∀ (d m q : Nat) (s : Int), q + d = n4 → d < m → m12_countOf_4 F (w32 (k : Int)) σ m (w32 s) (w32 (q : Int)) = some (w32 (cntL A i d q s)) := by
    intro d
    induction d with
    | zero =>
      intro m q s h1 h2
      obtain ⟨m, rfl⟩ : ∃ k, m = k + 1 := ⟨m - 1, by omega⟩
      unfold m12_countOf_4 cntL
      rw [gd_pos (by decide), show (3 : Int32).toNatClampNeg = 3 from rfl, e3, if_pos (by rw [w_le (by omega) (by omega) (by omega) (by omega)]; omega)]
    | succ d ih =>
      intro m q s h1 h2
      obtain ⟨m, rfl⟩ : ∃ k, m = k + 1 := ⟨m - 1, by omega⟩
      have es : m12_smithOf F (w32 (q : Int)) (w32 (k : Int)) σ = some (w32 (A i q)) := by
        rcases hk with ⟨rfl, rfl⟩ | ⟨rfl, rfl⟩
        · have g : gI σ 493 (13 + 7 * q) = w32 (A 10 q) := hA.1 10 q (by decide) (show (q : Int) < P 0 4 by omega)
          rw [← g]; exact so_3 (by omega)
        · have g : gI σ 493 (14 + 7 * q) = w32 (A 4 q) := hA.1 4 q (by decide) (show (q : Int) < P 0 4 by omega)
          rw [← g]; exact so_4 (by omega)
      unfold m12_countOf_4 cntL
      rw [gd_pos (by decide), show (3 : Int32).toNatClampNeg = 3 from rfl, e3, if_neg (by rw [w_le (by omega) (by omega) (by omega) (by omega)]; omega), es, Option.bind_some, w_add, w_succ]
      exact ih m (q + 1) _ (by omega) (by omega)
  unfold m12_countOf cntN
  rw [show (P 0 4).toNat = n4 by omega]
  exact loop n4 F 0 0 (by omega) (by omega)
/-- spoilt SWORDS of a MOMENT -/
def bur (P : Dat) (K : Nat → Int) (ro : Option Dat) (A : Dat) (q : Nat) : Int := burS P (jbs P A K) (wlN P A K ro (jbs P A K)) q (workS P (jbs P A K) (wlN P A K ro (jbs P A K)) q 0 (A, K0 K, fun _ => -1))
theorem bur_0 {P A : Dat} {K : Nat → Int} {ro : Option Dat} (wPl : WfPl P) {q : Nat} (h : P 0 4 ≤ (q : Int)) : bur P K ro A q = 0 := by
  unfold bur burS
  rw [if_pos (J_ge wPl.1 wPl.2.1 h)]
theorem passW_4 {P A : Dat} {K : Nat → Int} {ro : Option Dat} {q : Nat} : (passW P K ro A).1 4 q = A 4 q + (if q = 0 then bur P K ro A 0 else 0) + (if q = 1 then bur P K ro A 1 else 0) + (if q = 2 then bur P K ro A 2 else 0) := by
  have e : (passW P K ro A).1 4 q = (stepS P (jbs P A K) (wlN P A K ro (jbs P A K)) 2 (stepS P (jbs P A K) (wlN P A K ro (jbs P A K)) 1 (stepS P (jbs P A K) (wlN P A K ro (jbs P A K)) 0 (A, K0 K, fun _ => -1)))).1 4 q := rfl
  rw [e, stepS_4, stepS_4, stepS_4]; rfl
theorem passW_13 {P A : Dat} {K : Nat → Int} {ro : Option Dat} : (passW P K ro A).2.1 13 = bur P K ro A 0 + bur P K ro A 1 + bur P K ro A 2 := by
  have a0 : (K0 K) 13 = 0 := by unfold K0; unfold upK; rw [if_pos rfl]
  have e : (passW P K ro A).2.1 13 = (stepS P (jbs P A K) (wlN P A K ro (jbs P A K)) 2 (stepS P (jbs P A K) (wlN P A K ro (jbs P A K)) 1 (stepS P (jbs P A K) (wlN P A K ro (jbs P A K)) 0 (A, K0 K, fun _ => -1)))).2.1 13 := rfl
  rw [e, stepS_K13, stepS_K13, stepS_K13]
  show (K0 K) 13 + _ + _ + _ = _
  rw [a0, Int.zero_add]; rfl
theorem passW_11 {P A : Dat} {K : Nat → Int} {ro : Option Dat} : (passW P K ro A).2.1 11 = hitN P K ro A := by
  have a0 : (K0 K) 11 = 0 := by unfold K0; rw [upK_lo (by decide), upK_lo (by decide)]; unfold upK; rw [if_pos rfl]
  unfold passW hitN
  rw [workS_K11]
  show (K0 K) 11 + _ = _
  rw [a0, Int.zero_add]
theorem cnt_pass {P A : Dat} {K : Nat → Int} {ro : Option Dat} (wPl : WfPl P) : cntN P (passA P K ro A) 4 = cntN P A 4 + (passW P K ro A).2.1 13 := by
  obtain ⟨n4, hn, hn3⟩ := wPl.1.2.2.1
  have r : ∀ q, passA P K ro A 4 q = (passW P K ro A).1 4 q := fun q => passA_row (Or.inl (by decide)) (by decide)
  have z : ∀ q : Nat, n4 ≤ q → bur P K ro A q = 0 := fun q h => bur_0 wPl (by omega)
  have z0 := z 0
  have z1 := z 1
  have z2 := z 2
  unfold cntN
  rw [show (P 0 4).toNat = n4 by omega, passW_13]
  rcases (show n4 = 0 ∨ n4 = 1 ∨ n4 = 2 ∨ n4 = 3 by omega) with rfl | rfl | rfl | rfl
  · rw [z0 (by omega), z1 (by omega), z2 (by omega)]; rfl
  · rw [z1 (by omega), z2 (by omega)]
    simp only [cntL, r, passW_4]; simp
  · rw [z2 (by omega)]
    simp only [cntL, r, passW_4]; simp; omega
  · simp only [cntL, r, passW_4]; simp; omega
/-- the draws -/
def nx (x : Int64) : Int64 := remL ((x * (1103515245 : Int64)) + (12345 : Int64)) (2147483648 : Int64)
def dr (x : Int64) : Int64 := remL (x / (65536 : Int64)) (100 : Int64)
def colB (p : Int) (x : Int64) : Int := if w32 p ≤ (dr x).toInt32 then 0 else 1
theorem rem100 (y : Int64) : ∃ u : Int, -100 < u ∧ u < 100 ∧ remL y 100 = Int64.ofInt u := by
  have h1 := Int64.le_toInt y
  have h2 := Int64.toInt_lt y
  refine ⟨y.toInt.tmod 100, by have := Int.tmod_lt_of_pos y.toInt (show (0 : Int) < 100 by decide); have := Int.lt_tmod_of_pos y.toInt (show (0 : Int) < 100 by decide); omega, Int.tmod_lt_of_pos _ (by decide), ?_⟩
  have e : y = Int64.ofInt y.toInt := (Int64.ofInt_toInt y).symm
  have e1 : y / 100 = Int64.ofInt (y.toInt.tdiv 100) := by
    rw [Int64.ofInt_tdiv (by show -9223372036854775808 ≤ _; omega) (by show _ ≤ 9223372036854775807; omega) (by decide) (by decide), ← e]; rfl
  unfold remL
  rw [e1]
  have e2 : (100 : Int64) = Int64.ofInt 100 := rfl
  rw [e2, ← Int64.ofInt_mul]
  have e3 : y - Int64.ofInt (y.toInt.tdiv 100 * 100) = Int64.ofInt y.toInt - Int64.ofInt (y.toInt.tdiv 100 * 100) := by rw [← e]
  rw [e3, ← Int64.ofInt_sub]
  congr 1
  have := Int.tmod_def y.toInt 100
  omega
theorem dr_cmp {x : Int64} {p : Int} (h1 : 0 ≤ p) (h2 : p ≤ 100) : ((0 : Int32) ≤ lg_cmp (dr x) (w32 p).toInt64) = (w32 p ≤ (dr x).toInt32) := by
  obtain ⟨u, u1, u2, e⟩ := rem100 (x / (65536 : Int64))
  unfold dr
  rw [lg_0le, e, Int64.toInt32_ofInt]
  show _ = (w32 p ≤ w32 u)
  rw [w_le (by omega) (by omega) (by omega) (by omega)]
  apply propext
  rw [Int64.not_lt, w64_le (by omega) (by omega) (by omega) (by omega)]
def Kc (p : Int) (x : Int64) : Nat → Int := upK Kp 5 (colB p x)
theorem Kc_bd {p : Int} {x : Int64} : BdK (Kc p x) := fun j a b => by
  unfold Kc upK colB
  split
  · split <;> decide
  · exact Kp_bd j a b
theorem K5_bd {c : Int} (h : c = 0 ∨ c = 1) : BdK (upK Kp 5 c) := fun j a b => by
  unfold upK
  split
  · omega
  · exact Kp_bd j a b
def dayL (P : Dat) (ro : Option Dat) (p : Int) : Nat → Int64 → Dat → Int → Int → Int64 × Dat × Int × Int
  | 0, x, A, s, b => (x, A, s, b)
  | d + 1, x, A, s, b => dayL P ro p d (nx x) (passA P (Kc p (nx x)) ro A) (s + hitN P (Kc p (nx x)) ro A) (b + (passW P (Kc p (nx x)) ro A).2.1 13)
theorem dayL_cnt {P : Dat} {ro : Option Dat} {p : Int} (wPl : WfPl P) : ∀ (d : Nat) (x : Int64) (A : Dat) (s b : Int), (dayL P ro p d x A s b).2.2.2 = b + (cntN P (dayL P ro p d x A s b).2.1 4 - cntN P A 4)
  | 0, x, A, s, b => by show b = b + (cntN P A 4 - cntN P A 4); omega
  | d + 1, x, A, s, b => by
    unfold dayL
    rw [dayL_cnt wPl d, cnt_pass wPl]
    omega
theorem dayL_b {P : Dat} {ro : Option Dat} {p : Int} : ∀ (d : Nat) (x : Int64) (A : Dat) (s b b' : Int), (dayL P ro p d x A s b).1 = (dayL P ro p d x A s b').1 ∧ (dayL P ro p d x A s b).2.1 = (dayL P ro p d x A s b').2.1 ∧ (dayL P ro p d x A s b).2.2.1 = (dayL P ro p d x A s b').2.2.1
  | 0, x, A, s, b, b' => ⟨rfl, rfl, rfl⟩
  | d + 1, x, A, s, b, b' => by
    unfold dayL
    exact dayL_b d _ _ _ _ _
def daysL (P : Dat) (ro : Option Dat) (p : Int) (N : Nat) (A : Dat) : Nat → Int64 → Int → Int → Int × Int
  | 0, _, s, b => (s, b)
  | m + 1, x, s, b => daysL P ro p N A m (dayL P ro p N x A s b).1 (dayL P ro p N x A s b).2.2.1 (dayL P ro p N x A s b).2.2.2
/-- the class's side -/
def CD (A0 P : Dat) (ro : Option Dat) (σ : Mem) : Prop := RepP 17 σ P ∧ RepS 26 σ A0 ∧ RepRo σ ro ∧ ∃ c, RepC σ (upK Kp 5 c)
theorem live88 {F : Nat} {c x8 : Int} {A0 P A : Dat} {ro : Option Dat} {i2 i3 i4 : Int32} {x5 : Int64} {x7 : Int32} {k40 : Int64 → Int32 → Int32 → Mem → Option Mem} {σ : Mem} {s b : Int} (hc : c = 0 ∨ c = 1) (h : CD A0 P ro σ) (hA : RepS 46 σ A) (h3 : gI σ 45 3 = w32 s) (h4 : gI σ 45 4 = w32 b) (wPl : WfPl P) (bA : Bd 800000000 A) (hF : 1000 ≤ F) : ∃ σ', m6_live_88 F 16 i2 i3 i4 k40 x5 x7 (w32 x8) (w32 c) σ = k40 x5 x7 (w32 (x8 + 1)) σ' ∧ CD A0 P ro σ' ∧ RepS 46 σ' (passA P (upK Kp 5 c) ro A) ∧ gI σ' 45 3 = w32 (s + hitN P (upK Kp 5 c) ro A) ∧ gI σ' 45 4 = w32 (b + (passW P (upK Kp 5 c) ro A).2.1 13) := by
  obtain ⟨p1, p2, p3, c0, p4⟩ := h
  have f0 : Fr (fun c => c = 40) σ (sI σ 40 5 (w32 c)) := (Fr.rf (fun c => c = 40) σ).sI rfl
  have hE : CE 46 (upK Kp 5 c) ro P A (sI σ 40 5 (w32 c)) := by
    refine ⟨p1.fr f0 (fun i hi => by omega), hA.fr f0 (fun i hi => by omega), fun j hj => ?_, p3.fr f0 (fun c z => by omega)⟩
    by_cases h : j = 5
    · rw [h, gI_eq]; rfl
    · rw [gI_nej h, p4 j hj]; unfold upK; rw [if_neg h, if_neg h]
  obtain ⟨σ1, m, e, k1, -⟩ := ce_go (F := F) hE wPl.1 bA (K5_bd hc) StC46 hF
  have f1 := f2_go m
  have g3 : gI σ1 45 3 = w32 s := by rw [f1.gI (by unfold Wm2_go; omega), f0.gI (by omega)]; exact h3
  have g4 : gI σ1 45 4 = w32 b := by rw [f1.gI (by unfold Wm2_go; omega), f0.gI (by omega)]; exact h4
  have h26 : RepS 26 σ1 A0 := (p2.fr f0 (fun i hi => by omega)).fr f1 (fun i hi => by unfold Wm2_go; omega)
  refine ⟨sI (sI σ1 45 3 (w32 (s + hitN P (upK Kp 5 c) ro A))) 45 4 (w32 (b + (passW P (upK Kp 5 c) ro A).2.1 13)), ?_, ?_, ?_, ?_, ?_⟩
  · unfold m6_live_88
    rw [gd_pos (by rcases hc with rfl | rfl; exact Or.inl rfl; exact Or.inr rfl)]
    dsimp only
    rw [m, Option.bind_some, g3, k1 11 (by decide), passW_11, w_add, gI_nej (show (4 : Nat) ≠ 3 by decide), gI_nec (show (40 : Nat) ≠ 45 by decide), g4, k1 13 (by decide), w_add, wl_1, w_add]
  · have f2 : Fr (fun c => c = 45) σ1 (sI (sI σ1 45 3 (w32 (s + hitN P (upK Kp 5 c) ro A))) 45 4 (w32 (b + (passW P (upK Kp 5 c) ro A).2.1 13))) := ((Fr.rf (fun c => c = 45) σ1).sI rfl).sI rfl
    exact ⟨e.1.fr f2 (fun i hi => by omega), h26.fr f2 (fun i hi => by omega), e.2.2.2.fr f2 (fun c z => by omega), c, e.2.2.1.fr f2 (by omega)⟩
  · exact ((e.2.1).ne (Or.inl (by omega))).ne (Or.inl (by omega))
  · rw [gI_nej (by decide), gI_eq]
  · rw [gI_eq]
theorem live40 {F N : Nat} {p : Int} {A0 P : Dat} {ro : Option Dat} {i2 : Int32} {k20 : Int64 → Int32 → Mem → Option Mem} (wPl : WfPl P) (hN : N ≤ 1000) (hp1 : 0 ≤ p) (hp2 : p ≤ 100) (hF : 1000 ≤ F) : ∀ (d n' k t : Nat) (x : Int64) (x7 : Int32) (s b : Int) (σ : Mem) (A : Dat), k + d = N → d < n' → CD A0 P ro σ → RepS 46 σ A → gI σ 45 3 = w32 s → gI σ 45 4 = w32 b → WfI P A t → t + d ≤ 9000 → ∃ σ', m6_live_40 F 16 i2 (w32 (N : Int)) (w32 p) k20 n' x x7 (w32 (k : Int)) σ = k20 (dayL P ro p d x A s b).1 (x7 + 1) σ' ∧ CD A0 P ro σ' ∧ gI σ' 45 3 = w32 (dayL P ro p d x A s b).2.2.1 ∧ gI σ' 45 4 = w32 (dayL P ro p d x A s b).2.2.2 := by
  intro d
  induction d with
  | zero =>
    intro n' k t x x7 s b σ A h1 h2 hE hA h3 h4 wI ht
    obtain ⟨n', rfl⟩ : ∃ k, n' = k + 1 := ⟨n' - 1, by omega⟩
    unfold m6_live_40 dayL
    rw [if_pos (by rw [w_le (by omega) (by omega) (by omega) (by omega)]; omega)]
    exact ⟨σ, rfl, hE, h3, h4⟩
  | succ d ih =>
    intro n' k t x x7 s b σ A h1 h2 hE hA h3 h4 wI ht
    obtain ⟨n', rfl⟩ : ∃ k, n' = k + 1 := ⟨n' - 1, by omega⟩
    have key : ∀ c : Int, (c = 0 ∨ c = 1) → c = colB p (nx x) → ∃ σ', m6_live_88 F 16 i2 (w32 (N : Int)) (w32 p) (fun x5 x7 x8 σ => m6_live_40 F 16 i2 (w32 (N : Int)) (w32 p) k20 n' x5 x7 x8 σ) (nx x) x7 (w32 (k : Int)) (w32 c) σ = k20 (dayL P ro p (d + 1) x A s b).1 (x7 + 1) σ' ∧ CD A0 P ro σ' ∧ gI σ' 45 3 = w32 (dayL P ro p (d + 1) x A s b).2.2.1 ∧ gI σ' 45 4 = w32 (dayL P ro p (d + 1) x A s b).2.2.2 := by
      intro c hc hcol
      obtain ⟨σ1, m, e, eA, e3, e4⟩ := live88 (F := F) (x8 := (k : Int)) (i2 := i2) (i3 := w32 (N : Int)) (i4 := w32 p) (x5 := nx x) (x7 := x7) (k40 := fun x5 x7 x8 σ => m6_live_40 F 16 i2 (w32 (N : Int)) (w32 p) k20 n' x5 x7 x8 σ) hc hE hA h3 h4 wPl (wI.bd (by omega)) hF
      have eK : upK Kp 5 c = Kc p (nx x) := by unfold Kc; rw [hcol]
      rw [eK] at eA e3 e4
      rw [m]
      exact ih n' (k + 1) (t + 1) (nx x) x7 _ _ σ1 _ (by omega) (by omega) e eA e3 e4 (passA_wf wI wPl.1 wPl.2.1 wPl.2.2.1 (fun q => Kp2 q)) (by omega)
    unfold m6_live_40
    rw [if_neg (by rw [w_le (by omega) (by omega) (by omega) (by omega)]; omega)]
    by_cases hd : w32 p ≤ (dr (nx x)).toInt32
    · have hc : (0 : Int32) ≤ lg_cmp (dr (nx x)) (w32 p).toInt64 := by rw [dr_cmp hp1 hp2]; exact hd
      rw [if_pos (show (0 : Int32) ≤ lg_cmp (remL ((remL ((x * (1103515245 : Int64)) + (12345 : Int64)) (2147483648 : Int64)) / (65536 : Int64)) (100 : Int64)) (w32 p).toInt64 from hc)]
      exact key 0 (Or.inl rfl) (by unfold colB; rw [if_pos hd])
    · have hc : ¬ (0 : Int32) ≤ lg_cmp (dr (nx x)) (w32 p).toInt64 := by rw [dr_cmp hp1 hp2]; exact hd
      rw [if_neg (show ¬ (0 : Int32) ≤ lg_cmp (remL ((remL ((x * (1103515245 : Int64)) + (12345 : Int64)) (2147483648 : Int64)) / (65536 : Int64)) (100 : Int64)) (w32 p).toInt64 from hc)]
      exact key 1 (Or.inr rfl) (by unfold colB; rw [if_neg hd])
theorem live20 {F N M : Nat} {p : Int} {A0 P : Dat} {ro : Option Dat} (wPl : WfPl P) (hN : N ≤ 100) (hM : M ≤ 100) (hp1 : 0 ≤ p) (hp2 : p ≤ 100) {t : Nat} (wI : WfI P A0 t) (ht : t ≤ 8000) (hF : 1000 ≤ F) : ∀ (d n' k : Nat) (x : Int64) (s b : Int) (σ : Mem), k + d = M → d < n' → CD A0 P ro σ → gI σ 45 3 = w32 s → gI σ 45 4 = w32 b → ∃ σ', m6_live_20 F 16 (w32 (M : Int)) (w32 (N : Int)) (w32 p) n' x (w32 (k : Int)) σ = some σ' ∧ gI σ' 45 3 = w32 (daysL P ro p N A0 d x s b).1 ∧ gI σ' 45 4 = w32 (daysL P ro p N A0 d x s b).2 := by
  intro d
  induction d with
  | zero =>
    intro n' k x s b σ h1 h2 hE h3 h4
    obtain ⟨n', rfl⟩ : ∃ k, n' = k + 1 := ⟨n' - 1, by omega⟩
    unfold m6_live_20 daysL
    rw [if_pos (by rw [w_le (by omega) (by omega) (by omega) (by omega)]; omega)]
    exact ⟨σ, rfl, h3, h4⟩
  | succ d ih =>
    intro n' k x s b σ h1 h2 hE h3 h4
    obtain ⟨n', rfl⟩ : ∃ k, n' = k + 1 := ⟨n' - 1, by omega⟩
    obtain ⟨p1, p2, p3, c0, p4⟩ := hE
    obtain ⟨σ1, m, e⟩ := cpS_ok (F := F) (c0 := 46) (by decide) (by omega) p2
    have f := f7_copyFrom m
    obtain ⟨σ2, m2, e2, g3, g4⟩ := live40 (F := F) (N := N) (i2 := w32 (M : Int)) (p := p) (ro := ro) (A0 := A0) (k20 := fun x5 x7 σ => m6_live_20 F 16 (w32 (M : Int)) (w32 (N : Int)) (w32 p) n' x5 x7 σ) wPl (by omega) hp1 hp2 hF N F 0 t x (w32 (k : Int)) s b σ1 A0 (by omega) (by omega) ⟨p1.fr f (fun i hi => by unfold Wm7_copyFrom; omega), p2.fr f (fun i hi => by unfold Wm7_copyFrom; omega), p3.fr f (fun c z => by unfold Wm7_copyFrom at z; omega), c0, p4.fr f (by unfold Wm7_copyFrom; omega)⟩ e (by rw [f.gI (by unfold Wm7_copyFrom; omega)]; exact h3) (by rw [f.gI (by unfold Wm7_copyFrom; omega)]; exact h4) wI (by omega)
    unfold m6_live_20 daysL
    rw [if_neg (by rw [w_le (by omega) (by omega) (by omega) (by omega)]; omega), m, Option.bind_some, show (0 : Int32) = w32 ((0 : Nat) : Int) from rfl, m2, w_succ]
    exact ih n' (k + 1) _ _ _ σ2 (by omega) (by omega) e2 g3 g4
/-- the reference's side -/
theorem draw_r {F : Nat} {σ : Mem} : m12_draw F (100 : Int32) σ = some ((dr (nx (gL σ 483 45))).toInt32, sL σ 483 45 (nx (gL σ 483 45))) := by
  unfold m12_draw
  dsimp only
  rw [gd_pos (by decide), gL_sL, if_pos ⟨rfl, rfl⟩]
  rfl
theorem RE.col {c c' : Int} {ro : Option Dat} {P A : Dat} {σ : Mem} (h : RE (upK Kp 5 c) ro P A σ) : RE (upK Kp 5 c') ro P A (sI σ 483 28 (w32 c')) := by
  obtain ⟨x1, ⟨y1, y2, y3, y4, y5⟩, z1⟩ := h
  refine ⟨x1.same (gI_ne _ _ _ (by decide)) (gI_nej (by decide)), ⟨?_, ?_, ?_, ?_, ?_⟩, ?_⟩
  · rw [gI_nej (by decide)]; exact y1
  · rw [gI_nej (by decide)]; exact y2
  · rw [gI_nej (by decide)]; exact y3
  · rw [gI_nej (by decide)]; exact y4
  · rw [gI_eq]; rfl
  · exact z1.fr (V := fun j => j = 28) ((Fr.rf (fun c => c = 483) σ).sI rfl) (fun j hj => gI_nej hj) (by decide) (by decide) (by decide) (by decide)
theorem RE.lng {K : Nat → Int} {ro : Option Dat} {P A : Dat} {σ : Mem} {j : Nat} {v : Int64} (h : RE K ro P A σ) : RE K ro P A (sL σ 483 j v) :=
  h.same (gI_sL _ _ _ _ _) (fun _ _ _ => by rw [gI_sL]) (gI_sL _ _ _ _ _) (gI_sL _ _ _ _ _) (gI_sL _ _ _ _ _)
theorem days94 {F N : Nat} {p : Int} {P : Dat} {ro : Option Dat} {σ0 : Mem} {i1 i4 x6 x7 x8 : Int32} {k78 : Int32 → Int32 → Int32 → Mem → Option (Int32 × Mem)} (wPl : WfPl P) (hN : N ≤ 1000) (hp1 : 0 ≤ p) (hp2 : p ≤ 100) (hF : 1000 ≤ F) : ∀ (d n' k t : Nat) (s b : Int) (σ : Mem) (A : Dat), k + d = N → d < n' → (∃ c, RE (upK Kp 5 c) ro P A σ) → TrV 28 σ0 σ → WfI P A t → t + d ≤ 9000 → ∃ σ', m12_days_94 F i1 (w32 (N : Int)) (w32 p) i4 k78 n' (w32 s) x6 x7 x8 (w32 (k : Int)) σ = Option.bind (m12_laysBack F σ') (fun p2 => k78 (w32 (dayL P ro p d (gL σ 483 45) A s b).2.2.1) (x6 + (w32 (cntN P (dayL P ro p d (gL σ 483 45) A s b).2.1 4) - x8)) (x7 + 1) p2) ∧ gL σ' 483 45 = (dayL P ro p d (gL σ 483 45) A s b).1 ∧ TrV 28 σ0 σ' ∧ (∃ c, RepQ σ' (upK Kp 5 c)) := by
  intro d
  induction d with
  | zero =>
    intro n' k t s b σ A h1 h2 hE tr wI ht
    obtain ⟨n', rfl⟩ : ∃ k, n' = k + 1 := ⟨n' - 1, by omega⟩
    obtain ⟨c, hE⟩ := hE
    unfold m12_days_94 dayL
    rw [if_pos (by rw [w_le (by omega) (by omega) (by omega) (by omega)]; omega), show (4 : Int32) = w32 ((4 : Nat) : Int) from rfl, countOf_r hE.1 wPl.1 (Or.inr ⟨rfl, rfl⟩) (by omega), Option.bind_some]
    exact ⟨σ, rfl, rfl, tr, c, hE.2.1⟩
  | succ d ih =>
    intro n' k t s b σ A h1 h2 hE tr wI ht
    obtain ⟨n', rfl⟩ : ∃ k, n' = k + 1 := ⟨n' - 1, by omega⟩
    obtain ⟨c0, hE⟩ := hE
    have key : ∀ c : Int, (c = 0 ∨ c = 1) → c = colB p (nx (gL σ 483 45)) → ∃ σ', m12_days_116 F i1 (w32 (N : Int)) (w32 p) i4 (fun x5 x6 x7 x8 x9 σ => m12_days_94 F i1 (w32 (N : Int)) (w32 p) i4 k78 n' x5 x6 x7 x8 x9 σ) (w32 s) x6 x7 x8 (w32 (k : Int)) (w32 c) (sL σ 483 45 (nx (gL σ 483 45))) = Option.bind (m12_laysBack F σ') (fun p2 => k78 (w32 (dayL P ro p (d + 1) (gL σ 483 45) A s b).2.2.1) (x6 + (w32 (cntN P (dayL P ro p (d + 1) (gL σ 483 45) A s b).2.1 4) - x8)) (x7 + 1) p2) ∧ gL σ' 483 45 = (dayL P ro p (d + 1) (gL σ 483 45) A s b).1 ∧ TrV 28 σ0 σ' ∧ (∃ c, RepQ σ' (upK Kp 5 c)) := by
      intro c hc hcol
      obtain ⟨σ1, m, e, -, -, tl, f, sl⟩ := re_step (F := F) (RE.col (c' := c) hE.lng) wPl wI (by omega) (K5_bd hc) (fun q => Kp2 q) (show -1 ≤ (-1 : Int) by decide) rfl hF
      have g45 : gL σ1 483 45 = nx (gL σ 483 45) := by
        rw [f12_passes_g m (by unfold Ym12_passes; exact id), gL_sI, gL_sL, if_pos ⟨rfl, rfl⟩]
      have eK : upK Kp 5 c = Kc p (nx (gL σ 483 45)) := by unfold Kc; rw [hcol]
      unfold m12_days_116
      rw [gd_pos (by rcases hc with rfl | rfl; exact Or.inl rfl; exact Or.inr rfl)]
      dsimp only
      rw [m, Option.bind_some, w_add, w_succ]
      obtain ⟨σ2, m2, a2, b2⟩ := ih n' (k + 1) (t + 1) (s + hitN P (upK Kp 5 c) ro A) (b + (passW P (upK Kp 5 c) ro A).2.1 13) σ1 _ (by omega) (by omega) ⟨c, e⟩ ((tr.lng.set (v := w32 c)).pass tl f sl) (passA_wf wI wPl.1 wPl.2.1 wPl.2.2.1 (fun q => Kp2 q)) (by omega)
      rw [g45, eK] at m2 a2
      rw [eK]
      exact ⟨σ2, m2, a2, b2⟩
    unfold m12_days_94
    rw [if_neg (by rw [w_le (by omega) (by omega) (by omega) (by omega)]; omega), draw_r, Option.bind_some]
    dsimp only
    by_cases hd : w32 p ≤ (dr (nx (gL σ 483 45))).toInt32
    · rw [if_pos hd]
      exact key 0 (Or.inl rfl) (by unfold colB; rw [if_pos hd])
    · rw [if_neg hd]
      exact key 1 (Or.inr rfl) (by unfold colB; rw [if_neg hd])
theorem days78 {F N M : Nat} {p : Int} {P A : Dat} {ro : Option Dat} {σ0 : Mem} {i4 : Int32} (wPl : WfPl P) (hN : N ≤ 100) (hM : M ≤ 100) (hp1 : 0 ≤ p) (hp2 : p ≤ 100) {t : Nat} (wI : WfI P A t) (ht : t ≤ 8000) (h93 : A 9 3 = 0) (hE0 : RE Kp ro P A σ0) (hF : 1000 ≤ F) : ∀ (d n' k : Nat) (x : Int64) (s b : Int) (σ : Mem), k + d = M → d < n' → (∃ c, RE (upK Kp 5 c) ro P A σ) → gL σ 483 45 = x → TrV 28 σ0 σ → gI σ 493 = gI σ0 493 → gI σ 483 27 = w32 0 → ∃ σ', m12_days_78 F (w32 (M : Int)) (w32 (N : Int)) (w32 p) i4 n' (w32 s) (w32 b) (w32 (k : Int)) σ = some (if i4 = (0 : Int32) then w32 (daysL P ro p N A d x s b).1 else w32 (daysL P ro p N A d x s b).2, sI σ' 483 28 (0 : Int32)) ∧ TrV 28 σ0 σ' ∧ gI σ' 493 = gI σ0 493 ∧ gI σ' 483 27 = w32 0 := by
  intro d
  induction d with
  | zero =>
    intro n' k x s b σ h1 h2 hE hx tr g1 g2
    obtain ⟨n', rfl⟩ : ∃ k, n' = k + 1 := ⟨n' - 1, by omega⟩
    unfold m12_days_78 daysL
    rw [if_pos (by rw [w_le (by omega) (by omega) (by omega) (by omega)]; omega)]
    refine ⟨σ, ?_, tr, g1, g2⟩
    dsimp only
    split <;> rfl
  | succ d ih =>
    intro n' k x s b σ h1 h2 hE hx tr g1 g2
    obtain ⟨n', rfl⟩ : ∃ k, n' = k + 1 := ⟨n' - 1, by omega⟩
    have hE1 := hE
    obtain ⟨c, hE⟩ := hE
    obtain ⟨σ1, m, a1, tr1, c1, q1⟩ := days94 (F := F) (N := N) (p := p) (i1 := w32 (M : Int)) (i4 := i4) (x6 := w32 b) (x7 := w32 (k : Int)) (x8 := w32 (cntN P A 4)) (k78 := fun x5 x6 x7 σ => m12_days_78 F (w32 (M : Int)) (w32 (N : Int)) (w32 p) i4 n' x5 x6 x7 σ) wPl (by omega) hp1 hp2 hF N F 0 t s b σ A (by omega) (by omega) hE1 tr wI (by omega)
    obtain ⟨σ2, m2, e1, e2, tr2, o1, o2, o3⟩ := backV (F := F) tr1 (by omega)
    have q2 : RepQ σ2 (upK Kp 5 c1) := by
      obtain ⟨y1, y2, y3, y4, y5⟩ := q1
      exact ⟨by rw [o2 _ (by decide)]; exact y1, by rw [o2 _ (by decide)]; exact y2, by rw [o2 _ (by decide)]; exact y3, by rw [o2 _ (by decide)]; exact y4, by rw [o2 _ (by decide)]; exact y5⟩
    have hE2 := hE0.again h93 e1 e2 tr2 (by decide) q2
    unfold m12_days_78 daysL
    rw [if_neg (by rw [w_le (by omega) (by omega) (by omega) (by omega)]; omega), show (4 : Int32) = w32 ((4 : Nat) : Int) from rfl, countOf_r hE.1 wPl.1 (Or.inr ⟨rfl, rfl⟩) (by omega), Option.bind_some, show (0 : Int32) = w32 ((0 : Nat) : Int) from rfl, m, m2, Option.bind_some]
    try dsimp only
    rw [w_succ, w_sub, w_add]
    have := ih n' (k + 1) (dayL P ro p N x A s b).1 (dayL P ro p N x A s b).2.2.1 (dayL P ro p N x A s b).2.2.2 σ2 (by omega) (by omega) ⟨c1, hE2⟩ (by rw [o3, a1, hx]) tr2 e1 e2
    rw [dayL_cnt wPl] at this
    rw [hx, dayL_cnt wPl]
    exact this
/-! a look ahead that is refused on both sides alike: guards as numbers -/
theorem g01 {p : Prop} [Decidable p] : ((if p then (1 : Int32) else 0) = (0 : Int32)) = ¬ p := by
  by_cases h : p
  · rw [if_pos h]; exact propext ⟨fun z => absurd z (by decide), fun z => absurd h z⟩
  · rw [if_neg h]; exact propext ⟨fun _ => h, fun _ => rfl⟩
theorem days_q {F t : Nat} {S : Ab} {σ : Mem} (hC : CInv S σ) (hR : RInv S σ) (wf : Wf t S) (ht : t ≤ 600) (hF : 10000 ≤ F) (x y z w : Int32) : Ans S (m11_days F x y z w σ) (m12_days F x y z w) := by
  obtain ⟨a, rfl, a1, a2⟩ := arg x
  obtain ⟨b, rfl, b1, b2⟩ := arg y
  obtain ⟨c, rfl, c1, c2⟩ := arg z
  obtain ⟨d, rfl, d1, d2⟩ := arg w
  have wPl := wf.1.1
  have wI := wf.1.2.1.1
  have h17 : RepP 17 σ (wP (sW S)) := hC.1.1
  have e0 : gI σ 17 0 = w32 (wP (sW S) 0 0) := h17.at 0 0
  have hE := hR.E wf
  have h01 := wPl.2.2.2.1
  have inA : ∀ τ, m12_in F (w32 a).toInt64 (1 : Int64) (10 : Int64) τ = some (if 1 ≤ a ∧ a ≤ 10 then (1 : Int32) else 0) := fun τ => in_r rfl rfl a1 a2 (by decide) (by decide)
  have inB' : ∀ τ, m12_in F (w32 b).toInt64 (1 : Int64) (99 : Int64) τ = some (if 1 ≤ b ∧ b ≤ 99 then (1 : Int32) else 0) := fun τ => in_r rfl rfl b1 b2 (by decide) (by decide)
  have inC : ∀ τ, m12_in F (w32 c).toInt64 (0 : Int64) (100 : Int64) τ = some (if 0 ≤ c ∧ c ≤ 100 then (1 : Int32) else 0) := fun τ => in_r rfl rfl c1 c2 (by decide) (by decide)
  have inD : ∀ τ, m12_in F (w32 d).toInt64 (0 : Int64) (1 : Int64) τ = some (if 0 ≤ d ∧ d ≤ 1 then (1 : Int32) else 0) := fun τ => in_r rfl rfl d1 d2 (by decide) (by decide)
  have q0 : (w32 (wP (sW S) 0 0) = (0 : Int32)) = (wP (sW S) 0 0 = 0) := by rw [wl_0, w_eq (by omega) (by omega) (by omega) (by omega)]
  have q1 : (w32 a < (1 : Int32)) = (a < 1) := by rw [wl_1, w_lt (by omega) (by omega) (by omega) (by omega)]
  have q2 : ((10 : Int32) < w32 a) = (10 < a) := by rw [wl_10, w_lt (by omega) (by omega) (by omega) (by omega)]
  have q3 : (w32 b < (1 : Int32)) = (b < 1) := by rw [wl_1, w_lt (by omega) (by omega) (by omega) (by omega)]
  have q4 : (w32 b ≤ (99 : Int32)) = (b ≤ 99) := by rw [wl_99, w_le (by omega) (by omega) (by omega) (by omega)]
  have q5 : (w32 c < (0 : Int32)) = (c < 0) := by rw [wl_0, w_lt (by omega) (by omega) (by omega) (by omega)]
  have q6 : ((100 : Int32) < w32 c) = (100 < c) := by rw [wl_100, w_lt (by omega) (by omega) (by omega) (by omega)]
  have q7 : (w32 d < (0 : Int32)) = (d < 0) := by rw [wl_0, w_lt (by omega) (by omega) (by omega) (by omega)]
  have q8 : (w32 d ≤ (1 : Int32)) = (d ≤ 1) := by rw [wl_1, w_le (by omega) (by omega) (by omega) (by omega)]
  have q9 : (w32 d = (0 : Int32)) = (d = 0) := by rw [wl_0, w_eq (by omega) (by omega) (by omega) (by omega)]
  by_cases ok : wP (sW S) 0 0 = 1 ∧ (1 ≤ a ∧ a ≤ 10) ∧ (1 ≤ b ∧ b ≤ 99) ∧ (0 ≤ c ∧ c ≤ 100) ∧ (0 ≤ d ∧ d ≤ 1)
  · obtain ⟨o0, oa, ob, oc, od⟩ := ok
    obtain ⟨M, rfl⟩ : ∃ p : Nat, a = p := ⟨a.toNat, by omega⟩
    obtain ⟨N, rfl⟩ : ∃ p : Nat, b = p := ⟨b.toNat, by omega⟩
    obtain ⟨q, τ1, e1, e2, hC1, k1, r1, f1⟩ := begin_c (F := F) hC wf
    have f2 : Fr (fun c => c = 45) τ1 (sI (sI τ1 45 3 (0 : Int32)) 45 4 (0 : Int32)) := ((Fr.rf (fun c => c = 45) τ1).sI rfl).sI rfl
    have g4 : gI τ1 16 4 = w32 (wX (sW S)) := hC1.1.2.2.2.2
    have cd : CD (wA (sW S)) (wP (sW S)) (roOf S) (sI (sI τ1 45 3 (0 : Int32)) 45 4 (0 : Int32)) := by
      have hC2 : CInv S (sI (sI τ1 45 3 (0 : Int32)) 45 4 (0 : Int32)) := hC1.fr wf.2.1.1 f2 (fun c z => by unfold Scr; omega)
      refine ⟨hC2.1.1, hC2.1.2.1, r1.fr f2 (fun c z => by omega), 0, ?_⟩
      have : upK Kp 5 0 = Kp := by
        funext j
        unfold upK
        split
        · rename_i h; rw [h]; rfl
        · rfl
      rw [this]
      exact k1.fr f2 (by omega)
    obtain ⟨τ3, e4, g3, g5⟩ := live20 (F := F) (N := N) (M := M) (p := c) (ro := roOf S) wPl (by omega) (by omega) oc.1 oc.2 wI (by omega) (by omega) M F 0 ((w32 (wX (sW S))).toInt64) 0 0 _ (by omega) (by omega) cd (by rw [gI_nej (by decide), gI_eq]; rfl) (by rw [gI_eq]; rfl)
    have eu : m6_live F 16 (w32 (M : Int)) (w32 (N : Int)) (w32 c) τ1 = some τ3 := by
      unfold m6_live
      rw [g4]
      exact e4
    have m1 : m11_days F (w32 (M : Int)) (w32 (N : Int)) (w32 c) (w32 d) σ = some (w32 (if d = 0 then (daysL (wP (sW S)) (roOf S) c N (wA (sW S)) M ((w32 (wX (sW S))).toInt64) 0 0).1 else (daysL (wP (sW S)) (roOf S) c N (wA (sW S)) M ((w32 (wX (sW S))).toInt64) 0 0).2), τ3) := by
      unfold m11_days
      simp only [e0, q0, q1, q2, q3, q4, q5, q6, q7, q8, q9]
      rw [if_neg (by omega), if_neg (by omega), if_neg (by omega), if_neg (by omega), if_pos (by omega), if_neg (by omega), if_neg (by omega), if_neg (by omega), if_pos (by omega), e1, Option.bind_some, e2, Option.bind_some, eu, Option.bind_some, g3, g5]
      split <;> rfl
    obtain ⟨hC3, hR3⟩ := cls_q hC hR wf (f11_days m1) (fun c z => by unfold Wm11_days at z; omega)
    have hE3 := hR3.E wf
    have e22 : gI τ3 483 22 = w32 (wX (sW S)) := hR3.2.1.2.1
    obtain ⟨τ4, n1, a1', b1', tr1, s1, -⟩ := keepG (F := F) (σ := sL τ3 483 45 ((w32 (wX (sW S))).toInt64)) (by omega)
    have trV : TrV 28 τ3 τ4 := by
      obtain ⟨x1, x2, x3, x4⟩ := tr1
      exact ⟨fun j hj => by rw [x1 j hj, gI_sL], fun k hk => by rw [x2 k hk, gI_sL], ((Fr.rf Wq τ3).sL (Or.inl rfl)).trans x3, (Sl.sL (Sl.rf _ τ3)).trans (x4.mono (fun _ q => Or.inl q))⟩
    have E3 : RE Kp (roOf S) (wP (sW S)) (wA (sW S)) τ4 := (hE3.lng).keep wf.1.2.1.2.1 a1' b1' s1 tr1.2.2.1
    have g45 : gL τ4 483 45 = (w32 (wX (sW S))).toInt64 := by
      rw [f12_keeps_g n1 (by unfold Ym12_keeps; exact id), gL_sL, if_pos ⟨rfl, rfl⟩]
    have K0p : upK Kp 5 0 = Kp := by
      funext j
      unfold upK
      split
      · rename_i h; rw [h]; rfl
      · rfl
    obtain ⟨τ5, n2, tr5, a5, b5⟩ := days78 (F := F) (N := N) (M := M) (p := c) (i4 := w32 d) wPl (by omega) (by omega) oc.1 oc.2 wI (by omega) wf.1.2.1.2.1 hE3 (by omega) M F 0 _ 0 0 τ4 (by omega) (by omega) ⟨0, by rw [K0p]; exact E3⟩ g45 trV (by rw [a1', gI_sL]) b1'
    have e28 : (0 : Int32) = gI τ3 483 28 := hR3.2.1.2.2.2.2.2.2.2.symm
    refine ⟨_, τ3, _, m1, ?_, ref_q hC3 wf (tr5.2.2.1.sI (v := (0 : Int32)) (c := 483) (j := 28) (Or.inl rfl)) (fun c z => by unfold Wq at z; omega), hR3.endV wf a5 b5 tr5 e28 (by decide)⟩
    unfold m12_days
    simp only [isSmithy_r hE3.1 wPl, inA, inB', inC, inD, Option.bind_some, g01]
    rw [if_neg (by omega), if_neg (by omega), if_neg (by omega), if_neg (by omega), if_neg (by omega), e22, n1, Option.bind_some]
    have n2' : m12_days_78 F (w32 (M : Int)) (w32 (N : Int)) (w32 c) (w32 d) F (0 : Int32) (0 : Int32) (0 : Int32) τ4 = _ := n2
    rw [n2']
    simp only [q9]
    split <;> rfl
  · refine ⟨-1, σ, σ, ?_, ?_, hC, hR⟩
    · unfold m11_days
      simp only [e0, q0, q1, q2, q3, q4, q5, q6, q7, q8]
      (repeat' split) <;> first | rfl | (exfalso; omega)
    · unfold m12_days
      simp only [isSmithy_r hE.1 wPl, inA, inB', inC, inD, Option.bind_some, g01]
      (repeat' split) <;> first | rfl | (exfalso; omega)
