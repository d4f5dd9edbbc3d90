/-! LOOKING AHEAD: MOMENTS one after another, on both sides -/
def Kp : Nat → Int := fun j => if j = 2 then -1 else if j = 3 then -1 else 0
theorem Kp_bd : BdK Kp := fun j _ _ => by unfold Kp; split; decide; split <;> decide
def roOf (S : Ab) : Option Dat := if wF (sW S) < 0 then none else some (sRu S (wF (sW S)).toNat)
/-- the class's side of a look ahead at the state's cell c1 -/
def CE (c1 : Nat) (K : Nat → Int) (ro : Option Dat) (P A : Dat) (σ : Mem) : Prop := RepP 17 σ P ∧ RepS c1 σ A ∧ RepC σ K ∧ RepRo σ ro
/-- the reference's -/
def RE (K : Nat → Int) (ro : Option Dat) (P A : Dat) (σ : Mem) : Prop := RepA σ P A ∧ RepQ σ K ∧ RepFo σ ro
theorem CE.fr {W : Nat → Prop} {c1 : Nat} {K : Nat → Int} {ro : Option Dat} {P A : Dat} {σ σ' : Mem} (h : CE c1 K ro P A σ) (f : Fr W σ σ') (hw : ∀ c, W c → (c < 17 ∨ 25 < c) ∧ (c < c1 ∨ c1 + 9 < c) ∧ c ≠ 40 ∧ (c < 151 ∨ 186 < c ∨ c % 6 = 0) ∧ c ≠ 1000) : CE c1 K ro P A σ' :=
  ⟨h.1.fr f (fun i hi z => by have := hw _ z; omega), h.2.1.fr f (fun i hi z => by have := hw _ z; omega), h.2.2.1.fr f (fun z => by have := hw _ z; omega), h.2.2.2.fr f (fun c z => by have := hw _ z; omega)⟩
theorem ce_go {F c1 : Nat} {K : Nat → Int} {ro : Option Dat} {P A : Dat} {σ : Mem} (h : CE c1 K ro P A σ) (wP : WfP P) (bA : Bd 800000000 A) (bK : BdK K) (hc : StC c1) (hF : 1000 ≤ F) :
    ∃ σ', m2_go F c1 σ = some σ' ∧ CE c1 K ro P (passA P K ro A) σ' ∧ RepK σ' (passW P K ro A).2.1 ∧ RepT σ' (passW P K ro A).2.2 := by
  obtain ⟨h1, h2, h3, h4⟩ := h
  obtain ⟨c_1, c_2, c_3⟩ := id hc
  obtain ⟨σ', m, s, k, t⟩ := go_ok (F := F) h1 h2 h3 h4 wP (bA.mono (by decide)) bK hc hF
  have f := f2_go m
  refine ⟨σ', m, ⟨h1.fr f (fun i hi => by unfold Wm2_go; omega), s, fun j hj => ?_, h4.fr f (fun c z => by unfold Wm2_go at z; omega)⟩, k, t⟩
  rw [k j (Or.inl hj)]
  have : (passW P K ro A).2.1 j = K j := by
    unfold passW
    rw [workS_K (by omega)]
    show K0 K j = K j
    unfold K0
    rw [upK_lo (by omega), upK_lo (by omega), upK_lo (by omega)]
  rw [this]
theorem re_pass {F : Nat} {K : Nat → Int} {ro : Option Dat} {P A : Dat} {σ : Mem} (h : RE K ro P A σ) (wPl : WfPl P) (wA : WfA P A) (bA : Bd 800000000 A) (bK : BdK K) (bK3 : -1 ≤ K 3) (hK6 : K 6 = 0) (m0 : 0 ≤ A 0 0) (m1 : A 0 0 + 1 ≤ 9999) (h93 : A 9 3 < 9999) (hF : 1000 ≤ F) :
    ∃ σ', m12_passes F σ = some (w32 (hitN P K ro A), σ') ∧ RE K ro P (passRA P K ro A) σ' ∧ (∀ q : Nat, (q : Int) < P 0 4 → gI σ' 496 q = w32 (hits P K ro A q)) ∧ (∀ k, k < 3 → gI σ' 495 k = w32 ((passW P K ro A).2.2 k)) ∧ Tl σ σ' ∧ Fr (fun c => c = 483 ∨ (491 ≤ c ∧ c ≤ 496)) σ σ' ∧ Sl (fun j => j = 18 ∨ j = 27 ∨ j = 32) σ σ' := by
  obtain ⟨h1, h2, h3⟩ := h
  obtain ⟨w1, w2, w3, -⟩ := wPl
  obtain ⟨σ', m, a, b, c, d⟩ := passes_r (F := F) h1 h2 h3 wA w1 w2 w3 bA bK bK3 hK6 m0 m1 h93 hF
  have f := f12_passes m
  have s := f12_passes_s m
  refine ⟨σ', m, ⟨a, h2.sl s (fun j x y z => by unfold Vm12_passes; omega), h3.fr f s (by unfold Wm12_passes; omega) (by unfold Wm12_passes; omega) (by unfold Wm12_passes; omega) (by unfold Vm12_passes; omega)⟩, b, c, d, f.mono (fun c z => by unfold Wm12_passes at z; omega), s.mono (fun c z => by unfold Vm12_passes at z; omega)⟩
/-- MOMENTS gone by -/
def itA (P : Dat) (K : Nat → Int) (ro : Option Dat) : Nat → Dat → Dat
  | 0, A => A
  | n + 1, A => itA P K ro n (passA P K ro A)
theorem itA_succ {P : Dat} {K : Nat → Int} {ro : Option Dat} : ∀ (n : Nat) (A : Dat), itA P K ro (n + 1) A = passA P K ro (itA P K ro n A)
  | 0, _ => rfl
  | n + 1, A => itA_succ n (passA P K ro A)
theorem itA_wf {P : Dat} {K : Nat → Int} {ro : Option Dat} (wPl : WfPl P) (hK2 : ∀ p : Nat, (p : Int) ≠ K 2) : ∀ (n : Nat) (A : Dat) (t : Nat), WfI P A t → WfI P (itA P K ro n A) (t + n)
  | 0, _, _, h => h
  | n + 1, A, t, h => by
    have := itA_wf (ro := ro) wPl hK2 n (passA P K ro A) (t + 1) (passA_wf h wPl.1 wPl.2.1 wPl.2.2.1 hK2)
    rw [show t + (n + 1) = t + 1 + n by omega]
    exact this
theorem WfI.bd {P A : Dat} {t : Nat} (h : WfI P A t) (ht : t ≤ 9000) : Bd 800000000 A := h.2.2.2.1.mono (by omega)
/-- one MOMENT of the reference in a look ahead, with none absent -/
theorem re_step {F : Nat} {K : Nat → Int} {ro : Option Dat} {P A : Dat} {σ : Mem} {t : Nat} (h : RE K ro P A σ) (wPl : WfPl P) (wI : WfI P A t) (ht : t ≤ 9000) (bK : BdK K) (hK2 : ∀ p : Nat, (p : Int) ≠ K 2) (bK3 : -1 ≤ K 3) (hK6 : K 6 = 0) (hF : 1000 ≤ F) :
    ∃ σ', m12_passes F σ = some (w32 (hitN P K ro A), σ') ∧ RE K ro P (passA P K ro A) σ' ∧ (∀ q : Nat, (q : Int) < P 0 4 → gI σ' 496 q = w32 (hits P K ro A q)) ∧ (∀ k, k < 3 → gI σ' 495 k = w32 ((passW P K ro A).2.2 k)) ∧ Tl σ σ' ∧ Fr (fun c => c = 483 ∨ (491 ≤ c ∧ c ≤ 496)) σ σ' ∧ Sl (fun j => j = 18 ∨ j = 27 ∨ j = 32) σ σ' := by
  have w := wI
  obtain ⟨wA, m0, m1, -, hn, h9⟩ := w
  obtain ⟨σ', m, a, b⟩ := re_pass (F := F) h wPl wA (wI.bd ht) bK bK3 hK6 m0 (by omega) (by omega) hF
  rw [passRA_eq (fun p hp hj => hn p hp (by unfold jbs at hj; rwa [if_neg (hK2 p)] at hj))] at a
  exact ⟨σ', m, a, b⟩
/-! guards -/
theorem arg (x : Int32) : ∃ z : Int, x = w32 z ∧ -2147483648 ≤ z ∧ z ≤ 2147483647 := ⟨x.toInt, (w_of x).symm, by have := Int32.le_toInt x; omega, by have := Int32.toInt_lt x; omega⟩
theorem hasSmith_c {F : Nat} {σ : Mem} {P : Dat} {z : Int} (hP : RepP 17 σ P) (wP : WfP P) (h1 : -2147483648 ≤ z) (h2 : z ≤ 2147483647) : m11_hasSmith F (w32 z) σ = some (if 0 ≤ z ∧ z < P 0 4 then (1 : Int32) else 0) := by
  have e : gI σ 17 4 = w32 (P 0 4) := hP.at 0 4
  obtain ⟨n, hn, hn3⟩ := wP.2.2.1
  unfold m11_hasSmith
  rw [e]
  by_cases a : z < 0
  · rw [if_pos (by rw [wl_0, w_lt (by omega) (by omega) (by omega) (by omega)]; exact a), if_neg (by omega)]
  · rw [if_neg (by rw [wl_0, w_lt (by omega) (by omega) (by omega) (by omega)]; exact a)]
    by_cases b : P 0 4 ≤ z
    · rw [if_pos (by rw [w_le (by omega) (by omega) (by omega) (by omega)]; exact b), if_neg (by omega)]
    · rw [if_neg (by rw [w_le (by omega) (by omega) (by omega) (by omega)]; exact b), if_pos (by omega)]
theorem hasJob_c {F : Nat} {σ : Mem} {P : Dat} {z : Int} (hP : RepP 17 σ P) (wP : WfP P) (h1 : -2147483648 ≤ z) (h2 : z ≤ 2147483647) : m11_hasJob F (w32 z) σ = some (if 0 ≤ z ∧ z < P 0 5 then (1 : Int32) else 0) := by
  have e : gI σ 17 5 = w32 (P 0 5) := hP.at 0 5
  obtain ⟨n, hn, hn3⟩ := wP.2.1
  unfold m11_hasJob
  rw [e]
  by_cases a : z < 0
  · rw [if_pos (by rw [wl_0, w_lt (by omega) (by omega) (by omega) (by omega)]; exact a), if_neg (by omega)]
  · rw [if_neg (by rw [wl_0, w_lt (by omega) (by omega) (by omega) (by omega)]; exact a)]
    by_cases b : P 0 5 ≤ z
    · rw [if_pos (by rw [w_le (by omega) (by omega) (by omega) (by omega)]; exact b), if_neg (by omega)]
    · rw [if_neg (by rw [w_le (by omega) (by omega) (by omega) (by omega)]; exact b), if_pos (by omega)]
theorem hasPart_c {F : Nat} {σ : Mem} {P : Dat} {z : Int} (hP : RepP 17 σ P) (wPl : WfPl P) (h1 : -2147483648 ≤ z) (h2 : z ≤ 2147483647) : m11_hasPart F (w32 z) σ = some (if P 0 0 = 1 ∧ 0 ≤ z ∧ z ≤ 2 then (1 : Int32) else 0) := by
  have e : gI σ 17 0 = w32 (P 0 0) := hP.at 0 0
  have h01 := wPl.2.2.2.1
  unfold m11_hasPart
  rw [e]
  rcases h01 with h0 | h0
  · rw [h0, if_pos (by decide), if_neg (by omega)]
  · rw [h0, if_neg (by decide)]
    by_cases a : z < 0
    · rw [if_pos (by rw [wl_0, w_lt (by omega) (by omega) (by omega) (by omega)]; exact a), if_neg (by omega)]
    · rw [if_neg (by rw [wl_0, w_lt (by omega) (by omega) (by omega) (by omega)]; exact a)]
      by_cases b : 3 ≤ z
      · rw [if_pos (by rw [wl_3, w_le (by omega) (by omega) (by omega) (by omega)]; exact b), if_neg (by omega)]
      · rw [if_neg (by rw [wl_3, w_le (by omega) (by omega) (by omega) (by omega)]; exact b), if_pos (by omega)]
theorem isSmith_r {F : Nat} {σ : Mem} {P A : Dat} {z : Int} (hA : RepA σ P A) (wP : WfP P) (h1 : -2147483648 ≤ z) (h2 : z ≤ 2147483647) : m12_isSmith F (w32 z) σ = some (if 0 ≤ z ∧ z < P 0 4 then (1 : Int32) else 0) := by
  have e : gI σ 493 3 = w32 (P 0 4) := hA.2.1 3 (by decide)
  obtain ⟨n, hn, hn3⟩ := wP.2.2.1
  unfold m12_isSmith
  rw [show (3 : Int32).toNatClampNeg = 3 from rfl, e, gd_pos (by decide)]
  by_cases a : z < 0
  · rw [if_pos (by rw [wl_0, w_lt (by omega) (by omega) (by omega) (by omega)]; exact a), if_neg (by omega)]
  · rw [if_neg (by rw [wl_0, w_lt (by omega) (by omega) (by omega) (by omega)]; exact a)]
    by_cases b : P 0 4 ≤ z
    · rw [if_pos (by rw [w_le (by omega) (by omega) (by omega) (by omega)]; exact b), if_neg (by omega)]
    · rw [if_neg (by rw [w_le (by omega) (by omega) (by omega) (by omega)]; exact b), if_pos (by omega)]
theorem isJob_r {F : Nat} {σ : Mem} {P A : Dat} {z : Int} (hA : RepA σ P A) (wP : WfP P) (h1 : -2147483648 ≤ z) (h2 : z ≤ 2147483647) : m12_isJob F (w32 z) σ = some (if 0 ≤ z ∧ z < P 0 5 then (1 : Int32) else 0) := by
  have e : gI σ 493 4 = w32 (P 0 5) := hA.2.1 4 (by decide)
  obtain ⟨n, hn, hn3⟩ := wP.2.1
  unfold m12_isJob
  rw [show (4 : Int32).toNatClampNeg = 4 from rfl, e, gd_pos (by decide)]
  by_cases a : z < 0
  · rw [if_pos (by rw [wl_0, w_lt (by omega) (by omega) (by omega) (by omega)]; exact a), if_neg (by omega)]
  · rw [if_neg (by rw [wl_0, w_lt (by omega) (by omega) (by omega) (by omega)]; exact a)]
    by_cases b : P 0 5 ≤ z
    · rw [if_pos (by rw [w_le (by omega) (by omega) (by omega) (by omega)]; exact b), if_neg (by omega)]
    · rw [if_neg (by rw [w_le (by omega) (by omega) (by omega) (by omega)]; exact b), if_pos (by omega)]
theorem isSmithy_r {F : Nat} {σ : Mem} {P A : Dat} (hA : RepA σ P A) (wPl : WfPl P) : m12_isSmithy F σ = some (if P 0 0 = 1 then (1 : Int32) else 0) := by
  have e : gI σ 493 0 = w32 (P 0 1) := hA.2.1 0 (by decide)
  have b := wPl.1.1 0 1
  have i := wPl.2.2.2.2.1
  unfold m12_isSmithy
  rw [gd_pos (by decide), show (0 : Int32).toNatClampNeg = 0 from rfl, e]
  by_cases a : P 0 1 ≤ 0
  · rw [if_pos (by rw [wl_0, w_le (by omega) (by omega) (by omega) (by omega)]; exact a), if_neg (by omega)]
  · rw [if_neg (by rw [wl_0, w_le (by omega) (by omega) (by omega) (by omega)]; exact a), if_pos (by omega)]
theorem w64_le {a b : Int} (h1 : -2147483648 ≤ a) (h2 : a ≤ 2147483647) (h3 : -2147483648 ≤ b) (h4 : b ≤ 2147483647) : ((w32 a).toInt64 ≤ Int64.ofInt b) = (a ≤ b) := by
  rw [w_long h1 h2, Int64.le_iff_toInt_le, Int64.toInt_ofInt_of_le (by omega) (by omega), Int64.toInt_ofInt_of_le (by omega) (by omega)]
theorem w64_ge {a b : Int} (h1 : -2147483648 ≤ a) (h2 : a ≤ 2147483647) (h3 : -2147483648 ≤ b) (h4 : b ≤ 2147483647) : (Int64.ofInt b ≤ (w32 a).toInt64) = (b ≤ a) := by
  rw [w_long h1 h2, Int64.le_iff_toInt_le, Int64.toInt_ofInt_of_le (by omega) (by omega), Int64.toInt_ofInt_of_le (by omega) (by omega)]
theorem in_r {F : Nat} {σ : Mem} {z lo hi : Int} {l h : Int64} (hl : l = Int64.ofInt lo) (hh : h = Int64.ofInt hi) (h1 : -2147483648 ≤ z) (h2 : z ≤ 2147483647) (h3 : -2147483648 ≤ lo ∧ lo ≤ 2147483647) (h4 : -2147483648 ≤ hi ∧ hi ≤ 2147483647) : m12_in F (w32 z).toInt64 l h σ = some (if lo ≤ z ∧ z ≤ hi then (1 : Int32) else 0) := by
  unfold m12_in
  simp only [lg_lt0, lg_0lt]
  rw [hl, hh]
  simp only [w64_ge h1 h2 h3.1 h3.2, w64_le h1 h2 h4.1 h4.2]
  by_cases a : lo ≤ z
  · rw [if_neg (by omega)]
    by_cases b : z ≤ hi
    · rw [if_neg (by omega), if_pos ⟨a, b⟩]
    · rw [if_pos b, if_neg (by omega)]
  · rw [if_pos a, if_neg (by omega)]
/-! the begin of a look ahead -/
theorem kd_prog : ∀ k, k < 6 → kd (151 + 6 * k) = 5 := by decide +kernel
theorem begin_c {F t : Nat} {S : Ab} {σ : Mem} (hC : CInv S σ) (wf : Wf t S) : ∃ p σ', m11_ruleInForce F σ = some p ∧ m2_plain F p σ = some σ' ∧ CInv S σ' ∧ RepC σ' Kp ∧ RepRo σ' (roOf S) ∧ Fr (fun c => c = 40 ∨ c = 1000) σ σ' := by
  have eF : gI σ 16 3 = w32 (wF (sW S)) := hC.1.2.2.2.1
  have eR : gI σ 0 4 = w32 (sRc S : Int) := hC.2.1.1
  obtain ⟨-, -, -, f1, f2, -, -⟩ := wf.1
  have rc6 := wf.2.1.1
  have pl : ∀ p : Nat, ∃ σ', m2_plain F p σ = some σ' ∧ RepC σ' Kp ∧ gR σ' = p ∧ Fr (fun c => c = 40 ∨ c = 1000) σ σ' := by
    intro p
    refine ⟨_, rfl, fun j hj => ?_, rfl, ?_⟩
    · rcases (show j = 2 ∨ j = 3 ∨ j = 4 ∨ j = 5 ∨ j = 6 by omega) with rfl | rfl | rfl | rfl | rfl
      · rw [gI_nej (by decide), gI_nej (by decide), gI_nej (by decide), gI_nej (by decide), gI_eq]; rfl
      · rw [gI_nej (by decide), gI_nej (by decide), gI_nej (by decide), gI_eq]; rfl
      · rw [gI_nej (by decide), gI_nej (by decide), gI_eq]; rfl
      · rw [gI_nej (by decide), gI_eq]; rfl
      · rw [gI_eq]; rfl
    · exact (((((((Fr.rf (fun c => c = 40 ∨ c = 1000) σ).sR (Or.inr rfl)).sI (Or.inl rfl)).sI (Or.inl rfl)).sI (Or.inl rfl)).sI (Or.inl rfl)).sI (Or.inl rfl))
  have eI : m11_ruleInForce F σ = some (if wF (sW S) < 0 then 0 else 151 + 6 * (wF (sW S)).toNat) := by
    unfold m11_ruleInForce
    rw [eF, eR]
    by_cases a : wF (sW S) < 0
    · rw [if_pos (by rw [wl_0, w_lt (by omega) (by omega) (by omega) (by omega)]; exact a), if_pos a]
    · rw [if_neg (by rw [wl_0, w_lt (by omega) (by omega) (by omega) (by omega)]; exact a), if_neg (by rw [w_le (by omega) (by omega) (by omega) (by omega)]; omega), gd_pos (w_inB (by omega) (by omega) (by omega)), w_nat (by omega) (by omega), if_neg a]
  obtain ⟨σ', m, k, r, f⟩ := pl (if wF (sW S) < 0 then 0 else 151 + 6 * (wF (sW S)).toNat)
  have hC' : CInv S σ' := hC.fr rc6 f (fun c h => by unfold Scr; omega)
  refine ⟨_, σ', eI, m, hC', k, ?_, f⟩
  unfold roOf
  by_cases a : wF (sW S) < 0
  · rw [if_pos a] at r ⊢
    exact r
  · rw [if_neg a] at r ⊢
    have hk : (wF (sW S)).toNat < sRc S := by omega
    refine ⟨?_, ?_, (wf.2.1.2 _ hk).1⟩
    · rw [r]; exact kd_prog _ (by omega)
    · rw [r]; exact hC'.2.1.2 _ hk
/-- the reference's side, at once -/
theorem RInv.E {t : Nat} {S : Ab} {σ : Mem} (hR : RInv S σ) (wf : Wf t S) : RE Kp (roOf S) (wP (sW S)) (wA (sW S)) σ := by
  obtain ⟨⟨a1, a2⟩, ⟨b1, b2, b3, b4, b5, b6, b7, b8⟩, ⟨c1, c2⟩, -⟩ := hR
  obtain ⟨-, w2, -, f1, f2, -, -⟩ := wf.1
  refine ⟨a1.A (by rw [b7, w2.2.1]), ⟨b3, b4, b5, b6, b8⟩, ?_⟩
  unfold roOf
  by_cases a : wF (sW S) < 0
  · rw [if_pos a]
    show gI σ 483 21 = w32 (-1)
    rw [b1, show wF (sW S) = -1 by omega]
  · rw [if_neg a]
    have hk : (wF (sW S)).toNat < sRc S := by omega
    exact ⟨(wF (sW S)).toNat, by have := wf.2.1.1; omega, by rw [b1]; congr 1; omega, c2 _ hk, (wf.2.1.2 _ hk).1, (wf.2.1.2 _ hk).2⟩
theorem RE.same {K : Nat → Int} {ro : Option Dat} {P A : Dat} {σ σ' : Mem} (h : RE K ro P A σ) (h1 : gI σ' 493 = gI σ 493) (h2 : ∀ j, 21 ≤ j → j ≤ 28 → gI σ' 483 j = gI σ 483 j) (h3 : gI σ' 485 = gI σ 485) (h4 : gI σ' 487 = gI σ 487) (h5 : gI σ' 488 = gI σ 488) : RE K ro P A σ' := by
  obtain ⟨a, ⟨b1, b2, b3, b4, b5⟩, c⟩ := h
  refine ⟨a.same h1 (h2 27 (by decide) (by decide)), ⟨by rw [h2 23 (by decide) (by decide)]; exact b1, by rw [h2 24 (by decide) (by decide)]; exact b2, by rw [h2 25 (by decide) (by decide)]; exact b3, by rw [h2 26 (by decide) (by decide)]; exact b4, by rw [h2 28 (by decide) (by decide)]; exact b5⟩, ?_⟩
  match ro, c with
  | none, c => exact (h2 21 (by decide) (by decide)).trans c
  | some R, ⟨rk, x, y, ⟨z1, z2, z3⟩, u, v⟩ =>
    exact ⟨rk, x, (h2 21 (by decide) (by decide)).trans y, ⟨by rw [h5]; exact z1, fun j hj => by rw [h3]; exact z2 j hj, fun i hi => by rw [h4]; exact z3 i hi⟩, u, v⟩
/-- the reference keeps what was said, and looks ahead -/
theorem keep_r {F t : Nat} {S : Ab} {σ : Mem} (hR : RInv S σ) (wf : Wf t S) (hF : 100 ≤ F) : ∃ σ', m12_keeps F σ = some σ' ∧ RE Kp (roOf S) (wP (sW S)) (wA (sW S)) σ' ∧ (∀ j, j < 98 → gI σ' 498 j = gI σ 493 j) ∧ Tl σ σ' ∧ Fr (fun c => c = 483 ∨ c = 498) σ σ' ∧ Sl (fun j => j = 27) σ σ' := by
  obtain ⟨σ', m, a, b, c⟩ := keeps_r (F := F) (σ := σ) hF
  have f := f12_keeps m
  have s := f12_keeps_s m
  refine ⟨σ', m, (hR.E wf).same a (fun j h1 h2 => ?_) (f.gI (by unfold Wm12_keeps; omega)) (f.gI (by unfold Wm12_keeps; omega)) (f.gI (by unfold Wm12_keeps; omega)), b, fun k _ => by rw [a], f.mono (fun c z => by unfold Wm12_keeps at z; omega), s.mono (fun c z => by unfold Vm12_keeps at z; omega)⟩
  by_cases h : j = 27
  · rw [h, c, hR.2.1.2.2.2.2.2.2.1]
  · exact s j (by unfold Vm12_keeps; omega)
/-- and lays it back: all is as before -/
theorem back_r {F t : Nat} {S : Ab} {σ0 σ : Mem} {W V : Nat → Prop} (hR : RInv S σ0) (wf : Wf t S) (hk : ∀ j, j < 98 → gI σ 498 j = gI σ0 493 j) (ht : Tl σ0 σ) (f : Fr W σ0 σ) (s : Sl V σ0 σ) (hW : ∀ c, W c → c = 483 ∨ (489 ≤ c ∧ c ≤ 496) ∨ (498 ≤ c ∧ c ≤ 505)) (hV : ∀ j, V j → j ≠ 1 ∧ j ≠ 2 ∧ (j < 21 ∨ j = 27 ∨ 28 < j) ∧ j ≠ 34) (hF : 100 ≤ F) : ∃ σ', m12_laysBack F σ = some σ' ∧ RInv S σ' ∧ gI σ' 493 = gI σ0 493 ∧ Fr (fun c => c = 483 ∨ (489 ≤ c ∧ c ≤ 496) ∨ (498 ≤ c ∧ c ≤ 505)) σ0 σ' ∧ (∀ c, c ≠ 483 → c ≠ 493 → gI σ' c = gI σ c) ∧ (∀ j, j ≠ 27 → gI σ' 483 j = gI σ 483 j) := by
  obtain ⟨σ', m, a, b, c⟩ := laysBack_r (F := F) (σ := σ) hF
  have f2 := f12_laysBack m
  have s2 := f12_laysBack_s m
  have e493 : ∀ k, gI σ' 493 k = gI σ0 493 k := fun k => by
    rw [a k]
    by_cases h : k < 98
    · rw [if_pos h]; exact hk k h
    · rw [if_neg h]; exact ht k (by omega)
  have sl : ∀ j, j = 1 ∨ j = 2 ∨ (21 ≤ j ∧ j ≤ 28) ∨ j = 34 → gI σ' 483 j = gI σ0 483 j := fun j hj => by
    by_cases h : j = 27
    · rw [h, c, hR.2.1.2.2.2.2.2.2.1]
    · rw [s2 j (by unfold Vm12_laysBack; omega), s j (fun z => by have := hV j z; omega)]
  have ff : Fr (fun c => c = 483 ∨ (489 ≤ c ∧ c ≤ 496) ∨ (498 ≤ c ∧ c ≤ 505)) σ0 σ' := (f.mono (fun c z => hW c z)).trans (f2.mono (fun c z => by unfold Wm12_laysBack at z; omega))
  obtain ⟨m5, hm, hm8⟩ := wf.1.1.1.2.1
  obtain ⟨n4, hn, hn3⟩ := wf.1.1.1.2.2.1
  refine ⟨σ', m, hR.same (by omega) (by omega) wf.1.2.2.1.2.1 (fun k _ => e493 k) sl (fun c hc => ff.gI (by omega)), funext e493, ff, fun c h1 h2 => f2.gI (by unfold Wm12_laysBack; omega), fun j hj => s2 j (by unfold Vm12_laysBack; omega)⟩
