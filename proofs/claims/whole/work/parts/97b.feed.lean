/-! ACT: feed -/
theorem byteV {y : Int32} : 0 ≤ (y &&& 255).toInt ∧ (y &&& 255).toInt ≤ 255 := by
  have h : (y &&& 255).toBitVec = y.toBitVec &&& 255#32 := rfl
  have hn : (y.toBitVec &&& 255#32).toNat ≤ 255 := by
    rw [BitVec.toNat_and]
    exact Nat.and_le_right
  have e : (y &&& 255).toInt = ((y.toBitVec &&& 255#32).toNat : Int) := by
    show (y &&& 255).toBitVec.toInt = _
    rw [h, BitVec.toInt_eq_toNat_of_lt (by omega)]
  omega
theorem byteS (y : Int32) : (y.toInt8.toInt32).toInt8 = y.toInt8 := by simp
theorem byteT {y z : Int32} (h : ∀ i, i < 8 → y.toBitVec.getLsbD i = z.toBitVec.getLsbD i) : y.toInt8 = z.toInt8 := by
  apply Int8.toBitVec_inj.mp
  show y.toBitVec.signExtend 8 = z.toBitVec.signExtend 8
  apply BitVec.eq_of_getLsbD_eq
  intro i hi
  rw [BitVec.getLsbD_signExtend, BitVec.getLsbD_signExtend]
  rw [if_pos (show i < 32 by omega), if_pos (show i < 32 by omega), h i hi]
theorem byteU {x sh : Int32} (hs : sh = 24 ∨ sh = 16 ∨ sh = 8 ∨ sh = 0) : ((x >>> (sh &&& (31 : Int32))).toInt8.toInt32).toInt8.toInt32 = (w32 (usI x sh &&& 255).toInt).toInt8.toInt32 := by
  rw [byteS, w_of]
  congr 1
  apply byteT
  intro i hi
  have e2 : ∀ y : Int32, (y &&& 255).toBitVec.getLsbD i = y.toBitVec.getLsbD i := by
    intro y
    have h : (y &&& 255).toBitVec = y.toBitVec &&& 255#32 := rfl
    rw [h, BitVec.getLsbD_and]
    rcases (show i = 0 ∨ i = 1 ∨ i = 2 ∨ i = 3 ∨ i = 4 ∨ i = 5 ∨ i = 6 ∨ i = 7 by omega) with rfl | rfl | rfl | rfl | rfl | rfl | rfl | rfl <;> exact Bool.and_true _
  rw [e2]
  have e3 : ∀ n : Nat, n ≤ 24 → (x.toBitVec.sshiftRight n).getLsbD i = (x.toBitVec >>> n).getLsbD i := by
    intro n hn
    rw [BitVec.getLsbD_sshiftRight, BitVec.getLsbD_ushiftRight]
    simp only [show ¬ 32 ≤ i by omega, decide_false, Bool.not_false, Bool.true_and, show n + i < 32 by omega, if_true]
  rcases hs with rfl | rfl | rfl | rfl
  · exact e3 24 (by decide)
  · exact e3 16 (by decide)
  · exact e3 8 (by decide)
  · exact e3 0 (by decide)
def TPc (l : Nat) (b : Nat → Int) (σ : Mem) : Prop := gI σ 1 1 = w32 (l : Int) ∧ ∀ i, i < l → gI σ 2 i = w32 (b i)
def TPr (l : Nat) (b : Nat → Int) (σ : Mem) : Prop := gI σ 483 1 = w32 (l : Int) ∧ ∀ i, i < l → gI σ 484 i = (w32 (b i)).toInt8.toInt32
def bV (x sh : Int32) : Int := (usI x sh &&& 255).toInt
def pb (b : Nat → Int) (l : Nat) (v : Int) : Nat → Int := fun i => if i = l then v else b i
def pw (b : Nat → Int) (l : Nat) (x : Int32) : Nat → Int := pb (pb (pb (pb b l (bV x 24)) (l + 1) (bV x 16)) (l + 2) (bV x 8)) (l + 3) (bV x 0)
theorem add1_c {F n l : Nat} {x sh : Int32} {b : Nat → Int} {σ : Mem} (h : TPc l b σ) (hl : l < 400) (hs : ¬ sh < 0) : ∃ σ', m8_add_3 F x (n + 1) sh σ = m8_add_3 F x n (sh + (-8 : Int32)) σ' ∧ TPc (l + 1) (pb b l (bV x sh)) σ' := by
  obtain ⟨h1, h2⟩ := h
  refine ⟨sI (sI σ 2 l (usI x sh &&& 255)) 1 1 (w32 ((l + 1 : Nat) : Int)), ?_, ?_, fun i hi => ?_⟩
  · rw [m8_add_3, if_neg hs, h1, if_neg (by rw [wl_400, w_le (by omega) (by omega) (by omega) (by omega)]; omega), gd_pos (w_inB (by omega) (by omega) (by omega)), w_natk (by omega)]
    show m8_add_3 F x n _ (sI (sI σ 2 l (usI x sh &&& 255)) 1 1 (gI (sI σ 2 l (usI x sh &&& 255)) 1 1 + (1 : Int32))) = _
    rw [gI_nec (by decide), h1, w_succ]
  · rw [gI_eq]
  · rw [gI_nec (by decide)]
    unfold pb
    by_cases e : i = l
    · rw [if_pos e, e, gI_eq]
      unfold bV
      rw [w_of]
    · rw [if_neg e, gI_nej e]; exact h2 i (by omega)
theorem add_c {F l : Nat} {x : Int32} {b : Nat → Int} {σ : Mem} (h : TPc l b σ) (hl : l + 4 ≤ 400) (hF : 100 ≤ F) : ∃ σ', m8_add F x σ = some σ' ∧ TPc (l + 4) (pw b l x) σ' := by
  obtain ⟨n, rfl⟩ : ∃ n, F = n + 5 := ⟨F - 5, by omega⟩
  obtain ⟨σ1, m1, t1⟩ := add1_c (F := n + 5) (n := n + 4) (x := x) (sh := 24) h (by omega) (by decide)
  obtain ⟨σ2, m2, t2⟩ := add1_c (F := n + 5) (n := n + 3) (x := x) (sh := 16) t1 (by omega) (by decide)
  obtain ⟨σ3, m3, t3⟩ := add1_c (F := n + 5) (n := n + 2) (x := x) (sh := 8) t2 (by omega) (by decide)
  obtain ⟨σ4, m4, t4⟩ := add1_c (F := n + 5) (n := n + 1) (x := x) (sh := 0) t3 (by omega) (by decide)
  refine ⟨σ4, ?_, t4⟩
  show m8_add_3 (n + 5) x (n + 5) 24 σ = some σ4
  refine m1.trans (Eq.trans ?_ (m2.trans (Eq.trans ?_ (m3.trans (Eq.trans ?_ (m4.trans ?_))))))
  · rfl
  · rfl
  · rfl
  · rw [show (0 : Int32) + (-8 : Int32) = -8 from rfl, m8_add_3, if_pos (by decide)]
theorem four1_r {F n l : Nat} {x sh : Int32} {b : Nat → Int} {σ : Mem} (h : TPr l b σ) (hl : l < 400) (hs : ¬ sh < 0) (hsh : sh = 24 ∨ sh = 16 ∨ sh = 8 ∨ sh = 0) : ∃ σ', m12_four_3 F x (n + 1) sh σ = m12_four_3 F x n (sh + (-8 : Int32)) σ' ∧ TPr (l + 1) (pb b l (bV x sh)) σ' := by
  obtain ⟨h1, h2⟩ := h
  refine ⟨sI (sI σ 484 l ((((x >>> (sh &&& (31 : Int32)))).toInt8.toInt32).toInt8.toInt32)) 483 1 (w32 ((l + 1 : Nat) : Int)), ?_, ?_, fun i hi => ?_⟩
  · rw [m12_four_3, if_neg hs, h1, gd_pos (w_inB (by omega) (by omega) (by omega)), w_natk (by omega)]
    show m12_four_3 F x n _ (sI (sI σ 484 l ((((x >>> (sh &&& (31 : Int32)))).toInt8.toInt32).toInt8.toInt32)) 483 1 (gI (sI σ 484 l ((((x >>> (sh &&& (31 : Int32)))).toInt8.toInt32).toInt8.toInt32)) 483 1 + (1 : Int32))) = _
    rw [gI_nec (by decide), h1, w_succ]
  · rw [gI_eq]
  · rw [gI_nec (by decide)]
    unfold pb
    by_cases e : i = l
    · rw [if_pos e, e, gI_eq]
      exact byteU hsh
    · rw [if_neg e, gI_nej e]; exact h2 i (by omega)
theorem four_r {F l : Nat} {x : Int32} {b : Nat → Int} {σ : Mem} (h : TPr l b σ) (hl : l + 4 ≤ 400) (hF : 100 ≤ F) : ∃ σ', m12_four F x σ = some σ' ∧ TPr (l + 4) (pw b l x) σ' := by
  obtain ⟨n, rfl⟩ : ∃ n, F = n + 5 := ⟨F - 5, by omega⟩
  obtain ⟨σ1, m1, t1⟩ := four1_r (F := n + 5) (n := n + 4) (x := x) (sh := 24) h (by omega) (by decide) (by decide)
  obtain ⟨σ2, m2, t2⟩ := four1_r (F := n + 5) (n := n + 3) (x := x) (sh := 16) t1 (by omega) (by decide) (by decide)
  obtain ⟨σ3, m3, t3⟩ := four1_r (F := n + 5) (n := n + 2) (x := x) (sh := 8) t2 (by omega) (by decide) (by decide)
  obtain ⟨σ4, m4, t4⟩ := four1_r (F := n + 5) (n := n + 1) (x := x) (sh := 0) t3 (by omega) (by decide) (by decide)
  refine ⟨σ4, ?_, t4⟩
  show m12_four_3 (n + 5) x (n + 5) 24 σ = some σ4
  refine m1.trans (Eq.trans ?_ (m2.trans (Eq.trans ?_ (m3.trans (Eq.trans ?_ (m4.trans ?_))))))
  · rfl
  · rfl
  · rfl
  · rw [show (0 : Int32) + (-8 : Int32) = -8 from rfl, m12_four_3, if_pos (by decide)]
def BOK (l : Nat) (b : Nat → Int) : Prop := ∀ i, i < l → 0 ≤ b i ∧ b i ≤ 255
theorem BOK.pb {l : Nat} {b : Nat → Int} {x sh : Int32} (h : BOK l b) : BOK (l + 1) (pb b l (bV x sh)) := fun i hi => by
  have v := byteV (y := usI x sh)
  show 0 ≤ (if i = l then bV x sh else b i) ∧ (if i = l then bV x sh else b i) ≤ 255
  by_cases e : i = l
  · rw [if_pos e]; exact v
  · rw [if_neg e]; exact h i (by omega)
theorem BOK.pw {l : Nat} {b : Nat → Int} {x : Int32} (h : BOK l b) : BOK (l + 4) (pw b l x) := BOK.pb (BOK.pb (BOK.pb (BOK.pb h)))
theorem feed_q {F t : Nat} {S : Ab} {σ : Mem} (hC : CInv S σ) (hR : RInv S σ) (wfx : Wfx t S) (hF : 10000 ≤ F) (a b c d e : Int32) : Acts t (m11_feed F a b c d e σ) (m12_feed F a b c d e) := by
  have wf := wfx.1
  have rc6 := wf.2.1.1
  have l4 := wf.2.2.1.1
  have e1 : gI σ 1 1 = w32 (sLen S : Int) := hC.2.2.1.1
  have r1 : ∀ σ1, RInv S σ1 → gI σ1 483 1 = w32 (sLen S : Int) := fun σ1 h => h.2.2.2.1.1
  have e20 : w32 (sLen S : Int) + (20 : Int32) = w32 ((sLen S + 20 : Nat) : Int) := by rw [wl_20, w_add]; congr 1
  by_cases hl : sLen S + 20 ≤ 400
  · obtain ⟨σ1, m1, t1⟩ := add_c (F := F) (x := a) (show TPc (sLen S) (sB S) σ from hC.2.2.1) (by omega) (by omega)
    obtain ⟨σ2, m2, t2⟩ := add_c (F := F) (x := b) t1 (by omega) (by omega)
    obtain ⟨σ3, m3, t3⟩ := add_c (F := F) (x := c) t2 (by omega) (by omega)
    obtain ⟨σ4, m4, t4⟩ := add_c (F := F) (x := d) t3 (by omega) (by omega)
    obtain ⟨σ5, m5, t5⟩ := add_c (F := F) (x := e) t4 (by omega) (by omega)
    have mm : m11_feed F a b c d e σ = some (w32 ((sLen S + 20 : Nat) : Int), σ5) := by
      unfold m11_feed
      rw [e1, e20, if_pos (by rw [wl_400, w_le (by omega) (by omega) (by omega) (by omega)]; omega), m1, Option.bind_some, m2, Option.bind_some, m3, Option.bind_some, m4, Option.bind_some, m5, Option.bind_some, t5.1]
    have f1 := f11_feed mm
    have hR1 := hR.cls wf f1 (fun c z => by unfold Wm11_feed at z; omega)
    obtain ⟨τ1, n1, u1⟩ := four_r (F := F) (x := a) (show TPr (sLen S) (sB S) σ5 from hR1.2.2.2.1) (by omega) (by omega)
    obtain ⟨τ2, n2, u2⟩ := four_r (F := F) (x := b) u1 (by omega) (by omega)
    obtain ⟨τ3, n3, u3⟩ := four_r (F := F) (x := c) u2 (by omega) (by omega)
    obtain ⟨τ4, n4, u4⟩ := four_r (F := F) (x := d) u3 (by omega) (by omega)
    obtain ⟨τ5, n5, u5⟩ := four_r (F := F) (x := e) u4 (by omega) (by omega)
    have nn : m12_feed F a b c d e σ5 = some (w32 ((sLen S + 20 : Nat) : Int), τ5) := by
      unfold m12_feed
      rw [r1 σ5 hR1, e20, if_pos (by rw [wl_400, w_le (by omega) (by omega) (by omega) (by omega)]; omega), n1, Option.bind_some, n2, Option.bind_some, n3, Option.bind_some, n4, Option.bind_some, n5, Option.bind_some, u5.1]
    have f2 := f12_feed nn
    have s2 := f12_feed_s nn
    have hb : BOK (sLen S) (sB S) := wf.2.2.1.2
    have hb5 := ((((hb.pw (x := a)).pw (x := b)).pw (x := c)).pw (x := d)).pw (x := e)
    have hC1 := hC.T rc6 f1 (fun c z => by unfold Wm11_feed at z; omega) t5.1 t5.2
    refine ⟨stT S (sLen S + 4 + 4 + 4 + 4 + 4) (pw (pw (pw (pw (pw (sB S) (sLen S) a) (sLen S + 4) b) (sLen S + 4 + 4) c) (sLen S + 4 + 4 + 4) d) (sLen S + 4 + 4 + 4 + 4) e), ⟨⟨wf.1, wf.2.1, ⟨by show sLen S + 4 + 4 + 4 + 4 + 4 ≤ 400; omega, hb5⟩, wf.2.2.2⟩, wfx.2⟩, _, _, _, mm, nn, hC1.fr rc6 f2 (fun c z => by unfold Wm12_feed at z; unfold Scr; omega), ?_⟩
    exact hR1.T f2 (fun c z => by unfold Wm12_feed at z; omega) (fun j hj => s2 j (by unfold Vm12_feed; omega)) u5.1 u5.2
  · refine ⟨S, wfx, -1, σ, σ, ?_, ?_, hC, hR⟩
    · unfold m11_feed
      rw [e1, e20, if_neg (by rw [wl_400, w_le (by omega) (by omega) (by omega) (by omega)]; omega)]
    · unfold m12_feed
      rw [r1 σ hR, e20, if_neg (by rw [wl_400, w_le (by omega) (by omega) (by omega) (by omega)]; omega)]
