/-! QUERIES: ruled, look, 3: the reference gathers -/
def Wga (c : Nat) : Prop := c = 483 ∨ (491 ≤ c ∧ c ≤ 496) ∨ c = 498 ∨ c = 504 ∨ c = 505
def Vga (j : Nat) : Prop := j = 18 ∨ j = 21 ∨ j = 27 ∨ j = 32
theorem itA_0 {P : Dat} {ro : Option Dat} : ∀ (m : Nat), m ≤ 9999 → itA P Kp ro m (bgn P) 0 0 = (m : Int)
  | 0, _ => bgn_0
  | m + 1, h => by
    rw [itA_succ, passA_0, itA_0 m (by omega)]
    omega
theorem fitL_succ {P N : Dat} {ro : Option Dat} {m : Nat} : fitL P N ro (m + 1) 0 (bgn P) = (fitL P N ro m 0 (bgn P) && agN N (itA P Kp ro m (bgn P)) m) := by
  rw [fitL_add m 1 0, Nat.zero_add]
  congr 1
  show (agN N _ m && true) = _
  rw [Bool.and_true]
def b01 (b : Bool) : Int32 := if b = true then 1 else 0
/-- what the reference has gathered of the first k -/
def Gk (S : Ab) (n k : Nat) (τ : Mem) : Prop := ∀ i, i < k → gI τ 504 i = b01 (fitB (wP (sW S)) (wN (sW S)) (roK S i)) ∧ ∀ q, q < 3 → gI τ 505 (3 * i + q) = w32 (Wn (wP (sW S)) (roK S i) n q)
def GS (S : Ab) (n k m : Nat) (σ0 τ : Mem) : Prop := RE Kp (roK S k) (wP (sW S)) (itA (wP (sW S)) Kp (roK S k) m (bgn (wP (sW S)))) τ ∧ (∀ j, j < 98 → gI τ 498 j = gI σ0 493 j) ∧ Tl σ0 τ ∧ Gk S n k τ ∧ gI τ 504 k = b01 (fitL (wP (sW S)) (wN (sW S)) (roK S k) m 0 (bgn (wP (sW S)))) ∧ (n < m → ∀ q, q < 3 → gI τ 505 (3 * k + q) = w32 (Wn (wP (sW S)) (roK S k) n q)) ∧ Fr Wga σ0 τ ∧ Sl Vga σ0 τ
theorem ga77 {F n k m : Nat} {x2 : Int32} {k40 : Int32 → Int32 → Int32 → Mem → Option Mem} (hn : n ≤ 99) (hk : k ≤ 6) (hm : m ≤ 99) : ∀ (d n' q : Nat) (τ : Mem), q + d = 3 → d < n' → ∃ τ', m12_gathersRules_77 F (w32 (n : Int)) k40 n' x2 (w32 (k : Int)) (w32 (m : Int)) (w32 (q : Int)) τ = (Option.bind (m12_passes F τ') fun p1 => k40 x2 (w32 (k : Int)) (w32 ((m + 1 : Nat) : Int)) p1.2) ∧ Fr (fun c => c = 505) τ τ' ∧ (m = n → ∀ p, q ≤ p → p < 3 → gI τ' 505 (3 * k + p) = gI τ 493 (95 + p)) ∧ (∀ j, (m ≠ n ∨ j < 3 * k + q ∨ 3 * k + 3 ≤ j) → gI τ' 505 j = gI τ 505 j) := by
  intro d
  induction d with
  | zero =>
    intro n' q τ h1 h2
    obtain ⟨n', rfl⟩ : ∃ z, n' = z + 1 := ⟨n' - 1, by omega⟩
    unfold m12_gathersRules_77 m12_gathersRules_116
    rw [if_pos (by rw [wl_3, w_le (by omega) (by omega) (by omega) (by omega)]; omega), w_succ]
    exact ⟨τ, rfl, Fr.rf _ τ, fun _ p a b => by omega, fun _ _ => rfl⟩
  | succ d ih =>
    intro n' q τ h1 h2
    obtain ⟨n', rfl⟩ : ∃ z, n' = z + 1 := ⟨n' - 1, by omega⟩
    unfold m12_gathersRules_77
    rw [if_neg (by rw [wl_3, w_le (by omega) (by omega) (by omega) (by omega)]; omega)]
    by_cases zn : m = n
    · have i5 : w32 95 + w32 (q : Int) = w32 ((95 + q : Nat) : Int) := by rw [w_add]; congr 1
      have i3 : w32 3 * w32 (k : Int) + w32 (q : Int) = w32 ((3 * k + q : Nat) : Int) := by rw [w_mul, w_add]; congr 1 <;> omega
      rw [if_pos (by rw [zn]), wl_95, wl_3, i5, i3, gd_pos (w_inB (by omega) (by omega) (by omega)), gd_pos (w_inB (by omega) (by omega) (by omega)), w_natk (by omega), w_natk (by omega), w_succ]
      obtain ⟨τ', e, f, a, b⟩ := ih n' (q + 1) (sI τ 505 (3 * k + q) (gI τ 493 (95 + q))) (by omega) (by omega)
      refine ⟨τ', e, ((Fr.rf (fun c => c = 505) τ).sI rfl).trans f, fun _ p h1 h2 => ?_, fun j hj => ?_⟩
      · by_cases z : p = q
        · rw [z, b _ (by omega), gI_eq]
        · rw [a zn p (by omega) h2, gI_nec (by decide)]
      · rw [b j (by omega), gI_nej (by omega)]
    · unfold m12_gathersRules_116
      rw [if_neg (by rw [w_eq (by omega) (by omega) (by omega) (by omega)]; omega), w_succ]
      exact ⟨τ, rfl, Fr.rf _ τ, fun z => absurd z zn, fun _ _ => rfl⟩
theorem RE.fr {K : Nat → Int} {ro : Option Dat} {P A : Dat} {σ σ' : Mem} (h : RE K ro P A σ) (f : Fr (fun c => c = 504 ∨ c = 505) σ σ') : RE K ro P A σ' := h.same (f.gI (by decide)) (fun j _ _ => by rw [f.gI (by decide)]) (f.gI (by decide)) (f.gI (by decide)) (f.gI (by decide))
theorem ga40 {F n k t : Nat} {S : Ab} {σ0 : Mem} {x2 : Int32} {k11 : Int32 → Int32 → Mem → Option Mem} (wf : Wf t S) (hR : RInv S σ0) (hn : n ≤ 99) (hk : k ≤ sRc S) (hF : 10000 ≤ F) : ∀ (d n' m : Nat) (τ : Mem), m + d = 100 → d < n' → GS S n k m σ0 τ → ∃ τ', m12_gathersRules_40 F (w32 (n : Int)) k11 n' x2 (w32 (k : Int)) (w32 (m : Int)) τ = (Option.bind (m12_laysBack F τ') fun p1 => k11 x2 (w32 ((k + 1 : Nat) : Int)) p1) ∧ GS S n k 100 σ0 τ' := by
  have wPl := wf.1.1
  have wNo := wf.1.2.2.1
  have rc6 := wf.2.1.1
  intro d
  induction d with
  | zero =>
    intro n' m τ h1 h2 hG
    obtain ⟨n', rfl⟩ : ∃ z, n' = z + 1 := ⟨n' - 1, by omega⟩
    have em : m = 100 := by omega
    subst em
    unfold m12_gathersRules_40
    rw [if_pos (by decide), w_succ]
    exact ⟨τ, rfl, hG⟩
  | succ d ih =>
    intro n' m τ h1 h2 hG
    obtain ⟨n', rfl⟩ : ∃ z, n' = z + 1 := ⟨n' - 1, by omega⟩
    obtain ⟨g1, g2, g3, g4, g5, g6, g7, g8⟩ := hG
    have wI := itA_wf (ro := roK S k) wPl Kp2 m (bgn (wP (sW S))) 0 (bgn_wf wPl).1
    have h0 := itA_0 (P := wP (sW S)) (ro := roK S k) m (by omega)
    have hNo : NoteR (gI τ 493) (wN (sW S)) := by
      obtain ⟨a1, a2⟩ := hR.1.2
      refine ⟨by rw [g3 131 (by decide)]; exact a1, fun i hi => ?_⟩
      rw [g3 _ (by omega), g3 _ (by omega), g3 _ (by omega)]
      exact a2 i hi
    have hag := notesSo_r (F := F) hNo g1.1 h0 wNo ((wI.bd (by omega)).mono (by decide)) (by omega) (by omega)
    -- behind the marking
    have rest : ∀ v : Int32, v = b01 (fitL (wP (sW S)) (wN (sW S)) (roK S k) (m + 1) 0 (bgn (wP (sW S)))) → ∃ τ', m12_gathersRules_77 F (w32 (n : Int)) (fun x2 x3 x4 σ => m12_gathersRules_40 F (w32 (n : Int)) k11 n' x2 x3 x4 σ) F x2 (w32 (k : Int)) (w32 (m : Int)) (0 : Int32) (sI τ 504 k v) = (Option.bind (m12_laysBack F τ') fun p1 => k11 x2 (w32 ((k + 1 : Nat) : Int)) p1) ∧ GS S n k 100 σ0 τ' := by
      intro v hv
      obtain ⟨τ2, e2, f2, a2, b2⟩ := ga77 (F := F) (x2 := x2) (k40 := fun x2 x3 x4 σ => m12_gathersRules_40 F (w32 (n : Int)) k11 n' x2 x3 x4 σ) hn (show k ≤ 6 by omega) (show m ≤ 99 by omega) 3 F 0 (sI τ 504 k v) (by decide) (by omega)
      have e2 : m12_gathersRules_77 F (w32 (n : Int)) (fun x2 x3 x4 σ => m12_gathersRules_40 F (w32 (n : Int)) k11 n' x2 x3 x4 σ) F x2 (w32 (k : Int)) (w32 (m : Int)) (0 : Int32) (sI τ 504 k v) = _ := e2
      have ff : Fr (fun c => c = 504 ∨ c = 505) τ τ2 := ((Fr.rf _ τ).sI (Or.inl rfl)).trans (f2.mono (fun c z => Or.inr z))
      obtain ⟨τ3, m3, r3, -, -, t3, f3, s3⟩ := re_step (F := F) (g1.fr ff) wPl wI (by omega) Kp_bd Kp2 (by decide) rfl (by omega)
      rw [← itA_succ] at r3
      rw [e2, m3, Option.bind_some]
      have c504 : ∀ i, gI τ3 504 i = gI (sI τ 504 k v) 504 i := fun i => by rw [f3.gI (by decide), f2.gI (by decide)]
      have c505 : ∀ j, gI τ3 505 j = gI τ2 505 j := fun j => by rw [f3.gI (by decide)]
      refine ih n' (m + 1) τ3 (by omega) (by omega) ⟨r3, fun j hj => ?_, ?_, fun i hi => ⟨?_, fun q hq => ?_⟩, ?_, fun hnm q hq => ?_, ?_, ?_⟩
      · rw [f3.gI (by decide), ff.gI (by decide)]; exact g2 j hj
      · exact (g3.trans (fun j hj => by rw [ff.gI (by decide)])).trans t3
      · rw [c504, gI_nej (by omega)]; exact (g4 i hi).1
      · rw [c505, b2 _ (by omega), gI_nec (by decide)]; exact (g4 i hi).2 q hq
      · rw [c504, gI_eq]; exact hv
      · rw [c505]
        by_cases zn : m = n
        · rw [a2 zn q (Nat.zero_le _) hq, gI_nec (by decide)]
          have := g1.1.1 9 q (by decide) hq
          rw [zn] at this
          exact this
        · rw [b2 _ (Or.inl zn), gI_nec (by decide)]; exact g6 (by omega) q hq
      · exact (g7.trans (ff.mono (fun c z => by unfold Wga; omega))).trans (f3.mono (fun c z => by unfold Wga; omega))
      · exact (g8.trans (fun j hj => by rw [ff.gI (by decide)])).trans (s3.mono (fun j z => by unfold Vga; omega))
    unfold m12_gathersRules_40
    rw [if_neg (by rw [wl_100, w_le (by omega) (by omega) (by omega) (by omega)]; omega), gd_pos (w_inB (by omega) (by omega) (by omega)), w_natk (by omega), g5, gd_pos (w_inB (by omega) (by omega) (by omega))]
    have fs := fitL_succ (P := wP (sW S)) (N := wN (sW S)) (ro := roK S k) (m := m)
    by_cases z1 : fitL (wP (sW S)) (wN (sW S)) (roK S k) m 0 (bgn (wP (sW S))) = true
    · rw [z1, if_neg (show ¬ b01 true = 0 by decide), hag, Option.bind_some]
      by_cases z2 : agN (wN (sW S)) (itA (wP (sW S)) Kp (roK S k) m (bgn (wP (sW S)))) m = true
      · rw [if_pos z2, if_neg (by decide), gd_pos (w_inB (by omega) (by omega) (by omega))]
        exact rest _ (by rw [fs, z1, z2]; decide)
      · rw [if_neg z2, if_pos rfl]
        exact rest _ (by rw [fs, z1, show agN (wN (sW S)) (itA (wP (sW S)) Kp (roK S k) m (bgn (wP (sW S)))) m = false by simpa using z2]; decide)
    · have z1' : fitL (wP (sW S)) (wN (sW S)) (roK S k) m 0 (bgn (wP (sW S))) = false := by simpa using z1
      rw [z1', if_pos (show b01 false = 0 by decide)]
      exact rest _ (by rw [fs, z1', Bool.false_and]; decide)
theorem roK_Fo {t : Nat} {S : Ab} {σ0 τ : Mem} {k : Nat} (hR : RInv S σ0) (wf : Wf t S) (hk : k ≤ sRc S) (f : Fr Wga σ0 τ) (h21 : gI τ 483 21 = w32 ((k : Int) - 1)) : RepFo τ (roK S k) := by
  have rc6 := wf.2.1.1
  unfold roK
  by_cases z : k = 0
  · rw [if_pos z]
    show gI τ 483 21 = w32 (-1)
    rw [h21, z]; rfl
  · rw [if_neg z]
    obtain ⟨c1, c2, c3⟩ := hR.2.2.1.2 (k - 1) (by omega)
    refine ⟨k - 1, by omega, by rw [h21]; congr 1; omega, ⟨by rw [f.gI (by unfold Wga; omega)]; exact c1, fun j hj => by rw [f.gI (by unfold Wga; omega)]; exact c2 j hj, fun i hi => ?_⟩, (wf.2.1.2 _ (by omega)).1, (wf.2.1.2 _ (by omega)).2⟩
    rw [f.gI (by unfold Wga; omega)]
    exact c3 i hi
theorem ga11 {F n t : Nat} {S : Ab} {σ0 : Mem} (wf : Wf t S) (hR : RInv S σ0) (hn : n ≤ 99) (hF : 10000 ≤ F) : ∀ (d n' k : Nat) (τ : Mem), k + d = sRc S + 1 → d < n' → (∀ j, gI τ 493 j = gI σ0 493 j) → (∀ j, j < 98 → gI τ 498 j = gI σ0 493 j) → gI τ 483 27 = w32 0 → Gk S n k τ → Fr Wga σ0 τ → Sl Vga σ0 τ →
    ∃ τ', m12_gathersRules_11 F (w32 (n : Int)) n' (w32 (wF (sW S))) (w32 (k : Int)) τ = some τ' ∧ (∀ j, gI τ' 493 j = gI σ0 493 j) ∧ gI τ' 483 27 = w32 0 ∧ gI τ' 483 21 = w32 (wF (sW S)) ∧ Gk S n (sRc S + 1) τ' ∧ Fr Wga σ0 τ' ∧ Sl Vga σ0 τ' := by
  have wPl := wf.1.1
  have rc6 := wf.2.1.1
  intro d
  induction d with
  | zero =>
    intro n' k τ h1 h2 a b c g f s
    obtain ⟨n', rfl⟩ : ∃ z, n' = z + 1 := ⟨n' - 1, by omega⟩
    have e2 : gI τ 483 2 = w32 (sRc S : Int) := by rw [s 2 (by unfold Vga; omega)]; exact hR.2.2.1.1
    have ek : k = sRc S + 1 := by omega
    unfold m12_gathersRules_11
    rw [e2, if_pos (by rw [w_lt (by omega) (by omega) (by omega) (by omega)]; omega)]
    refine ⟨_, rfl, fun j => by rw [gI_nec (by decide)]; exact a j, by rw [gI_nej (by decide)]; exact c, gI_eq .., fun i hi => ?_, f.sI (Or.inl rfl), s.at (by unfold Vga; omega)⟩
    rw [gI_nec (by decide)]
    refine ⟨(g i (by omega)).1, fun q hq => ?_⟩
    rw [gI_nec (by decide)]
    exact (g i (by omega)).2 q hq
  | succ d ih =>
    intro n' k τ h1 h2 a b c g f s
    obtain ⟨n', rfl⟩ : ∃ z, n' = z + 1 := ⟨n' - 1, by omega⟩
    have e2 : gI τ 483 2 = w32 (sRc S : Int) := by rw [s 2 (by unfold Vga; omega)]; exact hR.2.2.1.1
    unfold m12_gathersRules_11
    rw [e2, if_neg (by rw [w_lt (by omega) (by omega) (by omega) (by omega)]; omega), show w32 (k : Int) - (1 : Int32) = w32 ((k : Int) - 1) by rw [wl_1, w_sub]]
    dsimp only
    have f1 : Fr Wga σ0 (sI τ 483 21 (w32 ((k : Int) - 1))) := f.sI (Or.inl rfl)
    have s1 : Sl Vga σ0 (sI τ 483 21 (w32 ((k : Int) - 1))) := s.at (by unfold Vga; omega)
    have hA0 : RepA (sI τ 483 21 (w32 ((k : Int) - 1))) (wP (sW S)) (wA (sW S)) := by
      have : SaidR (gI (sI τ 483 21 (w32 ((k : Int) - 1))) 493) (wP (sW S)) (wA (sW S)) := by
        rw [gI_ne _ _ _ (by decide), show gI τ 493 = gI σ0 493 from funext a]; exact hR.1.1
      exact this.A (by rw [gI_nej (by decide), c, wf.1.2.1.2.1])
    obtain ⟨τ2, m2, r2, t2⟩ := begins_r (F := F) wPl hA0 (by rw [gI_nej (by decide)]; exact c) (by omega)
    have g2 := f12_begins m2
    have s2 := f12_begins_s m2
    have f2 : Fr Wga σ0 τ2 := f1.trans (g2.mono (fun c z => by unfold Wm12_begins at z; unfold Wga; omega))
    have s2' : Sl Vga σ0 τ2 := s1.trans (s2.mono (fun j z => by unfold Vm12_begins at z; exact z.elim))
    have h21 : gI τ2 483 21 = w32 ((k : Int) - 1) := by rw [s2 21 (fun z => by unfold Vm12_begins at z; exact z), gI_eq]
    rw [m2, Option.bind_some, gd_pos (w_inB (by omega) (by omega) (by omega)), w_natk (by omega)]
    have GG : GS S n k 0 σ0 (sI τ2 504 k ((1 : Int32) &&& 1)) := by
      have c498 : ∀ j, gI τ2 498 j = gI τ 498 j := fun j => by rw [g2.gI (by unfold Wm12_begins; omega), gI_nec (by decide)]
      have FF : Fr (fun c => c = 504 ∨ c = 505) τ2 (sI τ2 504 k ((1 : Int32) &&& 1)) := (Fr.rf _ τ2).sI (Or.inl rfl)
      have hRE : RE Kp (roK S k) (wP (sW S)) (bgn (wP (sW S))) τ2 := by
        refine ⟨r2, ?_, roK_Fo hR wf (by omega) f2 h21⟩
        obtain ⟨-, ⟨b1, b2, b3, b4, b5, b6, b7, b8⟩, -⟩ := hR
        refine ⟨?_, ?_, ?_, ?_, ?_⟩
        · rw [s2' 23 (by unfold Vga; omega)]; exact b3
        · rw [s2' 24 (by unfold Vga; omega)]; exact b4
        · rw [s2' 25 (by unfold Vga; omega)]; exact b5
        · rw [s2' 26 (by unfold Vga; omega)]; exact b6
        · rw [s2' 28 (by unfold Vga; omega)]; exact b8
      refine ⟨hRE.fr FF, fun j hj => ?_, fun j hj => ?_, fun i hi => ⟨?_, fun q hq => ?_⟩, ?_, fun z => absurd z (Nat.not_lt_zero n), f2.sI (by unfold Wga; omega), s2'.ne (by decide)⟩
      · rw [gI_nec (by decide), c498]; exact b j hj
      · rw [gI_nec (by decide), t2 j hj, gI_nec (by decide)]; exact a j
      · rw [gI_nej (by omega), g2.gI (by unfold Wm12_begins; omega), gI_nec (by decide)]; exact (g i hi).1
      · rw [gI_nec (by decide), g2.gI (by unfold Wm12_begins; omega), gI_nec (by decide)]; exact (g i hi).2 q hq
      · rw [gI_eq]; rfl
    obtain ⟨τ3, m3, G3⟩ := ga40 (F := F) (x2 := w32 (wF (sW S))) (k11 := fun x2 x3 σ => m12_gathersRules_11 F (w32 (n : Int)) n' x2 x3 σ) wf hR hn (by omega) hF 100 F 0 _ (by decide) (by omega) GG
    have m3 : m12_gathersRules_40 F (w32 (n : Int)) (fun x2 x3 σ => m12_gathersRules_11 F (w32 (n : Int)) n' x2 x3 σ) F (w32 (wF (sW S))) (w32 (k : Int)) (0 : Int32) (sI τ2 504 k ((1 : Int32) &&& 1)) = _ := m3
    obtain ⟨q1, q2, q3, q4, q5, q6, q7, q8⟩ := G3
    obtain ⟨τ4, m4, a4, b4, c4⟩ := laysBack_r (F := F) (σ := τ3) (by omega)
    have g4 := f12_laysBack m4
    have s4 := f12_laysBack_s m4
    rw [m3, m4, Option.bind_some]
    refine ih n' (k + 1) τ4 (by omega) (by omega) (fun j => ?_) (fun j hj => by rw [b4]; exact q2 j hj) c4 (fun i hi => ?_) (q7.trans (g4.mono (fun c z => by unfold Wm12_laysBack at z; unfold Wga; omega))) (q8.trans (s4.mono (fun j z => by unfold Vm12_laysBack at z; unfold Vga; omega)))
    · rw [a4]
      by_cases hj : j < 98
      · rw [if_pos hj]; exact q2 j hj
      · rw [if_neg hj]; exact q3 j (by omega)
    · have c5 : ∀ j, gI τ4 504 j = gI τ3 504 j ∧ gI τ4 505 j = gI τ3 505 j := fun j => ⟨by rw [g4.gI (by unfold Wm12_laysBack; omega)], by rw [g4.gI (by unfold Wm12_laysBack; omega)]⟩
      by_cases z : i = k
      · rw [z]
        refine ⟨by rw [(c5 _).1]; exact q5, fun q hq => by rw [(c5 _).2]; exact q6 (by omega) q hq⟩
      · refine ⟨by rw [(c5 _).1]; exact (q4 i (by omega)).1, fun q hq => by rw [(c5 _).2]; exact (q4 i (by omega)).2 q hq⟩
theorem gath_r {F n t : Nat} {S : Ab} {σ : Mem} (wf : Wf t S) (hR : RInv S σ) (hn : n ≤ 99) (hF : 10000 ≤ F) : ∃ σ', m12_gathersRules F (w32 (n : Int)) σ = some σ' ∧ RInv S σ' ∧ Gk S n (sRc S + 1) σ' ∧ Fr Wga σ σ' := by
  obtain ⟨m5, hm, hm8⟩ := wf.1.1.1.2.1
  obtain ⟨n4, hn4, hn3⟩ := wf.1.1.1.2.2.1
  obtain ⟨σ1, m1, r1, b1, t1, f1, s1⟩ := keep_r (F := F) hR wf (by omega)
  have e21 : gI σ 483 21 = w32 (wF (sW S)) := hR.2.1.1
  have e493 : ∀ j, gI σ1 493 j = gI σ 493 j := fun j => by rw [f1.gI (by decide)]
  obtain ⟨σ2, m2, a2, c2, d2, g2, f2, s2⟩ := ga11 (F := F) wf hR hn hF (sRc S + 1) F 0 σ1 (by omega) (by have := wf.2.1.1; omega) e493 b1 (by rw [r1.1.2.2.2.2.2, wf.1.2.1.2.1]) (fun i hi => absurd hi (Nat.not_lt_zero i)) (f1.mono (fun c z => by unfold Wga; omega)) (s1.mono (fun j z => by unfold Vga; omega))
  refine ⟨σ2, ?_, ?_, g2, f2⟩
  · unfold m12_gathersRules
    rw [m1, Option.bind_some, e21]
    exact m2
  · refine hR.same (by omega) (by omega) wf.1.2.2.1.2.1 (fun k _ => a2 k) (fun j hj => ?_) (fun c hc => f2.gI (by unfold Wga; omega))
    by_cases z : j = 21
    · rw [z, d2, e21]
    · by_cases z27 : j = 27
      · rw [z27, c2, hR.2.1.2.2.2.2.2.2.1]
      · exact s2 j (by unfold Vga; omega)
