theorem z8 {F : Nat} : ∀ (d n k : Nat) (τ : Mem), k + d = 10 → d < n → ∃ τ', m12_smithy_8 F n (w32 (k : Int)) τ = m12_smithy_29 F F (0 : Int32) τ' ∧ (∀ j, k ≤ j → j < 10 → gI τ' 489 j = w32 0) ∧ (∀ j, (j < k ∨ 10 ≤ j) → gI τ' 489 j = gI τ 489 j) ∧ Fr (fun c => c = 489) τ τ' := by
  intro d
  induction d with
  | zero =>
    intro n k τ h1 h2
    obtain ⟨n, rfl⟩ : ∃ k, n = k + 1 := ⟨n - 1, by omega⟩
    unfold m12_smithy_8
    rw [if_pos (by rw [wl_10, w_le (by omega) (by omega) (by omega) (by omega)]; omega)]
    exact ⟨τ, rfl, fun j a b => by omega, fun _ _ => rfl, Fr.rf _ τ⟩
  | succ d ih =>
    intro n k τ h1 h2
    obtain ⟨n, rfl⟩ : ∃ k, n = k + 1 := ⟨n - 1, by omega⟩
    unfold m12_smithy_8
    rw [if_neg (by rw [wl_10, w_le (by omega) (by omega) (by omega) (by omega)]; omega), gd_pos (w_inB (by omega) (by omega) (by omega)), w_natk (by omega), w_succ]
    obtain ⟨τ', m, a, b, f⟩ := ih n (k + 1) (sI τ 489 k (0 : Int32)) (by omega) (by omega)
    refine ⟨τ', m, fun j h1 h2 => ?_, fun j hj => ?_, ((Fr.rf (fun c => c = 489) τ).sI rfl).trans f⟩
    · by_cases z : j = k
      · rw [z, b k (by omega), gI_eq]; rfl
      · exact a j (by omega) h2
    · rw [b j (by omega), gI_nej (by omega)]
theorem z29 {F : Nat} : ∀ (d n k : Nat) (τ : Mem), k + d = 3 → d < n → ∃ τ', m12_smithy_29 F n (w32 (k : Int)) τ = (Option.bind (m12_readsAll F τ') fun p1 => if p1.1 = (0 : Int32) then some (((-2 : Int32) - (gI p1.2 483 9)), p1.2) else m12_smithy_67 F F (0 : Int32) p1.2) ∧ (∀ j, k ≤ j → j < 3 → gI τ' 489 (95 + j) = w32 0) ∧ (∀ j, (j < 95 + k ∨ 98 ≤ j) → gI τ' 489 j = gI τ 489 j) ∧ Fr (fun c => c = 489) τ τ' := by
  intro d
  induction d with
  | zero =>
    intro n k τ h1 h2
    obtain ⟨n, rfl⟩ : ∃ k, n = k + 1 := ⟨n - 1, by omega⟩
    unfold m12_smithy_29
    rw [if_pos (by rw [wl_3, w_le (by omega) (by omega) (by omega) (by omega)]; omega)]
    exact ⟨τ, rfl, fun j a b => by omega, fun _ _ => rfl, Fr.rf _ τ⟩
  | succ d ih =>
    intro n k τ h1 h2
    obtain ⟨n, rfl⟩ : ∃ k, n = k + 1 := ⟨n - 1, by omega⟩
    have i5 : w32 95 + w32 (k : Int) = w32 ((95 + k : Nat) : Int) := by rw [w_add]; congr 1
    unfold m12_smithy_29
    rw [if_neg (by rw [wl_3, w_le (by omega) (by omega) (by omega) (by omega)]; omega), wl_95, i5, gd_pos (w_inB (by omega) (by omega) (by omega)), w_natk (by omega), w_succ]
    obtain ⟨τ', m, a, b, f⟩ := ih n (k + 1) (sI τ 489 (95 + k) (0 : Int32)) (by omega) (by omega)
    refine ⟨τ', m, fun j h1 h2 => ?_, fun j hj => ?_, ((Fr.rf (fun c => c = 489) τ).sI rfl).trans f⟩
    · by_cases z : j = k
      · rw [z, b (95 + k) (by omega), gI_eq]; rfl
      · exact a j (by omega) h2
    · rw [b j (by omega), gI_nej (by omega)]
theorem z67 {F : Nat} : ∀ (d n k : Nat) (τ : Mem), k + d = 132 → d < n → ∃ τ', m12_smithy_67 F n (w32 (k : Int)) τ = m12_smithy_104 F F (0 : Int32) τ' ∧ (∀ j, k ≤ j → j < 132 → gI τ' 493 j = if j < 98 then gI τ 489 j else w32 0) ∧ (∀ j, j < k → gI τ' 493 j = gI τ 493 j) ∧ Fr (fun c => c = 493) τ τ' := by
  intro d
  induction d with
  | zero =>
    intro n k τ h1 h2
    obtain ⟨n, rfl⟩ : ∃ k, n = k + 1 := ⟨n - 1, by omega⟩
    unfold m12_smithy_67
    rw [if_pos (by rw [wl_132, w_le (by omega) (by omega) (by omega) (by omega)]; omega)]
    exact ⟨τ, rfl, fun j a b => by omega, fun _ _ => rfl, Fr.rf _ τ⟩
  | succ d ih =>
    intro n k τ h1 h2
    obtain ⟨n, rfl⟩ : ∃ k, n = k + 1 := ⟨n - 1, by omega⟩
    unfold m12_smithy_67
    rw [if_neg (by rw [wl_132, w_le (by omega) (by omega) (by omega) (by omega)]; omega), w_succ]
    have step : ∀ v : Int32, v = (if k < 98 then gI τ 489 k else w32 0) → ∃ τ', m12_smithy_67 F n (w32 ((k + 1 : Nat) : Int)) (sI τ 493 k v) = m12_smithy_104 F F (0 : Int32) τ' ∧ (∀ j, k ≤ j → j < 132 → gI τ' 493 j = if j < 98 then gI τ 489 j else w32 0) ∧ (∀ j, j < k → gI τ' 493 j = gI τ 493 j) ∧ Fr (fun c => c = 493) τ τ' := by
      intro v hv
      obtain ⟨τ', m, a, b, f⟩ := ih n (k + 1) (sI τ 493 k v) (by omega) (by omega)
      refine ⟨τ', m, fun j h1 h2 => ?_, fun j hj => ?_, ((Fr.rf (fun c => c = 493) τ).sI rfl).trans f⟩
      · by_cases z : j = k
        · rw [z, b k (by omega), gI_eq]; exact hv
        · rw [a j (by omega) h2, gI_nec (by decide)]
      · rw [b j (by omega), gI_nej (by omega)]
    by_cases z : 98 ≤ k
    · rw [if_pos (by rw [wl_98, w_le (by omega) (by omega) (by omega) (by omega)]; omega), gd_pos (w_inB (by omega) (by omega) (by omega)), w_natk (by omega)]
      exact step _ (by rw [if_neg (by omega)]; rfl)
    · rw [if_neg (by rw [wl_98, w_le (by omega) (by omega) (by omega) (by omega)]; omega), gd_pos (w_inB (by omega) (by omega) (by omega)), gd_pos (w_inB (by omega) (by omega) (by omega)), w_natk (by omega)]
      exact step _ (by rw [if_pos (by omega)])
theorem z104 {F : Nat} : ∀ (d n k : Nat) (τ : Mem), k + d = 3 → d < n → ∃ τ', m12_smithy_104 F n (w32 (k : Int)) τ = some (gI τ' 493 4, τ') ∧ (∀ j, k ≤ j → j < 3 → gI τ' 493 (98 + j) = gI τ 493 (95 + j)) ∧ (∀ j, (j < 98 + k ∨ 101 ≤ j) → gI τ' 493 j = gI τ 493 j) ∧ Fr (fun c => c = 483 ∨ c = 493) τ τ' ∧ gI τ' 483 34 = w32 0 ∧ Sl (fun j => j = 34) τ τ' := by
  intro d
  induction d with
  | zero =>
    intro n k τ h1 h2
    obtain ⟨n, rfl⟩ : ∃ k, n = k + 1 := ⟨n - 1, by omega⟩
    unfold m12_smithy_104
    rw [if_pos (by rw [wl_3, w_le (by omega) (by omega) (by omega) (by omega)]; omega), gd_pos (by decide)]
    exact ⟨_, rfl, fun j a b => by omega, fun j _ => gI_nec (by decide), (Fr.rf _ τ).sI (Or.inl rfl), gI_eq .., (Sl.rf _ τ).at rfl⟩
  | succ d ih =>
    intro n k τ h1 h2
    obtain ⟨n, rfl⟩ : ∃ k, n = k + 1 := ⟨n - 1, by omega⟩
    have i5 : w32 95 + w32 (k : Int) = w32 ((95 + k : Nat) : Int) := by rw [w_add]; congr 1
    have i8 : w32 98 + w32 (k : Int) = w32 ((98 + k : Nat) : Int) := by rw [w_add]; congr 1
    unfold m12_smithy_104
    rw [if_neg (by rw [wl_3, w_le (by omega) (by omega) (by omega) (by omega)]; omega), wl_95, wl_98, i5, i8, gd_pos (w_inB (by omega) (by omega) (by omega)), gd_pos (w_inB (by omega) (by omega) (by omega)), w_natk (by omega), w_natk (by omega), w_succ]
    obtain ⟨τ', m, a, b, f, g, s⟩ := ih n (k + 1) (sI τ 493 (98 + k) (gI τ 493 (95 + k))) (by omega) (by omega)
    refine ⟨τ', m, fun j h1 h2 => ?_, fun j hj => ?_, ((Fr.rf _ τ).sI (Or.inr rfl)).trans f, g, ((Sl.rf _ τ).ne (by decide)).trans s⟩
    · by_cases z : j = k
      · rw [z, b (98 + k) (by omega), gI_eq]
      · rw [a j (by omega) h2, gI_nej (by omega)]
    · rw [b j (by omega), gI_nej (by omega)]
def WfN0 (N : Dat) : Dat := up N 0 0 0
theorem SW_pl {P : Dat} (hW : SW 1 P) (hD : DP P) (hC : DC P) : WfPl P := by
  obtain ⟨w1, w2, w3, w4, w5⟩ := hW
  obtain ⟨c1, c2, c3, c4⟩ := hC
  have w2 := w2 (by decide)
  refine ⟨⟨hD.1, ⟨(P 0 5).toNat, by omega, by omega⟩, ⟨(P 0 4).toNat, by omega, by omega⟩, hD.2⟩, fun j hj => ?_, ⟨fun j hj => (w3 j hj).2.2.2.1, fun p hp => by have := w4 p hp; omega, by omega, by omega⟩, Or.inr w1, by omega, by omega, fun z => by omega, fun j hj => ⟨(w3 j hj).2.2.2.2.1, (w3 j hj).2.2.2.2.2⟩, w5, w4⟩
  obtain ⟨a, b, c, -⟩ := w3 j hj
  exact ⟨a, b, c⟩
theorem WfI.mono {P A : Dat} {t t' : Nat} (h : WfI P A t) (ht : t ≤ t') : WfI P A t' := ⟨h.1, h.2.1, by have := h.2.2.1; omega, h.2.2.2.1.mono (by omega), h.2.2.2.2.1, by have := h.2.2.2.2.2; omega⟩
theorem WfSt.mono {P A : Dat} {t t' : Nat} (h : WfSt P A t) (ht : t ≤ t') : WfSt P A t' := ⟨h.1.mono ht, h.2.1, h.2.2.1, fun j => ⟨(h.2.2.2 j).1, by have := (h.2.2.2 j).2; omega⟩⟩
theorem WfW.mono {w : Wd} {rc t t' : Nat} (h : WfW w rc t) (ht : t ≤ t') : WfW w rc t' := ⟨h.1, h.2.1.mono ht, h.2.2⟩
theorem Wf.mono {t t' : Nat} {S : Ab} (h : Wf t S) (ht : t ≤ t') : Wf t' S := ⟨h.1.mono ht, h.2.1, h.2.2.1, ⟨h.2.2.2.1.1, fun i hi => (h.2.2.2.1.2 i hi).mono ht⟩, fun k w hk hw => (h.2.2.2.2 k w hk hw).mono ht⟩
theorem Wfx.mono {t t' : Nat} {S : Ab} (h : Wfx t S) (ht : t ≤ t') : Wfx t' S := ⟨h.1.mono ht, h.2⟩
theorem DInv.fr {W : Nat → Prop} {σ σ' : Mem} (h : DInv σ) (f : Fr W σ σ') (hw : ∀ c, W c → c < 3 ∨ 11 < c) : DInv σ' := by
  obtain ⟨P, a, b⟩ := h
  exact ⟨P, a.fr f (fun i hi z => by have := hw _ z; omega), b⟩
/-- all but the world and what can be undone is as it was -/
def stW (S : Ab) (w : Wd) (pc : Nat) (h : Nat → Dat) : Ab := (w, S.2.1, S.2.2.1, (pc, h), S.2.2.2.2)
theorem RQ_said {P : Dat} {f g : Nat → Int32} (h : RQ 1 P f) (h4 : P 0 4 ≤ 3) (h5 : P 0 5 ≤ 8) (e : ∀ j, j < 98 → g j = f j) (e2 : ∀ k, k < 3 → g (98 + k) = f (95 + k)) : SaidR g P (bgn P) := by
  obtain ⟨a1, -, a3, a4, a5, a6, a7, a8⟩ := h
  obtain ⟨b0, b1, b2⟩ := a1 (by decide)
  have sm : ∀ (p k : Nat), (p : Int) < P 0 4 → k < 7 → k ≠ 5 → g (10 + 7 * p + k) = w32 0 := fun p k hp hk h5 => by
    rw [e _ (by omega)]; exact (a6 p hp).2 k hk h5
  refine ⟨⟨fun i j hi hs => ?_, fun j hj => ?_, fun p hp => by rw [e _ (by omega)]; exact (a6 p hp).1, fun j hj => ?_⟩, fun k hk => by rw [e2 k hk]; exact a8 k hk⟩
  · rcases (show i = 0 ∨ i = 1 ∨ i = 2 ∨ i = 3 ∨ i = 4 ∨ i = 5 ∨ i = 6 ∨ i = 7 ∨ i = 8 ∨ i = 9 ∨ i = 10 by omega) with rfl | rfl | rfl | rfl | rfl | rfl | rfl | rfl | rfl | rfl | rfl
    · rw [bgn_0]
      show g 5 = w32 0
      rw [e 5 (by decide)]; exact a5 5 (by decide) (by decide)
    · rw [bgn_s (by decide)]
      exact sm j 0 hs (by decide) (by decide)
    · rw [bgn_s (by decide)]
      have := sm j 1 hs (by decide) (by decide)
      rw [show 10 + 7 * j + 1 = 11 + 7 * j by omega] at this
      exact this
    · rw [bgn_s (by decide)]
      have := sm j 2 hs (by decide) (by decide)
      rw [show 10 + 7 * j + 2 = 12 + 7 * j by omega] at this
      exact this
    · rw [bgn_s (by decide)]
      have := sm j 4 hs (by decide) (by decide)
      rw [show 10 + 7 * j + 4 = 14 + 7 * j by omega] at this
      exact this
    · rw [bgn_s (by decide)]
      have := sm j 6 hs (by decide) (by decide)
      rw [show 10 + 7 * j + 6 = 16 + 7 * j by omega] at this
      exact this
    · have hj : (j : Int) < P 0 5 := hs
      rw [bgn_6]
      show g (33 + 8 * j) = _
      rw [e _ (by omega)]; exact (a7 j hj).2.2.1
    · have hj : (j : Int) < P 0 5 := hs
      rw [bgn_7]
      show g (36 + 8 * j) = _
      rw [e _ (by omega)]; exact (a7 j hj).2.2.2.2.2.1
    · have hj : (j : Int) < P 0 5 := hs
      rw [bgn_8 (by omega)]
      show g (37 + 8 * j) = _
      rw [e _ (by omega)]; exact (a7 j hj).2.2.2.2.2.2.1
    · have hj : j < 3 := hs
      rw [bgn_9, if_pos hj]
      show g (95 + j) = _
      rw [e _ (by omega)]; exact a8 j hj
    · rw [bgn_s (by decide)]
      have := sm j 3 hs (by decide) (by decide)
      rw [show 10 + 7 * j + 3 = 13 + 7 * j by omega] at this
      exact this
  · rcases (show j = 0 ∨ j = 1 ∨ j = 2 ∨ j = 3 ∨ j = 4 by omega) with rfl | rfl | rfl | rfl | rfl
    · rw [e 0 (by decide)]; exact b0
    · rw [e 1 (by decide)]; exact b1
    · rw [e 2 (by decide)]; exact b2
    · rw [e 3 (by decide)]; exact a3
    · rw [e 4 (by decide)]; exact a4
  · obtain ⟨x1, x2, x3, x4, x5, x6, x7, x8⟩ := a7 j hj
    refine ⟨?_, ?_, ?_, ?_, ?_⟩
    · rw [e _ (by omega)]; exact x1
    · rw [e _ (by omega)]; exact x2
    · rw [e _ (by omega)]; exact x4
    · rw [e _ (by omega)]; exact x5
    · rw [e _ (by omega)]; exact x8
/-- the tape is empty: what the reference holds beside it stands -/
theorem RInv.rd {S : Ab} {σa σ' : Mem} (h : RInv S σa) (f : Fr (fun c => c = 483 ∨ c = 486 ∨ c = 489) σa σ') (s : ∀ j, j = 2 ∨ (21 ≤ j ∧ j ≤ 28) ∨ j = 34 → gI σ' 483 j = gI σa 483 j) (h1 : gI σ' 483 1 = w32 0) : RInv (stT S 0 (sB S)) σ' := by
  obtain ⟨⟨a1, a2⟩, ⟨b1, b2, b3, b4, b5, b6, b7, b8⟩, ⟨c1, c2⟩, ⟨d1, d2⟩, ⟨e1, e2⟩, g⟩ := h
  refine ⟨⟨?_, ?_⟩, ⟨?_, ?_, ?_, ?_, ?_, ?_, ?_, ?_⟩, ⟨?_, fun q hq => ?_⟩, ⟨h1, fun i hi => absurd hi (Nat.not_lt_zero i)⟩, ⟨?_, fun i hi => ?_⟩, fun q hq => ?_⟩
  · rw [f.gI (by decide)]; exact a1
  · rw [f.gI (by decide)]; exact a2
  · rw [s 21 (by omega)]; exact b1
  · rw [s 22 (by omega)]; exact b2
  · rw [s 23 (by omega)]; exact b3
  · rw [s 24 (by omega)]; exact b4
  · rw [s 25 (by omega)]; exact b5
  · rw [s 26 (by omega)]; exact b6
  · rw [s 27 (by omega)]; exact b7
  · rw [s 28 (by omega)]; exact b8
  · rw [s 2 (by omega)]; exact c1
  · obtain ⟨x, y, z⟩ := c2 q hq
    refine ⟨by rw [f.gI (by decide)]; exact x, fun j hj => by rw [f.gI (by decide)]; exact y j hj, fun i hi => ?_⟩
    rw [f.gI (by decide)]; exact z i hi
  · rw [s 34 (by omega)]; exact e1
  · rw [f.gI (by decide)]; exact e2 i hi
  · have gq := g q hq
    show match sIm S q with | none => _ | some w => _
    cases hI : sIm S q with
    | none =>
      rw [hI] at gq
      rw [f.gI (by decide)]; exact gq
    | some w =>
      rw [hI] at gq
      rw [f.gI (by decide), f.gI (by decide), f.gI (by decide), f.gI (by decide)]
      exact gq
theorem smithy_q {F t : Nat} {S : Ab} {σ : Mem} (hC : CInv S σ) (hR : RInv S σ) (wfx : Wfx t S) (hD : DInv σ) (hF : 10000 ≤ F) : ∃ S' r σ1 σ2, Wfx t S' ∧ m11_smithy F σ = some (r, σ1) ∧ m12_smithy F σ1 = some (r, σ2) ∧ CInv S' σ2 ∧ RInv S' σ2 ∧ DInv σ2 := by
  have wf := wfx.1
  have hT := rule_txt wf
  have rc6 := wf.2.1.1
  obtain ⟨m5, hm, hm8⟩ := wf.1.1.1.2.1
  obtain ⟨n4, hn, hn3⟩ := wf.1.1.1.2.2.1
  obtain ⟨P, hP, hDP⟩ := hD
  obtain ⟨σ1, m1, R1, D1, C1, y1, y2⟩ := readP_c (F := F) (B := sB S) (L := sLen S) hT (by omega) hC.2.2.1.1 hC.2.2.1.2 hP hDP
  have f1 := f4_read m1
  have f1' : Fr (fun c => c = 1 ∨ (3 ≤ c ∧ c ≤ 11)) σ σ1 := f1.mono (fun c z => by unfold Wm4_read at z; omega)
  have f2 : Fr (fun c => c = 1 ∨ (3 ≤ c ∧ c ≤ 11)) σ (sI σ1 1 1 (0 : Int32)) := f1'.sI (Or.inl rfl)
  have R2 : RepP 3 (sI σ1 1 1 (0 : Int32)) (smS (sB S) (sLen S) P).2 := R1.ne (by decide)
  -- what the reference does, on any memory that holds its side
  have hrf : ∀ σa : Mem, RInv S σa → ∃ y σ', m12_smithy F σa = (if y = (0 : Int32) then some (((-2 : Int32) - (gI σ' 483 9)), σ') else m12_smithy_67 F F (0 : Int32) σ') ∧ OZ3 (smS (sB S) (sLen S) P) y σ' ∧ RInv (stT S 0 (sB S)) σ' ∧ Fr (fun c => c = 483 ∨ c = 486 ∨ c = 489) σa σ' := by
    intro σa hRa
    obtain ⟨τ1, n1, a1, b1, g1⟩ := z8 (F := F) 10 F 0 (sI σa 483 11 (6 : Int32)) (by decide) (by omega)
    obtain ⟨τ2, n2, a2, b2, g2⟩ := z29 (F := F) 3 F 0 τ1 (by decide) (by omega)
    have FF : Fr (fun c => c = 483 ∨ c = 486 ∨ c = 489) σa τ2 := (((Fr.rf _ σa).sI (Or.inl rfl)).trans (g1.mono (fun c z => Or.inr (Or.inr z)))).trans (g2.mono (fun c z => Or.inr (Or.inr z)))
    have sl2 : ∀ j, gI τ2 483 j = gI (sI σa 483 11 (6 : Int32)) 483 j := fun j => by rw [g2.gI (by decide), g1.gI (by decide)]
    have hRQ : RQ 0 (p0 P) (gI τ2 489) := by
      refine ⟨fun z => absurd z (by decide), fun _ => ?_, ?_, ?_, fun j h1 h2 => ?_, fun p hp => ?_, fun j hj => ?_, fun k hk => ?_⟩
      · rw [b2 0 (by omega)]; exact a1 0 (Nat.zero_le _) (by decide)
      · rw [b2 3 (by omega)]; exact a1 3 (Nat.zero_le _) (by decide)
      · rw [b2 4 (by omega)]; exact a1 4 (Nat.zero_le _) (by decide)
      · rw [b2 j (by omega)]; exact a1 j (Nat.zero_le _) h2
      · have : (p : Int) < 0 := hp
        omega
      · have : (j : Int) < 0 := hj
        omega
      · rw [a2 k (Nat.zero_le _) hk]
        rcases (show k = 0 ∨ k = 1 ∨ k = 2 by omega) with rfl | rfl | rfl <;> rfl
    obtain ⟨y, σ', m, o, fr⟩ := readsAll3_r (F := F) (P := P) (σ := τ2) hT (by omega) hDP (by rw [sl2, gI_nej (by decide)]; exact hRa.2.2.2.1.1) (fun i hi => by rw [FF.gI (by decide)]; exact hRa.2.2.2.1.2 i hi) (by rw [sl2, gI_eq]; rfl) hRQ
    have sl' := f12_readsAll_s m
    have F3 := FF.trans fr
    refine ⟨y, σ', ?_, o, hRa.rd F3 (fun j hj => ?_) o.1, F3⟩
    · unfold m12_smithy
      have n1 : m12_smithy_8 F F (0 : Int32) (sI σa 483 11 (6 : Int32)) = _ := n1
      have n2 : m12_smithy_29 F F (0 : Int32) τ1 = _ := n2
      dsimp only
      rw [n1, n2, m, Option.bind_some]
    · rw [sl' j (by unfold Vm12_readsAll; omega), sl2, gI_nej (by omega)]
  by_cases zf : (smS (sB S) (sLen S) P).1 = 0
  · -- a SMITHY stands
    generalize hsm : smS (sB S) (sLen S) P = z at *
    have hwf : ∀ σa : Mem, RInv S σa → SW 1 z.2 := fun σa hRa => by
      obtain ⟨y, σ', -, o, -, -⟩ := hrf σa hRa
      have o2 := o.2
      rw [if_pos zf] at o2
      exact o2.2.2
    have hW := hwf σ hR
    have hPl := SW_pl hW D1 C1
    obtain ⟨σ3, m3, R3⟩ := cpP_ok (F := F) (c0 := 17) (c1 := 3) (by decide) (by omega) R2 hPl.2.2.2.1
    have g3 := f4_copyFrom m3
    have g3' : Fr (fun c => 17 ≤ c ∧ c ≤ 25) (sI σ1 1 1 (0 : Int32)) σ3 := g3.mono (fun c z => by unfold Wm4_copyFrom at z; omega)
    obtain ⟨σ4, m4, R4⟩ := begin_ok (F := F) (c0 := 26) (c1 := 3) (by decide) (by omega) (R2.fr g3' (fun i hi => by omega))
    have g4 := f7_begin m4
    have g4' : Fr (fun c => 26 ≤ c ∧ c ≤ 35) σ3 σ4 := g4.mono (fun c z => by unfold Wm7_begin at z; omega)
    have hcl : m11_smithy F σ = some (w32 (z.2 0 5), sI (sI σ4 36 0 (0 : Int32)) 0 6 (0 : Int32)) := by
      unfold m11_smithy
      rw [m1, Option.bind_some]
      dsimp only
      rw [zf, if_pos (show w32 0 = (0 : Int32) from rfl), m3, Option.bind_some, m4, Option.bind_some, gI_nec (by decide), gI_nec (by decide), g4'.gI (by decide), g3'.gI (by decide)]
      rw [show gI (sI σ1 1 1 (0 : Int32)) 3 5 = w32 (z.2 0 5) from R2.at 0 5]
    have FC : Fr (fun c => c = 0 ∨ c = 1 ∨ (3 ≤ c ∧ c ≤ 11) ∨ (17 ≤ c ∧ c ≤ 36)) σ (sI (sI σ4 36 0 (0 : Int32)) 0 6 (0 : Int32)) := ((((f2.mono (fun c z => by omega)).trans (g3'.mono (fun c z => by omega))).trans (g4'.mono (fun c z => by omega))).sI (by omega)).sI (by omega)
    have hR5 : RInv S (sI (sI σ4 36 0 (0 : Int32)) 0 6 (0 : Int32)) := hR.same (by omega) (by omega) wf.1.2.2.1.2.1 (fun k _ => by rw [FC.gI (by omega)]) (fun j _ => by rw [FC.gI (by omega)]) (fun c hc => FC.gI (by omega))
    obtain ⟨y, σ', mm, o, r1, r2⟩ := hrf _ hR5
    have o2 := o.2
    rw [if_pos zf] at o2
    obtain ⟨oy, oR, -⟩ := o2
    obtain ⟨τ1, n1, a1, b1, e1⟩ := z67 (F := F) 132 F 0 σ' (by decide) (by omega)
    obtain ⟨τ2, n2, a2, b2, e2, e3, e4⟩ := z104 (F := F) 3 F 0 τ1 (by decide) (by omega)
    have v493 : ∀ j, j < 98 → gI τ2 493 j = gI σ' 489 j := fun j hj => by rw [b2 j (by omega), a1 j (Nat.zero_le _) (by omega), if_pos hj]
    have v98 : ∀ k, k < 3 → gI τ2 493 (98 + k) = gI σ' 489 (95 + k) := fun k hk => by rw [a2 k (Nat.zero_le _) hk, a1 _ (Nat.zero_le _) (by omega), if_pos (by omega)]
    have v131 : gI τ2 493 131 = w32 0 := by rw [b2 131 (by omega), a1 131 (Nat.zero_le _) (by decide), if_neg (by decide)]
    have F5 : Fr (fun c => c = 483 ∨ c = 493) σ' τ2 := (e1.mono (fun c z => Or.inr z)).trans e2
    have rv : m12_smithy F (sI (sI σ4 36 0 (0 : Int32)) 0 6 (0 : Int32)) = some (w32 (z.2 0 5), τ2) := by
      have n1 : m12_smithy_67 F F (0 : Int32) σ' = _ := n1
      have n2 : m12_smithy_104 F F (0 : Int32) τ1 = _ := n2
      rw [mm, if_neg (by rw [oy]; decide), n1, n2, v493 4 (by decide), oR.2.2.2.1]
    have hbw := bgn_wf hPl
    refine ⟨stW (stT S 0 (sB S)) (z.2, bgn z.2, up (wN (sW S)) 0 0 0, wF (sW S), wX (sW S)) 0 (sH S), _, _, τ2, ?_, hcl, rv, ?_, ?_, ?_⟩
    · refine ⟨⟨⟨hPl, hbw.mono (Nat.zero_le t), ⟨show (0 : Int) ≤ up (wN (sW S)) 0 0 0 0 0 by rw [up_eq]; exact Int.le_refl _, show up (wN (sW S)) 0 0 0 0 0 ≤ (10 : Int) by rw [up_eq]; decide, fun i hi => ?_⟩, wf.1.2.2.2⟩, wf.2.1, ⟨Nat.zero_le _, fun i hi => absurd hi (Nat.not_lt_zero i)⟩, ⟨Nat.zero_le _, fun i hi => absurd hi (Nat.not_lt_zero i)⟩, wf.2.2.2.2⟩, wfx.2⟩
      have hi : (i : Int) < up (wN (sW S)) 0 0 0 0 0 := hi
      rw [up_eq] at hi
      omega
    · have G : Fr (fun c => c = 483 ∨ c = 486 ∨ c = 489 ∨ c = 493) (sI (sI σ4 36 0 (0 : Int32)) 0 6 (0 : Int32)) τ2 := (r2.mono (fun c z => by omega)).trans (F5.mono (fun c z => by omega))
      refine CInv.fr ?_ (show sRc S ≤ 6 from rc6) G (fun c h => by unfold Scr; omega)
      obtain ⟨⟨p1, p2, p3, p4, p5⟩, ⟨b1, b2⟩, ⟨d1, d2⟩, ⟨pn, x1, x2, x3, x4⟩, g⟩ := hC
      refine ⟨⟨?_, ?_, ?_, ?_, ?_⟩, ⟨?_, fun q hq => ?_⟩, ⟨?_, fun i hi => absurd hi (Nat.not_lt_zero i)⟩, ⟨pn, x1, ?_, gI_eq .., fun i hi => absurd hi (Nat.not_lt_zero i)⟩, fun q hq => ?_⟩
      · exact ((R3.fr g4' (fun i hi => by omega)).ne (by decide)).ne (by decide)
      · exact ((bgn_S R4).ne (by decide)).ne (by decide)
      · refine ⟨?_, fun i h1 h2 j hj => ?_⟩
        · show gI _ 36 0 = w32 (up (wN (sW S)) 0 0 0 0 0)
          rw [gI_nec (by decide), gI_eq, up_eq]; rfl
        · show gI _ (36 + i) j = w32 (up (wN (sW S)) 0 0 0 i j)
          rw [gI_nec (by omega), gI_nec (by omega), up_ne (by omega), g4'.gI (by omega), g3'.gI (by omega), f2.gI (by omega)]
          exact p3.2 i h1 h2 j hj
      · rw [FC.gI (by decide)]; exact p4
      · rw [FC.gI (by decide)]; exact p5
      · show gI _ 0 4 = w32 (sRc S : Int)
        rw [gI_nej (by decide), gI_nec (by decide), g4'.gI (by decide), g3'.gI (by decide), f2.gI (by decide)]; exact b1
      · exact (b2 q hq).fr FC (fun i hi => by have hq : q < sRc S := hq; omega)
      · show gI _ 1 1 = w32 ((0 : Nat) : Int)
        rw [gI_nec (by decide), gI_nec (by decide), g4'.gI (by decide), g3'.gI (by decide), gI_eq]; rfl
      · rw [gI_nej (by decide), gI_nec (by decide), g4'.gI (by decide), g3'.gI (by decide), f2.gI (by decide)]; exact x2
      · have gq := g q hq
        show match sIm S q with | none => _ | some w => _
        cases hI : sIm S q with
        | none =>
          rw [hI] at gq
          rw [FC.gI (by decide)]; exact gq
        | some w =>
          rw [hI] at gq
          exact ⟨by rw [FC.gI (by decide)]; exact gq.1, gq.2.fr FC (fun i hi => by omega)⟩
    · obtain ⟨⟨a1, a2⟩, ⟨b1, b2, b3, b4, b5, b6, b7, b8⟩, ⟨c1, c2⟩, ⟨d1, d2⟩, ⟨e1', e2'⟩, g⟩ := r1
      have sl : ∀ j, j ≠ 34 → gI τ2 483 j = gI σ' 483 j := fun j hj => by rw [e4 j hj, e1.gI (by decide)]
      refine ⟨⟨RQ_said oR (by have := C1.2.1; exact this) (by have := C1.2.2.2; exact this) v493 v98, ?_, fun i hi => ?_⟩, ⟨?_, ?_, ?_, ?_, ?_, ?_, ?_, ?_⟩, ⟨?_, fun q hq => ?_⟩, ⟨?_, fun i hi => absurd hi (Nat.not_lt_zero i)⟩, ⟨?_, fun i hi => absurd hi (Nat.not_lt_zero i)⟩, fun q hq => ?_⟩
      · show gI τ2 493 131 = w32 (up (wN (sW S)) 0 0 0 0 0)
        rw [up_eq]; exact v131
      · have hi : (i : Int) < up (wN (sW S)) 0 0 0 0 0 := hi
        rw [up_eq] at hi
        omega
      · rw [sl 21 (by decide)]; exact b1
      · rw [sl 22 (by decide)]; exact b2
      · rw [sl 23 (by decide)]; exact b3
      · rw [sl 24 (by decide)]; exact b4
      · rw [sl 25 (by decide)]; exact b5
      · rw [sl 26 (by decide)]; exact b6
      · rw [sl 27 (by decide)]; exact b7
      · rw [sl 28 (by decide)]; exact b8
      · rw [sl 2 (by decide)]; exact c1
      · obtain ⟨x, y, z⟩ := c2 q hq
        refine ⟨by rw [F5.gI (by decide)]; exact x, fun j hj => by rw [F5.gI (by decide)]; exact y j hj, fun i hi => ?_⟩
        rw [F5.gI (by decide)]; exact z i hi
      · rw [sl 1 (by decide)]; exact d1
      · exact e3
      · have gq := g q hq
        have gq : match sIm S q with | none => gI σ' 509 q = w32 0 | some w => gI σ' 509 q = w32 1 ∧ gI σ' 507 q = w32 (wF w) ∧ gI σ' 508 q = w32 (wX w) ∧ SaidR (fun i => gI σ' 506 (132 * q + i)) (wP w) (wA w) ∧ NoteR (fun i => gI σ' 506 (132 * q + i)) (wN w) := gq
        show match sIm S q with | none => _ | some w => _
        cases hI : sIm S q with
        | none =>
          rw [hI] at gq
          rw [F5.gI (by decide)]; exact gq
        | some w =>
          rw [hI] at gq
          rw [F5.gI (by decide), F5.gI (by decide), F5.gI (by decide), F5.gI (by decide)]
          exact gq
    · refine ⟨z.2, ?_, D1⟩
      have := (((R2.fr g3' (fun i hi => by omega)).fr g4' (fun i hi => by omega)).ne (c' := 36) (j := 0) (v := (0 : Int32)) (by decide)).ne (c' := 0) (j := 6) (v := (0 : Int32)) (by decide)
      exact (this.fr r2 (fun i hi => by omega)).fr F5 (fun i hi => by omega)
  · -- a FAULT
    have hR2 : RInv S (sI σ1 1 1 (0 : Int32)) := hR.same (by omega) (by omega) wf.1.2.2.1.2.1 (fun k _ => by rw [f2.gI (by omega)]) (fun j _ => by rw [f2.gI (by omega)]) (fun c hc => f2.gI (by omega))
    obtain ⟨y, σ', mm, o, r1, r2⟩ := hrf _ hR2
    have o2 := o.2
    rw [if_neg zf] at o2
    obtain ⟨oy, o9⟩ := o2
    have hcl : m11_smithy F σ = some ((-2 : Int32) - w32 (smS (sB S) (sLen S) P).1, sI σ1 1 1 (0 : Int32)) := by
      unfold m11_smithy
      rw [m1, Option.bind_some]
      dsimp only
      rw [if_neg (by rw [wl_0, w_eq (by omega) (by omega) (by omega) (by omega)]; exact zf)]
    refine ⟨stT S 0 (sB S), _, _, σ', ⟨wf.t0 _, wfx.2⟩, hcl, by rw [mm, if_pos oy, o9], ?_, r1, ?_⟩
    · refine CInv.fr ?_ (show sRc S ≤ 6 from rc6) r2 (fun c h => by unfold Scr; omega)
      obtain ⟨a, ⟨b1, b2⟩, ⟨d1, d2⟩, ⟨pn, e1, e2, e3, e4⟩, g⟩ := hC
      refine ⟨a.fr f2 (fun i hi => by omega), ⟨by rw [f2.gI (by decide)]; exact b1, fun q hq => ?_⟩, ⟨gI_eq .., fun i hi => absurd hi (Nat.not_lt_zero i)⟩, ⟨pn, e1, ?_, ?_, fun i hi => ?_⟩, fun q hq => ?_⟩
      · exact (b2 q hq).fr f2 (fun i hi => by omega)
      · rw [f2.gI (by decide)]; exact e2
      · rw [f2.gI (by decide)]; exact e3
      · have := past_rg (pn := pn) (pc := sPc S) (i := i)
        exact (e4 i hi).fr f2 (fun a ha => by omega)
      · have gq := g q hq
        show match sIm S q with | none => _ | some w => _
        cases hI : sIm S q with
        | none =>
          rw [hI] at gq
          rw [f2.gI (by decide)]; exact gq
        | some w =>
          rw [hI] at gq
          exact ⟨by rw [f2.gI (by decide)]; exact gq.1, gq.2.fr f2 (fun i hi => by omega)⟩
    · exact ⟨_, R2.fr r2 (fun i hi => by omega), D1⟩
