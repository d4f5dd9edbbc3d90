/-! ACTS: image, back -/
theorem cpW {F c0 c1 : Nat} {σ : Mem} {w : Wd} (hd : c0 + 23 < c1 ∨ c1 + 23 < c0) (hF : 100 ≤ F) (h : CW c1 σ w) (h0 : wP w 0 0 = 0 ∨ wP w 0 0 = 1) : ∃ σ', m10_copyFrom F c0 c1 σ = some σ' ∧ CW c0 σ' w := by
  obtain ⟨a, b, d, e, g⟩ := h
  obtain ⟨σ1, m1, p1⟩ := cpP_ok (F := F) (c0 := c0 + 1) (by omega) hF a h0
  have f1 := f4_copyFrom m1
  obtain ⟨σ2, m2, p2⟩ := cpS_ok (F := F) (c0 := c0 + 10) (by omega) hF (b.fr f1 (fun i hi => by unfold Wm4_copyFrom; omega))
  have f2 := f7_copyFrom m2
  obtain ⟨σ3, m3, p3⟩ := cpN_ok (F := F) (c0 := c0 + 20) (by omega) hF ((d.fr f1 (fun i hi => by unfold Wm4_copyFrom; omega)).fr f2 (fun i hi => by unfold Wm7_copyFrom; omega))
  have f3 := f3_copyFrom m3
  have e3 : gI σ3 c1 = gI σ c1 := by rw [f3.gI (by unfold Wm3_copyFrom; omega), f2.gI (by unfold Wm7_copyFrom; omega), f1.gI (by unfold Wm4_copyFrom; omega)]
  have fe : Fr (fun c => c = c0) σ3 (sI (sI σ3 c0 3 (w32 (wF w))) c0 4 (w32 (wX w))) := ((Fr.rf (fun c => c = c0) σ3).sI rfl).sI rfl
  refine ⟨sI (sI σ3 c0 3 (w32 (wF w))) c0 4 (w32 (wX w)), ?_, ?_, ?_, ?_, ?_, ?_⟩
  · unfold m10_copyFrom
    rw [m1, Option.bind_some, m2, Option.bind_some, m3, Option.bind_some]
    show some (sI (sI σ3 c0 3 (gI σ3 c1 3)) c0 4 (gI (sI σ3 c0 3 (gI σ3 c1 3)) c1 4)) = _
    rw [gI_nec (by omega), e3, e, g]
  · exact ((p1.fr f2 (fun i hi => by unfold Wm7_copyFrom; omega)).fr f3 (fun i hi => by unfold Wm3_copyFrom; omega)).fr fe (fun i hi => by omega)
  · exact (p2.fr f3 (fun i hi => by unfold Wm3_copyFrom; omega)).fr fe (fun i hi => by omega)
  · exact p3.fr fe (fun i hi => by omega)
  · rw [gI_nej (by decide), gI_eq]
  · rw [gI_eq]
def stI (S : Ab) (k : Nat) (w : Wd) : Ab := (S.1, S.2.1, S.2.2.1, S.2.2.2.1, fun j => if j = k then some w else sIm S j)
theorem CInv.I {V : Nat → Prop} {σ σ' : Mem} {S : Ab} {k : Nat} {w : Wd} (hC : CInv S σ) (rc : sRc S ≤ 6) (f : Fr V σ σ') (hv : ∀ c, V c → c = 15 ∨ (387 + 24 * k ≤ c ∧ c ≤ 387 + 24 * k + 23)) (hk : k < 4) (e1 : gI σ' 15 k = w32 1) (e2 : ∀ j, j ≠ k → gI σ' 15 j = gI σ 15 j) (cw : CW (387 + 24 * k) σ' w) : CInv (stI S k w) σ' := by
  obtain ⟨a, ⟨b1, b2⟩, ⟨d1, d2⟩, ⟨pn, q1, q2, q3, q4⟩, g⟩ := hC
  have no : ∀ c, c < 387 → c ≠ 15 → ¬ V c := fun c h1 h2 z => by
    have := hv c z
    omega
  refine ⟨a.fr f (fun i hi => no _ (by omega) (by omega)), ⟨?_, fun j hj => ?_⟩, ⟨?_, fun i hi => ?_⟩, ⟨pn, q1, ?_, ?_, fun i hi => ?_⟩, fun j hj => ?_⟩
  · rw [f.gI (no 0 (by decide) (by decide))]; exact b1
  · have hj : j < sRc S := hj
    exact (b2 j hj).fr f (fun i hi => no _ (by omega) (by omega))
  · rw [f.gI (no 1 (by decide) (by decide))]; exact d1
  · rw [f.gI (no 2 (by decide) (by decide))]; exact d2 i hi
  · rw [f.gI (no 0 (by decide) (by decide))]; exact q2
  · rw [f.gI (no 0 (by decide) (by decide))]; exact q3
  · have := past_rg (pn := pn) (pc := sPc S) (i := i)
    exact (q4 i hi).fr f (fun a ha => no _ (by show pastAt pn (sPc S) i + a < 387; omega) (by show pastAt pn (sPc S) i + a ≠ 15; omega))
  · show match (if j = k then some w else sIm S j) with | none => _ | some w => _
    by_cases hjk : j = k
    · rw [if_pos hjk, hjk]
      exact ⟨e1, cw⟩
    · rw [if_neg hjk]
      have gk := g j hj
      cases hI : sIm S j with
      | none => rw [hI] at gk; rw [e2 j hjk]; exact gk
      | some w =>
        rw [hI] at gk
        exact ⟨by rw [e2 j hjk]; exact gk.1, gk.2.fr f (fun i hi z => by have := hv _ z; omega)⟩
theorem RInv.I {σ σ' : Mem} {S : Ab} {k : Nat} (hR : RInv S σ) (f : Fr (fun c => 506 ≤ c ∧ c ≤ 509) σ σ') (e1 : gI σ' 509 k = w32 1 ∧ gI σ' 507 k = w32 (wF (sW S)) ∧ gI σ' 508 k = w32 (wX (sW S)) ∧ SaidR (fun i => gI σ' 506 (132 * k + i)) (wP (sW S)) (wA (sW S)) ∧ NoteR (fun i => gI σ' 506 (132 * k + i)) (wN (sW S))) (e2 : ∀ j, j ≠ k → gI σ' 509 j = gI σ 509 j ∧ gI σ' 507 j = gI σ 507 j ∧ gI σ' 508 j = gI σ 508 j) (e3 : ∀ j, j ≠ k → ∀ i, i < 132 → gI σ' 506 (132 * j + i) = gI σ 506 (132 * j + i)) (wf : ∀ j w, j < 4 → sIm S j = some w → WfPl (wP w) ∧ WfN (wN w)) : RInv (stI S k (sW S)) σ' := by
  obtain ⟨⟨a1, a2⟩, ⟨b1, b2, b3, b4, b5, b6, b7, b8⟩, ⟨c1, c2⟩, ⟨d1, d2⟩, ⟨q1, q2⟩, g⟩ := hR
  have no : ∀ c, c < 506 → gI σ' c = gI σ c := fun c hc => f.gI (by omega)
  refine ⟨⟨?_, ?_⟩, ⟨?_, ?_, ?_, ?_, ?_, ?_, ?_, ?_⟩, ⟨?_, fun q hq => ?_⟩, ⟨?_, fun i hi => ?_⟩, ⟨?_, fun i hi => ?_⟩, fun j hj => ?_⟩
  · rw [no _ (by decide)]; exact a1
  · rw [no _ (by decide)]; exact a2
  · rw [no _ (by decide)]; exact b1
  · rw [no _ (by decide)]; exact b2
  · rw [no _ (by decide)]; exact b3
  · rw [no _ (by decide)]; exact b4
  · rw [no _ (by decide)]; exact b5
  · rw [no _ (by decide)]; exact b6
  · rw [no _ (by decide)]; exact b7
  · rw [no _ (by decide)]; exact b8
  · rw [no _ (by decide)]; exact c1
  · obtain ⟨x, y, z⟩ := c2 q hq
    refine ⟨by rw [no _ (by decide)]; exact x, fun j hj => by rw [no _ (by decide)]; exact y j hj, fun i hi => ?_⟩
    rw [no _ (by decide)]; exact z i hi
  · rw [no _ (by decide)]; exact d1
  · rw [no _ (by decide)]; exact d2 i hi
  · rw [no _ (by decide)]; exact q1
  · rw [no _ (by decide)]; exact q2 i hi
  · show match (if j = k then some (sW S) else sIm S j) with | none => _ | some w => _
    by_cases hjk : j = k
    · rw [if_pos hjk, hjk]
      exact e1
    · rw [if_neg hjk]
      have gk := g j hj
      obtain ⟨x1, x2, x3⟩ := e2 j hjk
      cases hI : sIm S j with
      | none => rw [hI] at gk; rw [x1]; exact gk
      | some w =>
        rw [hI] at gk
        obtain ⟨u1, u2⟩ := wf j w hj hI
        exact ⟨x1.trans gk.1, x2.trans gk.2.1, x3.trans gk.2.2.1, gk.2.2.2.1.cp u1 (e3 j hjk), gk.2.2.2.2.cp u2.2.1 (e3 j hjk)⟩
theorem image43 {F k : Nat} {σ0 : Mem} (hk : k < 4) : ∀ (d n x : Nat) (σ : Mem), x + d = 132 → d < n → (∀ c, c ≠ 506 → gI σ c = gI σ0 c) → (∀ q, gI σ 506 q = if 132 * k ≤ q ∧ q < 132 * k + x then gI σ0 493 (q - 132 * k) else gI σ0 506 q) → ∃ σ', m12_image_43 F (w32 (k : Int)) n (w32 (x : Int)) σ = some (gI σ0 493 5, σ') ∧ (∀ c, c ≠ 506 → gI σ' c = gI σ0 c) ∧ ∀ q, gI σ' 506 q = if 132 * k ≤ q ∧ q < 132 * k + 132 then gI σ0 493 (q - 132 * k) else gI σ0 506 q := by
  intro d
  induction d with
  | zero =>
    intro n x σ h1 h2 e1 e3
    obtain ⟨n, rfl⟩ : ∃ k, n = k + 1 := ⟨n - 1, by omega⟩
    have hx : x = 132 := by omega
    subst hx
    unfold m12_image_43
    rw [if_pos (by rw [wl_132, w_le (by omega) (by omega) (by omega) (by omega)]; omega), gd_pos (by decide)]
    exact ⟨_, by rw [e1 493 (by decide)]; rfl, e1, e3⟩
  | succ d ih =>
    intro n x σ h1 h2 e1 e3
    obtain ⟨n, rfl⟩ : ∃ k, n = k + 1 := ⟨n - 1, by omega⟩
    have ex : (132 : Int32) * w32 (k : Int) + w32 (x : Int) = w32 ((132 * k + x : Nat) : Int) := by rw [wl_132, w_mul, w_add]; congr 1 <;> omega
    unfold m12_image_43
    rw [if_neg (by rw [wl_132, w_le (by omega) (by omega) (by omega) (by omega)]; omega), gd_pos (w_inB (by omega) (by omega) (by omega)), ex, gd_pos (w_inB (by omega) (by omega) (by omega)), w_natk (by omega), w_natk (by omega), w_succ]
    refine ih n (x + 1) _ (by omega) (by omega) (fun c hc => by funext j; rw [gI_nec hc, e1 c hc]) (fun q => ?_)
    by_cases hq : q = 132 * k + x
    · rw [hq, gI_eq, if_pos (by omega), e1 493 (by decide), show 132 * k + x - 132 * k = x by omega]
    · rw [gI_nej (by omega), e3 q]
      by_cases a : 132 * k ≤ q ∧ q < 132 * k + x
      · rw [if_pos a, if_pos (by omega)]
      · rw [if_neg a, if_neg (by omega)]
theorem image_q {F t : Nat} {S : Ab} {σ : Mem} (hC : CInv S σ) (hR : RInv S σ) (wfx : Wfx t S) (hF : 10000 ≤ F) (x : Int32) : Acts t (m11_image F x σ) (m12_image F x) := by
  obtain ⟨c, rfl, c1, c2⟩ := arg x
  have wf := wfx.1
  have wPl := wf.1.1
  have rc6 := wf.2.1.1
  have inW : ∀ τ, m12_in F (w32 c).toInt64 (0 : Int64) (3 : Int64) τ = some (if 0 ≤ c ∧ c ≤ 3 then (1 : Int32) else 0) := fun τ => in_r rfl rfl c1 c2 (by decide) (by decide)
  by_cases hc : 0 ≤ c ∧ c ≤ 3
  · obtain ⟨k, rfl⟩ : ∃ k : Nat, c = k := ⟨c.toNat, by omega⟩
    obtain ⟨σa, ma, cwa⟩ := cpW (F := F) (c0 := 387 + 24 * k) (c1 := 16) (by omega) (by omega) hC.1 wPl.2.2.2.1
    have fa := f10_copyFrom ma
    have f15 : Fr (fun c => c = 15) σa (sI σa 15 k (w32 1)) := (Fr.rf (fun c => c = 15) σa).sI rfl
    have e26 : gI (sI σa 15 k (w32 1)) 26 0 = w32 (wA (sW S) 0 0) := by
      rw [f15.gI (by decide), fa.gI (by unfold Wm10_copyFrom; omega)]
      exact hC.1.2.1.at 0 0
    have m1 : m11_image F (w32 (k : Int)) σ = some (w32 (wA (sW S) 0 0), sI σa 15 k (w32 1)) := by
      unfold m11_image
      rw [if_neg (by rw [wl_0, w_lt (by omega) (by omega) (by omega) (by omega)]; omega), if_pos (by rw [wl_4, w_lt (by omega) (by omega) (by omega) (by omega)]; omega), gd_pos (w_inB (by omega) (by omega) (by omega)), w_natk (by omega), ma, Option.bind_some, gd_pos (w_inB (by omega) (by omega) (by omega))]
      show some (gI (sI σa 15 k (w32 1)) 26 0, sI σa 15 k (w32 1)) = _
      rw [e26]
    have fb := (fa.mono (V := fun c => c = 15 ∨ (387 + 24 * k ≤ c ∧ c ≤ 387 + 24 * k + 23)) (fun c z => by unfold Wm10_copyFrom at z; omega)).trans (f15.mono (fun c z => Or.inl z))
    have hC1 : CInv (stI S k (sW S)) (sI σa 15 k (w32 1)) := hC.I rc6 fb (fun c z => z) (by omega) (by rw [gI_eq]) (fun j hj => by rw [gI_nej hj, fa.gI (by unfold Wm10_copyFrom; omega)]) (cwa.fr f15 (fun i hi => by omega))
    have f1 := f11_image m1
    have hR1 := hR.cls wf f1 (fun c z => by unfold Wm11_image at z; omega)
    obtain ⟨σ1, hσ1⟩ : ∃ σ1, σ1 = sI σa 15 k (w32 1) := ⟨_, rfl⟩
    rw [← hσ1] at hC1 hR1 m1
    obtain ⟨σb, hσb⟩ : ∃ σb, σb = sI (sI (sI σ1 509 k (w32 1)) 507 k (w32 (wF (sW S)))) 508 k (w32 (wX (sW S))) := ⟨_, rfl⟩
    obtain ⟨σ2, m43, u1, u2⟩ := image43 (F := F) (k := k) (σ0 := σb) (by omega) 132 F 0 σb (by omega) (by omega) (fun _ _ => rfl) (fun q => by rw [if_neg (by omega)])
    have b493 : gI σb 493 = gI σ1 493 := by funext j; rw [hσb, gI_nec (by decide), gI_nec (by decide), gI_nec (by decide)]
    have b506 : gI σb 506 = gI σ1 506 := by funext j; rw [hσb, gI_nec (by decide), gI_nec (by decide), gI_nec (by decide)]
    have e5 : gI σb 493 5 = w32 (wA (sW S) 0 0) := by rw [b493]; exact (hR1.E wf).1.1 0 0 (by decide) rfl
    have m2 : m12_image F (w32 (k : Int)) σ1 = some (w32 (wA (sW S) 0 0), σ2) := by
      unfold m12_image
      rw [inW, Option.bind_some, if_pos hc, if_neg (by decide), gd_pos (w_inB (by omega) (by omega) (by omega)), w_natk (by omega), gd_pos (w_inB (by omega) (by omega) (by omega)), gd_pos (w_inB (by omega) (by omega) (by omega))]
      show m12_image_43 F (w32 (k : Int)) F (0 : Int32) (sI (sI (sI σ1 509 k (w32 1)) 507 k (gI (sI σ1 509 k (w32 1)) 483 21)) 508 k (gI (sI (sI σ1 509 k (w32 1)) 507 k (gI (sI σ1 509 k (w32 1)) 483 21)) 483 22)) = _
      rw [gI_nec (σ := σ1) (by decide), hR1.2.1.1, gI_nec (by decide), gI_nec (by decide), hR1.2.1.2.1, ← hσb, ← e5]
      exact m43
    have f2 := f12_image m2
    refine ⟨stI S k (sW S), ⟨⟨wf.1, wf.2.1, wf.2.2.1, wf.2.2.2.1, fun j w hj hI => ?_⟩, wfx.2⟩, _, _, _, m1, m2, hC1.fr rc6 f2 (fun c z => by unfold Wm12_image at z; unfold Scr; omega), ?_⟩
    · have hI : (if j = k then some (sW S) else sIm S j) = some w := hI
      by_cases hjk : j = k
      · rw [if_pos hjk] at hI
        cases hI
        exact wf.1
      · rw [if_neg hjk] at hI
        exact wf.2.2.2.2 j w hj hI
    · refine hR1.I (f2.mono (fun c z => by unfold Wm12_image at z; omega)) ⟨?_, ?_, ?_, ?_, ?_⟩ (fun j hj => ⟨?_, ?_, ?_⟩) (fun j hj i hi => ?_) (fun j w hj hI => ⟨(wf.2.2.2.2 j w hj hI).1, (wf.2.2.2.2 j w hj hI).2.2.1⟩)
      · rw [u1 509 (by decide), hσb, gI_nec (by decide), gI_nec (by decide), gI_eq]
      · rw [u1 507 (by decide), hσb, gI_nec (by decide), gI_eq]
      · rw [u1 508 (by decide), hσb, gI_eq]
      · exact hR1.1.1.cp wPl (fun i hi => by show gI σ2 506 (132 * k + i) = _; rw [u2, if_pos (by omega), b493, show 132 * k + i - 132 * k = i by omega])
      · exact hR1.1.2.cp wf.1.2.2.1.2.1 (fun i hi => by show gI σ2 506 (132 * k + i) = _; rw [u2, if_pos (by omega), b493, show 132 * k + i - 132 * k = i by omega])
      · rw [u1 509 (by decide), hσb, gI_nec (by decide), gI_nec (by decide), gI_nej hj]
      · rw [u1 507 (by decide), hσb, gI_nec (by decide), gI_nej hj, gI_nec (by decide)]
      · rw [u1 508 (by decide), hσb, gI_nej hj, gI_nec (by decide), gI_nec (by decide)]
      · rw [u2, if_neg (by omega), b506]
  · refine ⟨S, wfx, -1, σ, σ, ?_, ?_, hC, hR⟩
    · unfold m11_image
      by_cases h1 : c < 0
      · rw [if_pos (by rw [wl_0, w_lt (by omega) (by omega) (by omega) (by omega)]; exact h1)]
      · rw [if_neg (by rw [wl_0, w_lt (by omega) (by omega) (by omega) (by omega)]; exact h1), if_neg (by rw [wl_4, w_lt (by omega) (by omega) (by omega) (by omega)]; omega)]
    · unfold m12_image
      rw [inW, Option.bind_some, if_neg hc, if_pos rfl]
theorem back50 {F k : Nat} {σ0 : Mem} (hk : k < 4) : ∀ (d n x : Nat) (σ : Mem), x + d = 132 → d < n → (∀ c, c ≠ 493 → gI σ c = gI σ0 c) → (∀ q, q < x → gI σ 493 q = gI σ0 506 (132 * k + q)) → ∃ σ', m12_back_50 F (w32 (k : Int)) n (w32 (x : Int)) σ = some (gI σ0 506 (132 * k + 5), σ') ∧ (∀ c, c ≠ 493 → gI σ' c = gI σ0 c) ∧ ∀ q, q < 132 → gI σ' 493 q = gI σ0 506 (132 * k + q) := by
  intro d
  induction d with
  | zero =>
    intro n x σ h1 h2 e1 e3
    obtain ⟨n, rfl⟩ : ∃ k, n = k + 1 := ⟨n - 1, by omega⟩
    have hx : x = 132 := by omega
    subst hx
    unfold m12_back_50
    rw [if_pos (by rw [wl_132, w_le (by omega) (by omega) (by omega) (by omega)]; omega), gd_pos (by decide), show (5 : Int32).toNatClampNeg = 5 from rfl, e3 5 (by decide)]
    exact ⟨_, rfl, e1, e3⟩
  | succ d ih =>
    intro n x σ h1 h2 e1 e3
    obtain ⟨n, rfl⟩ : ∃ k, n = k + 1 := ⟨n - 1, by omega⟩
    have ex : (132 : Int32) * w32 (k : Int) + w32 (x : Int) = w32 ((132 * k + x : Nat) : Int) := by rw [wl_132, w_mul, w_add]; congr 1 <;> omega
    unfold m12_back_50
    rw [if_neg (by rw [wl_132, w_le (by omega) (by omega) (by omega) (by omega)]; omega), ex, gd_pos (w_inB (by omega) (by omega) (by omega)), gd_pos (w_inB (by omega) (by omega) (by omega)), w_natk (by omega), w_natk (by omega), w_succ]
    refine ih n (x + 1) _ (by omega) (by omega) (fun c hc => by funext j; rw [gI_nec hc, e1 c hc]) (fun q hq => ?_)
    by_cases hqx : q = x
    · rw [hqx, gI_eq, e1 506 (by decide)]
    · rw [gI_nej (by omega), e3 q (by omega)]
theorem back_q {F t : Nat} {S : Ab} {σ : Mem} (hC : CInv S σ) (hR : RInv S σ) (wfx : Wfx t S) (hF : 10000 ≤ F) (x : Int32) : Acts t (m11_back F x σ) (m12_back F x) := by
  obtain ⟨c, rfl, c1, c2⟩ := arg x
  have wf := wfx.1
  have rc6 := wf.2.1.1
  have inW : ∀ τ, m12_in F (w32 c).toInt64 (0 : Int64) (3 : Int64) τ = some (if 0 ≤ c ∧ c ≤ 3 then (1 : Int32) else 0) := fun τ => in_r rfl rfl c1 c2 (by decide) (by decide)
  by_cases hc : 0 ≤ c ∧ c ≤ 3
  · obtain ⟨k, rfl⟩ : ∃ k : Nat, c = k := ⟨c.toNat, by omega⟩
    have gC := hC.2.2.2.2 k (by omega)
    have gR := hR.2.2.2.2.2 k (by omega)
    cases hI : sIm S k with
    | none =>
      rw [hI] at gC gR
      refine ⟨S, wfx, -1, σ, σ, ?_, ?_, hC, hR⟩
      · unfold m11_back
        rw [if_neg (by rw [wl_0, w_lt (by omega) (by omega) (by omega) (by omega)]; omega), if_neg (by rw [wl_4, w_le (by omega) (by omega) (by omega) (by omega)]; omega), gd_pos (w_inB (by omega) (by omega) (by omega)), w_natk (by omega), gC, if_pos (show w32 0 = (0 : Int32) from rfl)]
      · unfold m12_back
        rw [inW, Option.bind_some, if_pos hc, if_neg (by decide), gd_pos (w_inB (by omega) (by omega) (by omega)), w_natk (by omega), gR, if_pos (show w32 0 = (0 : Int32) from rfl)]
    | some w =>
      rw [hI] at gC gR
      have ww := wf.2.2.2.2 k w (by omega) hI
      obtain ⟨pn, q1, q2, q3, q4⟩ := id hC.2.2.2.1
      obtain ⟨σa, ma, cwa⟩ := cpW (F := F) (c0 := 16) (c1 := 387 + 24 * k) (by omega) (by omega) gC.2 ww.1.2.2.2.1
      have fa := f10_copyFrom ma
      have f0 : Fr (fun c => c = 0) σa (sI σa 0 6 (w32 ((0 : Nat) : Int))) := (Fr.rf (fun c => c = 0) σa).sI rfl
      have cw1 := cwa.fr f0 (fun i hi => by omega)
      have m1 : m11_back F (w32 (k : Int)) σ = some (w32 (wA w 0 0), sI σa 0 6 (w32 ((0 : Nat) : Int))) := by
        unfold m11_back
        rw [if_neg (by rw [wl_0, w_lt (by omega) (by omega) (by omega) (by omega)]; omega), if_neg (by rw [wl_4, w_le (by omega) (by omega) (by omega) (by omega)]; omega), gd_pos (w_inB (by omega) (by omega) (by omega)), w_natk (by omega), gC.1, if_neg (by decide), gd_pos (w_inB (by omega) (by omega) (by omega)), ma, Option.bind_some]
        show some (gI (sI σa 0 6 (w32 ((0 : Nat) : Int))) 26 0, sI σa 0 6 (w32 ((0 : Nat) : Int))) = _
        rw [show gI (sI σa 0 6 (w32 ((0 : Nat) : Int))) 26 0 = w32 (wA w 0 0) from cw1.2.1.at 0 0]
      have f1 := f11_back m1
      have hC1 : CInv (stW S w 0 (sH S)) (sI σa 0 6 (w32 ((0 : Nat) : Int))) := hC.W rc6 f1 (fun c z => by unfold Wm11_back at z; omega) cw1 (by rw [gI_nej (by decide), fa.gI (by unfold Wm10_copyFrom; omega)]) ⟨pn, q1, by rw [gI_nej (by decide), fa.gI (by unfold Wm10_copyFrom; omega)]; exact q2, by rw [gI_eq], fun i hi => absurd hi (Nat.not_lt_zero i)⟩
      have hR1 := hR.cls wf f1 (fun c z => by unfold Wm11_back at z; omega)
      obtain ⟨σ1, hσ1⟩ : ∃ σ1, σ1 = sI σa 0 6 (w32 ((0 : Nat) : Int)) := ⟨_, rfl⟩
      rw [← hσ1] at hC1 hR1 m1
      have gR := hR1.2.2.2.2.2 k (by omega)
      rw [hI] at gR
      obtain ⟨r1, r2, r3, r4, r5⟩ := gR
      obtain ⟨σb, hσb⟩ : ∃ σb, σb = sI (sI (sI σ1 483 21 (w32 (wF w))) 483 22 (w32 (wX w))) 483 34 (w32 ((0 : Nat) : Int)) := ⟨_, rfl⟩
      have bo : ∀ c, c ≠ 483 → gI σb c = gI σ1 c := fun c hc => by funext j; rw [hσb, gI_nec hc, gI_nec hc, gI_nec hc]
      obtain ⟨σ2, m50, u1, u2⟩ := back50 (F := F) (k := k) (σ0 := σb) (by omega) 132 F 0 σb (by omega) (by omega) (fun _ _ => rfl) (fun q hq => absurd hq (Nat.not_lt_zero q))
      have e5 : gI σb 506 (132 * k + 5) = w32 (wA w 0 0) := by
        rw [bo 506 (by decide)]
        exact r4.1.1 0 0 (by decide) rfl
      have m2 : m12_back F (w32 (k : Int)) σ1 = some (w32 (wA w 0 0), σ2) := by
        unfold m12_back
        rw [inW, Option.bind_some, if_pos hc, if_neg (by decide), gd_pos (w_inB (by omega) (by omega) (by omega)), w_natk (by omega), r1, if_neg (by decide), gd_pos (w_inB (by omega) (by omega) (by omega)), gd_pos (w_inB (by omega) (by omega) (by omega)), r2]
        show m12_back_50 F (w32 (k : Int)) F (0 : Int32) (sI (sI (sI σ1 483 21 (w32 (wF w))) 483 22 (gI (sI σ1 483 21 (w32 (wF w))) 508 k)) 483 34 (w32 ((0 : Nat) : Int))) = _
        rw [gI_nec (by decide), r3, ← hσb, ← e5]
        exact m50
      have f2 := f12_back m2
      have e493 : ∀ q, q < 132 → gI σ2 493 q = (fun i => gI σ1 506 (132 * k + i)) q := fun q hq => by rw [u2 q hq, bo 506 (by decide)]
      refine ⟨stW S w 0 (sH S), ⟨⟨ww, wf.2.1, wf.2.2.1, ⟨by show 0 ≤ 20; omega, fun i hi => absurd hi (Nat.not_lt_zero i)⟩, wf.2.2.2.2⟩, wfx.2⟩, _, _, _, m1, m2, hC1.fr rc6 f2 (fun c z => by unfold Wm12_back at z; unfold Scr; omega), ?_⟩
      refine hR1.W (r4.cp ww.1 e493) (r5.cp ww.2.2.1.2.1 e493) ?_ ?_ (fun j hj => ?_) ?_ (fun i hi => absurd hi (Nat.not_lt_zero i)) (fun c hc => f2.gI (by unfold Wm12_back; omega))
      · rw [u1 483 (by decide), hσb, gI_nej (by decide), gI_nej (by decide), gI_eq]
      · rw [u1 483 (by decide), hσb, gI_nej (by decide), gI_eq]
      · rw [u1 483 (by decide), hσb, gI_nej (by omega), gI_nej (by omega), gI_nej (by omega)]
      · rw [u1 483 (by decide), hσb, gI_eq]
  · refine ⟨S, wfx, -1, σ, σ, ?_, ?_, hC, hR⟩
    · unfold m11_back
      by_cases h1 : c < 0
      · rw [if_pos (by rw [wl_0, w_lt (by omega) (by omega) (by omega) (by omega)]; exact h1)]
      · rw [if_neg (by rw [wl_0, w_lt (by omega) (by omega) (by omega) (by omega)]; exact h1), if_pos (by rw [wl_4, w_le (by omega) (by omega) (by omega) (by omega)]; omega)]
    · unfold m12_back
      rw [inW, Option.bind_some, if_neg hc, if_pos rfl]
