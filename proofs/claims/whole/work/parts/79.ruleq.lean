/-! TEXTS, 10: rule, on both sides -/
def Wfx (t : Nat) (S : Ab) : Prop := Wf t S ∧ ∀ k, k < sRc S → sRu S k 0 1 ≤ 400
def Acts (t : Nat) (a : Option (Int32 × Mem)) (b : Mem → Option (Int32 × Mem)) : Prop := ∃ S', Wfx t S' ∧ Ans S' a b
theorem wf_of {r : Nat → Int} {i l : Nat} {M R : Dat} (h : Wk r i l M) (hi : i ≤ 12) (h1 : R 0 3 = (i : Int)) (h2 : R 0 1 = (l : Int)) (h3 : ∀ k, k < l → R 1 k = r k) (h4 : ∀ a j, 2 ≤ a → a ≤ 4 → j < i → R a j = M a j) : WfR R ∧ WfL R := by
  have hR := h.same (r' := R 1) (Nat.le_refl l) h3
  refine ⟨⟨by omega, by omega, fun j hj => ?_⟩, fun j hj => ?_⟩
  · have hj : j < i := by omega
    obtain ⟨a, b, -, -⟩ := hR j hj
    rw [h4 2 j (by decide) (by decide) hj, h4 3 j (by decide) (by decide) hj, h4 4 j (by decide) (by decide) hj]
    exact ⟨a, b⟩
  · have hj : j < i := by omega
    rw [h2, h4 4 j (by decide) (by decide) hj]
    exact (hR j hj).2.2.2
def mkG (σ : Mem) (c i : Nat) (s : St) (M : Dat) : Dat := fun a b => if a = 0 then (if b = 3 then (i : Int) else if b = 1 then (sl s : Int) else 0) else if a = 1 then (if b < sl s then sr s b else (gI σ (c + 1) b).toInt) else if b < i then M a b else (gI σ (c + a) b).toInt
theorem mkG_1 {σ : Mem} {c i k : Nat} {s : St} {M : Dat} (h : k < sl s) : mkG σ c i s M 1 k = sr s k := by
  unfold mkG
  rw [if_neg (by decide), if_pos rfl, if_pos h]
theorem mkG_a {σ : Mem} {c i a j : Nat} {s : St} {M : Dat} (h2 : 2 ≤ a) (h : j < i) : mkG σ c i s M a j = M a j := by
  unfold mkG
  rw [if_neg (by omega), if_neg (by omega), if_pos h]
theorem mkG_G {B : Nat → Int} {L c i : Nat} {s : St} {M : Dat} {σ : Mem} (h : PC B L c s σ) (h3 : gI σ c 3 = w32 (i : Int)) (hM : CT c i M σ) : RepG c σ (mkG σ c i s M) := by
  refine ⟨h3, fun j hj => ?_, fun j hj => ?_⟩
  · by_cases z : j < sl s
    · rw [mkG_1 z]; exact h.2.2.2 j z
    · show _ = w32 (if (1 : Nat) = 0 then _ else if (1 : Nat) = 1 then (if j < sl s then sr s j else (gI σ (c + 1) j).toInt) else _)
      rw [if_neg (by decide), if_pos rfl, if_neg z, w_of]
  · by_cases z : j < i
    · rw [mkG_a (by decide) z, mkG_a (by decide) z, mkG_a (by decide) z]
      exact hM j z
    · have e : ∀ a, 2 ≤ a → mkG σ c i s M a j = (gI σ (c + a) j).toInt := fun a ha => by
        unfold mkG
        rw [if_neg (by omega), if_neg (by omega), if_neg z]
      rw [e 2 (by decide), e 3 (by decide), e 4 (by decide), w_of, w_of, w_of]
      exact ⟨rfl, rfl, rfl⟩
/-- the world with another tape, other rules -/
def stT (S : Ab) (l : Nat) (b : Nat → Int) : Ab := (S.1, S.2.1, (l, b), S.2.2.2)
def stR (S : Ab) (rc : Nat) (r : Nat → Dat) : Ab := (S.1, (rc, r), S.2.2)
theorem Wf.t0 {t : Nat} {S : Ab} (h : Wf t S) (b : Nat → Int) : Wf t (stT S 0 b) := ⟨h.1, h.2.1, ⟨Nat.zero_le _, fun i hi => absurd hi (Nat.not_lt_zero i)⟩, h.2.2.2.1, h.2.2.2.2⟩
theorem rule_txt {t : Nat} {S : Ab} (h : Wf t S) : Txt (sB S) (sLen S) := h.2.2.1
theorem past_rg {pn pc i : Nat} : 187 ≤ pastAt pn pc i ∧ pastAt pn pc i ≤ 377 := by
  unfold pastAt
  have := Nat.mod_lt (pn + 20 - pc + i) (show 0 < 20 by decide)
  omega
theorem rule_q {F t : Nat} {S : Ab} {σ : Mem} (hC : CInv S σ) (hR : RInv S σ) (wfx : Wfx t S) (hF : 10000 ≤ F) : Acts t (m11_rule F σ) (m12_rule F) := by
  have wf := wfx.1
  have hT := rule_txt wf
  have rc6 := wf.2.1.1
  obtain ⟨m5, hm, hm8⟩ := wf.1.1.1.2.1
  obtain ⟨n4, hn, hn3⟩ := wf.1.1.1.2.2.1
  have e04 : gI σ 0 4 = w32 (sRc S : Int) := hC.2.1.1
  have e2 : gI σ 483 2 = w32 (sRc S : Int) := hR.2.2.1.1
  by_cases z6 : sRc S = 6
  · refine ⟨S, wfx, -1, σ, σ, ?_, ?_, hC, hR⟩
    · unfold m11_rule
      rw [e04, if_neg (by rw [wl_6, w_lt (by omega) (by omega) (by omega) (by omega)]; omega)]
    · unfold m12_rule
      rw [e2, if_pos (by rw [z6]; rfl)]
  · obtain ⟨y1, σ1, m1, o1⟩ := read_c (F := F) (B := sB S) (L := sLen S) (c := 151 + 6 * sRc S) (σ := σ) hT (by omega) (by omega) hC.2.2.1.1 hC.2.2.1.2
    have f1 := f5_read m1
    have f1' : Fr (fun c => c = 1 ∨ (151 + 6 * sRc S ≤ c ∧ c ≤ 151 + 6 * sRc S + 4)) σ σ1 := f1.mono (fun c z => by unfold Wm5_read at z; omega)
    -- the class's tape is empty again
    have f2 : Fr (fun c => c = 0 ∨ c = 1 ∨ (151 + 6 * sRc S ≤ c ∧ c ≤ 151 + 6 * sRc S + 4)) σ (sI σ1 1 1 (0 : Int32)) := (f1'.mono (fun c z => by omega)).sI (by omega)
    have hR2 : RInv S (sI σ1 1 1 (0 : Int32)) := hR.same (by omega) (by omega) wf.1.2.2.1.2.1 (fun k _ => by rw [f2.gI (by omega)]) (fun j _ => by rw [f2.gI (by omega)]) (fun c hc => f2.gI (by omega))
    have hcl : m11_rule F σ = if y1 = (0 : Int32) then some (((gI (sI (sI σ1 1 1 (0 : Int32)) 0 4 (gI (sI σ1 1 1 (0 : Int32)) 0 4 + 1)) 0 4) - (1 : Int32)), sI (sI σ1 1 1 (0 : Int32)) 0 4 (gI (sI σ1 1 1 (0 : Int32)) 0 4 + 1)) else some (((-2 : Int32) - y1), sI σ1 1 1 (0 : Int32)) := by
      unfold m11_rule
      rw [e04, if_pos (by rw [wl_6, w_lt (by omega) (by omega) (by omega) (by omega)]; omega), gd_pos (w_inB (by omega) (by omega) (by omega)), w_natk (by omega), if_neg (by omega), m1, Option.bind_some]
    have e04b : gI (sI σ1 1 1 (0 : Int32)) 0 4 = w32 (sRc S : Int) := by rw [gI_nec (by decide), f1'.gI (by omega)]; exact e04
    rw [e04b, w_succ] at hcl
    -- what the reference does, on any memory that holds its side
    have hrf : ∀ σa : Mem, RInv S σa → ∃ y σ', m12_readsAll F (sI (sI σa 483 11 (w32 (sRc S : Int))) 488 (sRc S) (0 : Int32)) = some (y, σ') ∧ KK (sRc S) σa σ' ∧ OZ2 (sRc S) (rulS (sB S) (sLen S)) y σ' ∧ m12_rule F σa = (if y = (0 : Int32) then some (((-2 : Int32) - (gI σ' 483 9)), σ') else some (((gI (sI σ' 483 2 (gI σ' 483 2 + 1)) 483 2) - (1 : Int32)), sI σ' 483 2 (gI σ' 483 2 + 1))) := by
      intro σa hRa
      obtain ⟨y, σ', m, k, o⟩ := readsAll_r (F := F) (B := sB S) (L := sLen S) (k := sRc S) (σ := sI (sI σa 483 11 (w32 (sRc S : Int))) 488 (sRc S) (0 : Int32)) hT (by omega) (by omega) (by rw [gI_nec (by decide), gI_nej (by decide)]; exact hRa.2.2.2.1.1) (fun i hi => by rw [gI_nec (by decide), gI_nec (by decide)]; exact hRa.2.2.2.1.2 i hi) (by rw [gI_nec (by decide), gI_eq]) (by rw [gI_eq]; rfl)
      refine ⟨y, σ', m, (((KK.rf (sRc S) σa).s (by omega)).s (by omega)).trans k, o, ?_⟩
      unfold m12_rule
      rw [hRa.2.2.1.1, if_neg (by rw [wl_6, w_eq (by omega) (by omega) (by omega) (by omega)]; omega)]
      dsimp only
      rw [gI_eq, gd_pos (w_inB (by omega) (by omega) (by omega)), w_natk (by omega), m, Option.bind_some]
    -- the reference's side afterwards
    have aft : ∀ (σa σ' : Mem) (y : Int32), RInv S σa → m12_readsAll F (sI (sI σa 483 11 (w32 (sRc S : Int))) 488 (sRc S) (0 : Int32)) = some (y, σ') → KK (sRc S) σa σ' → gI σ' 483 1 = w32 0 → RInv (stT S 0 (sB S)) σ' ∧ Fr (fun c => c = 483 ∨ (485 ≤ c ∧ c ≤ 490)) σa σ' := by
      intro σa σ' y hRa m k h1
      have f := f12_readsAll m
      have sl' := f12_readsAll_s m
      have ff : Fr (fun c => c = 483 ∨ (485 ≤ c ∧ c ≤ 490)) σa σ' := (((Fr.rf _ σa).sI (by omega)).sI (by omega)).trans (f.mono (fun c z => by unfold Wm12_readsAll at z; omega))
      have ss : ∀ j, j = 2 ∨ (21 ≤ j ∧ j ≤ 28) ∨ j = 34 → gI σ' 483 j = gI σa 483 j := fun j hj => by
        rw [sl' j (by unfold Vm12_readsAll; omega)]
        show gI (sI (sI σa 483 11 (w32 (sRc S : Int))) 488 (sRc S) (0 : Int32)) 483 j = _
        rw [gI_nec (by decide), gI_nej (by omega)]
      refine ⟨?_, ff⟩
      obtain ⟨⟨a1, a2⟩, ⟨b1, b2, b3, b4, b5, b6, b7, b8⟩, ⟨c1, c2⟩, ⟨d1, d2⟩, ⟨e1, e2⟩, g⟩ := hRa
      refine ⟨⟨?_, ?_⟩, ⟨?_, ?_, ?_, ?_, ?_, ?_, ?_, ?_⟩, ⟨?_, fun q hq => ?_⟩, ⟨h1, fun i hi => absurd hi (Nat.not_lt_zero i)⟩, ⟨?_, fun i hi => ?_⟩, fun q hq => ?_⟩
      · rw [ff.gI (by omega)]; exact a1
      · rw [ff.gI (by omega)]; exact a2
      · rw [ss 21 (by omega)]; exact b1
      · rw [ss 22 (by omega)]; exact b2
      · rw [ss 23 (by omega)]; exact b3
      · rw [ss 24 (by omega)]; exact b4
      · rw [ss 25 (by omega)]; exact b5
      · rw [ss 26 (by omega)]; exact b6
      · rw [ss 27 (by omega)]; exact b7
      · rw [ss 28 (by omega)]; exact b8
      · rw [ss 2 (by omega)]; exact c1
      · have hq : q < sRc S := hq
        obtain ⟨x, y, z⟩ := c2 q hq
        obtain ⟨l1, l2⟩ := wf.2.1.2 q hq
        obtain ⟨w1, w2, w3⟩ := l1
        have rl : ∀ i : Nat, (i : Int) < sRu S q 0 3 → i < 12 := fun i hi => by omega
        refine ⟨by rw [k.2.2 q hq]; exact x, fun j hj => ?_, fun i hi => ?_⟩
        · have := wfx.2 q hq
          have hj : (j : Int) < sRu S q 0 1 := hj
          rw [k.1 _ (by omega)]; exact y j hj
        · have := rl i hi
          rw [k.2.1 _ (by omega), k.2.1 _ (by omega), k.2.1 _ (by omega), k.2.1 _ (by omega)]
          exact z i hi
      · rw [ss 34 (by omega)]; exact e1
      · rw [ff.gI (by omega)]; exact e2 i hi
      · have gq := g q hq
        cases hI : sIm S q with
        | none =>
          rw [hI] at gq
          show match sIm S q with | none => _ | some w => _
          rw [hI, ff.gI (by omega)]; exact gq
        | some w =>
          rw [hI] at gq
          obtain ⟨x, y, z, u, v⟩ := gq
          show match sIm S q with | none => _ | some w => _
          rw [hI, ff.gI (by omega), ff.gI (by omega), ff.gI (by omega), ff.gI (by omega)]
          exact ⟨x, y, z, u, v⟩
    cases hv : rulS (sB S) (sLen S) with
    | error f =>
      rw [hv] at o1 hrf
      obtain ⟨ey, hB⟩ := o1
      obtain ⟨y, σ', m, k, ⟨o, oy, o9⟩, mm⟩ := hrf _ hR2
      obtain ⟨r1, r2⟩ := aft _ _ _ hR2 m k o
      have wf2 : Wfx t (stT S 0 (sB S)) := ⟨wf.t0 _, wfx.2⟩
      have hC2 : CInv (stT S 0 (sB S)) (sI σ1 1 1 (0 : Int32)) := by
        obtain ⟨a, ⟨b1, b2⟩, ⟨d1, d2⟩, ⟨pn, e1, e2, e3, e4⟩, g⟩ := hC
        refine ⟨a.fr f2 (fun i hi => by omega), ⟨e04b, fun q hq => ?_⟩, ⟨gI_eq .., fun i hi => absurd hi (Nat.not_lt_zero i)⟩, ⟨pn, e1, ?_, ?_, fun i hi => ?_⟩, fun q hq => ?_⟩
        · have hq : q < sRc S := hq
          exact (b2 q hq).fr f2 (fun i hi => by omega)
        · rw [gI_nec (by decide), f1'.gI (by omega)]; exact e2
        · rw [gI_nec (by decide), f1'.gI (by omega)]; exact e3
        · have := past_rg (pn := pn) (pc := sPc S) (i := i)
          exact (e4 i hi).fr f2 (fun a ha => by omega)
        · have gq := g q hq
          cases hI : sIm S q with
          | none =>
            rw [hI] at gq
            show match sIm S q with | none => _ | some w => _
            rw [hI, f2.gI (by omega)]; exact gq
          | some w =>
            rw [hI] at gq
            show match sIm S q with | none => _ | some w => _
            rw [hI]
            exact ⟨by rw [f2.gI (by omega)]; exact gq.1, gq.2.fr f2 (fun i hi => by omega)⟩
      refine ⟨_, wf2, (-2 : Int32) - w32 f, sI σ1 1 1 (0 : Int32), σ', ?_, ?_, hC2.fr rc6 r2 (fun c h => by unfold Scr; omega), r1⟩
      · rw [hcl, ey, if_neg (by rw [wl_0, w_eq (by have := hB.2.1; omega) (by have := hB.2.2.1; omega) (by omega) (by omega)]; exact hB.1)]
      · rw [mm, if_pos oy, o9]
    | ok z =>
      obtain ⟨i, s, M⟩ := z
      rw [hv] at o1 hrf
      obtain ⟨ey, hP, h3, hM⟩ := o1
      have hP : PC (sB S) (sLen S) (151 + 6 * sRc S) s σ1 := hP
      have h3 : gI σ1 (151 + 6 * sRc S) 3 = w32 (i : Int) := h3
      have hM : CT (151 + 6 * sRc S) i M σ1 := hM
      obtain ⟨h1, h2, h2b, hk⟩ := rulL_ok hT 13 0 (0, 0, 0, fun _ => 0) (fun _ _ => 0) (i, s, M) (Nat.le_refl _) (Nat.zero_le _) (Nat.zero_le _) (Nat.zero_le _) (fun j hj => absurd hj (Nat.not_lt_zero j)) hv
      have h1 : i ≤ 12 := h1
      have h2 : sl s ≤ sLen S := h2
      have hk : Wk (sr s) i (sl s) M := hk
      have hL := hT.1
      have hG := mkG_G hP h3 hM
      obtain ⟨wR, wL⟩ := wf_of (R := mkG σ1 (151 + 6 * sRc S) i s M) hk h1 rfl rfl (fun q hq => mkG_1 hq) (fun a j h2 _ hj => mkG_a h2 hj)
      generalize hRd : mkG σ1 (151 + 6 * sRc S) i s M = R at *
      -- the class afterwards
      have f3 : Fr (fun c => c = 0 ∨ c = 1 ∨ (151 + 6 * sRc S ≤ c ∧ c ≤ 151 + 6 * sRc S + 4)) σ (sI (sI σ1 1 1 (0 : Int32)) 0 4 (w32 ((sRc S + 1 : Nat) : Int))) := f2.sI (Or.inl rfl)
      have hR3 : RInv S (sI (sI σ1 1 1 (0 : Int32)) 0 4 (w32 ((sRc S + 1 : Nat) : Int))) := hR.same (by omega) (by omega) wf.1.2.2.1.2.1 (fun k _ => by rw [f3.gI (by omega)]) (fun j _ => by rw [f3.gI (by omega)]) (fun c hc => f3.gI (by omega))
      obtain ⟨y, σ', m, k, ⟨o, oy, o5, oM⟩, mm⟩ := hrf _ hR3
      have o5 : ∀ i, i < sl s → gI σ' 485 (400 * sRc S + i) = w32 (enc (sr s i) : Int) := o5
      have oM : CR (sRc S) i M σ' := oM
      obtain ⟨r1, r2⟩ := aft _ _ _ hR3 m k o
      have s2' : gI σ' 483 2 = w32 (sRc S : Int) := r1.2.2.1.1
      let S' : Ab := stR (stT S 0 (sB S)) (sRc S + 1) (fun q => if q = sRc S then R else sRu S q)
      have eRu : ∀ q, q < sRc S → sRu S' q = sRu S q := fun q hq => if_neg (by omega)
      have eRn : sRu S' (sRc S) = R := if_pos rfl
      have wf2 : Wfx t S' := by
        refine ⟨⟨⟨wf.1.1, wf.1.2.1, wf.1.2.2.1, wf.1.2.2.2.1, ?_, wf.1.2.2.2.2.2⟩, ⟨show sRc S + 1 ≤ 6 by omega, fun q hq => ?_⟩, ⟨Nat.zero_le _, fun i hi => absurd hi (Nat.not_lt_zero i)⟩, wf.2.2.2.1, fun q w hq hw => ?_⟩, fun q hq => ?_⟩
        · have := wf.1.2.2.2.2.1
          show wF (sW S) < ((sRc S + 1 : Nat) : Int)
          omega
        · have hq : q < sRc S + 1 := hq
          by_cases zq : q = sRc S
          · rw [zq, eRn]; exact ⟨wR, wL⟩
          · rw [eRu q (by omega)]; exact wf.2.1.2 q (by omega)
        · obtain ⟨u1, u2, u3, u4, u5, u6⟩ := wf.2.2.2.2 q w hq hw
          exact ⟨u1, u2, u3, u4, by show wF w < ((sRc S + 1 : Nat) : Int); omega, u6⟩
        · have hq : q < sRc S + 1 := hq
          by_cases zq : q = sRc S
          · rw [zq, eRn, ← hRd]
            show (sl s : Int) ≤ 400
            omega
          · rw [eRu q (by omega)]; exact wfx.2 q (by omega)
      have hC2 : CInv S' (sI (sI σ1 1 1 (0 : Int32)) 0 4 (w32 ((sRc S + 1 : Nat) : Int))) := by
        obtain ⟨a, ⟨b1, b2⟩, ⟨d1, d2⟩, ⟨pn, e1, e2, e3, e4⟩, g⟩ := hC
        refine ⟨a.fr f3 (fun i hi => by omega), ⟨gI_eq .., fun q hq => ?_⟩, ⟨by rw [gI_nec (by decide), gI_eq]; rfl, fun i hi => absurd hi (Nat.not_lt_zero i)⟩, ⟨pn, e1, ?_, ?_, fun i hi => ?_⟩, fun q hq => ?_⟩
        · have hq : q < sRc S + 1 := hq
          by_cases zq : q = sRc S
          · rw [zq, eRn]
            have f4 : Fr (fun c => c = 0 ∨ c = 1) σ1 (sI (sI σ1 1 1 (0 : Int32)) 0 4 (w32 ((sRc S + 1 : Nat) : Int))) := ((Fr.rf _ σ1).sI (Or.inr rfl)).sI (Or.inl rfl)
            exact hG.fr f4 (fun i hi => by omega)
          · rw [eRu q (by omega)]
            exact (b2 q (by omega)).fr f3 (fun i hi => by omega)
        · rw [gI_nej (by decide), gI_nec (by decide), f1'.gI (by omega)]; exact e2
        · rw [gI_nej (by decide), gI_nec (by decide), f1'.gI (by omega)]; exact e3
        · have := past_rg (pn := pn) (pc := sPc S) (i := i)
          exact (e4 i hi).fr f3 (fun a ha => by omega)
        · have gq := g q hq
          cases hI : sIm S q with
          | none =>
            rw [hI] at gq
            show match sIm S q with | none => _ | some w => _
            rw [hI, f3.gI (by omega)]; exact gq
          | some w =>
            rw [hI] at gq
            show match sIm S q with | none => _ | some w => _
            rw [hI]
            exact ⟨by rw [f3.gI (by omega)]; exact gq.1, gq.2.fr f3 (fun i hi => by omega)⟩
      have f5 : Fr (fun c => c = 483 ∨ (485 ≤ c ∧ c ≤ 490)) (sI (sI σ1 1 1 (0 : Int32)) 0 4 (w32 ((sRc S + 1 : Nat) : Int))) (sI σ' 483 2 (w32 ((sRc S + 1 : Nat) : Int))) := r2.sI (Or.inl rfl)
      have ep : w32 ((sRc S + 1 : Nat) : Int) - (1 : Int32) = w32 (sRc S : Int) := w_pred _
      refine ⟨S', wf2, w32 (sRc S : Int), sI (sI σ1 1 1 (0 : Int32)) 0 4 (w32 ((sRc S + 1 : Nat) : Int)), sI σ' 483 2 (w32 ((sRc S + 1 : Nat) : Int)), ?_, ?_, hC2.fr (show sRc S + 1 ≤ 6 by omega) f5 (fun c h => by unfold Scr; omega), ?_⟩
      · rw [hcl, if_pos ey, gI_eq, ep]
      · rw [mm, if_neg (by rw [oy]; decide), s2', w_succ, gI_eq, ep]
      · obtain ⟨⟨a1, a2⟩, ⟨b1, b2, b3, b4, b5, b6, b7, b8⟩, ⟨c1, c2⟩, ⟨d1, d2⟩, ⟨e1, e2⟩, g⟩ := r1
        refine ⟨⟨?_, ?_⟩, ⟨?_, ?_, ?_, ?_, ?_, ?_, ?_, ?_⟩, ⟨gI_eq .., fun q hq => ?_⟩, ⟨?_, fun i hi => absurd hi (Nat.not_lt_zero i)⟩, ⟨?_, fun i hi => ?_⟩, fun q hq => ?_⟩
        · rw [gI_ne _ _ _ (by decide)]; exact a1
        · rw [gI_ne _ _ _ (by decide)]; exact a2
        · rw [gI_nej (by decide)]; exact b1
        · rw [gI_nej (by decide)]; exact b2
        · rw [gI_nej (by decide)]; exact b3
        · rw [gI_nej (by decide)]; exact b4
        · rw [gI_nej (by decide)]; exact b5
        · rw [gI_nej (by decide)]; exact b6
        · rw [gI_nej (by decide)]; exact b7
        · rw [gI_nej (by decide)]; exact b8
        · have hq : q < sRc S + 1 := hq
          by_cases zq : q = sRc S
          · rw [zq, eRn]
            have e03 : R 0 3 = (i : Int) := by rw [← hRd]; rfl
            have e01 : R 0 1 = (sl s : Int) := by rw [← hRd]; rfl
            refine ⟨?_, fun j hj => ?_, fun j hj => ?_⟩
            · rw [gI_nec (by decide), e03]; exact oM.1
            · rw [e01] at hj
              rw [gI_nec (by decide), o5 j (by omega), ← hRd, mkG_1 (by omega)]
            · rw [e03] at hj
              have := oM.2 j (by omega)
              rw [gI_nec (by decide), gI_nec (by decide), gI_nec (by decide), gI_nec (by decide), ← hRd, mkG_a (by decide) (by omega), mkG_a (by decide) (by omega), mkG_a (by decide) (by omega)]
              exact this
          · rw [eRu q (by omega)]
            obtain ⟨x1, x2, x3⟩ := c2 q (show q < sRc S by omega)
            refine ⟨by rw [gI_nec (by decide)]; exact x1, fun j hj => by rw [gI_nec (by decide)]; exact x2 j hj, fun j hj => ?_⟩
            rw [gI_nec (by decide), gI_nec (by decide), gI_nec (by decide), gI_nec (by decide)]
            exact x3 j hj
        · rw [gI_nej (by decide)]; exact d1
        · rw [gI_nej (by decide)]; exact e1
        · rw [gI_ne _ _ _ (by decide)]; exact e2 i hi
        · have gq := g q hq
          have gq : match sIm S q with | none => gI σ' 509 q = w32 0 | some w => gI σ' 509 q = w32 1 ∧ gI σ' 507 q = w32 (wF w) ∧ gI σ' 508 q = w32 (wX w) ∧ SaidR (fun i => gI σ' 506 (132 * q + i)) (wP w) (wA w) ∧ NoteR (fun i => gI σ' 506 (132 * q + i)) (wN w) := gq
          show match sIm S q with | none => _ | some w => _
          cases hI : sIm S q with
          | none =>
            rw [hI] at gq
            rw [gI_ne _ _ _ (by decide)]; exact gq
          | some w =>
            rw [hI] at gq
            rw [gI_ne _ _ _ (by decide), gI_ne _ _ _ (by decide), gI_ne _ _ _ (by decide), gI_ne _ _ _ (by decide)]
            exact gq
