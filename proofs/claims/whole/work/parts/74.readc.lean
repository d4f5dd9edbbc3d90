/-! TEXTS, 5: a whole RULE; the class reads it -/
abbrev Rz : Type := Except Int (Nat × St × Dat)
def erz (p c : Nat) : Rz := .error (1 + 8 * (p : Int) + (c : Int))
def isK (B : Nat → Int) (L : Nat) (w : List Int) (p : Nat) : Bool := isw B p (rn B L 97 122 p) w
def kStr : List Int := [115, 116, 114, 105, 107, 101]
def kIf : List Int := [105, 102]
def tstS (B : Nat → Int) (L : Nat) (s : St) : Re :=
  if isK B L kIf (sk B L (sp s)) = true then tesS B L (facS B L 10) (to s (sk B L (sp s) + rn B L 97 122 (sk B L (sp s))))
  else .ok (to s (sk B L (sp s)))
def clM (M : Dat) (i : Nat) (a b c : Int) : Dat := up (up (up M 2 i a) 3 i b) 4 i c
def rulL (B : Nat → Int) (L : Nat) : Nat → Nat → St → Dat → Rz
  | 0, _, _, _ => .error 0
  | d + 1, i, s, M =>
    if isK B L kStr (sk B L (sp s)) = true then
      if i = 12 then erz (sk B L (sp s)) 4
      else match sumS B L (to s (sk B L (sp s) + rn B L 97 122 (sk B L (sp s)))) with
        | .error f => .error f
        | .ok s2 => match tstS B L s2 with
          | .error f => .error f
          | .ok s3 =>
            if ch B L (sk B L (sp s3)) = 59 then rulL B L d (i + 1) (to s3 (sk B L (sp s3) + 1)) (clM M i (sl s) (sl s2) (sl s3))
            else if ch B L (sk B L (sp s3)) = -1 then .ok (i + 1, to s3 (sk B L (sp s3)), clM M i (sl s) (sl s2) (sl s3))
            else erz (sk B L (sp s3)) 0
    else erz (sk B L (sp s)) 0
def rulS (B : Nat → Int) (L : Nat) : Rz := rulL B L 13 0 (0, 0, 0, fun _ => 0) (fun _ _ => 0)
theorem clM_lo {M : Dat} {i j k : Nat} {a b c : Int} (h : j ≠ i) : clM M i a b c k j = M k j := by
  unfold clM
  rw [up_at, if_neg (fun z => h z.2), up_at, if_neg (fun z => h z.2), up_at, if_neg (fun z => h z.2)]
theorem clM_2 {M : Dat} {i : Nat} {a b c : Int} : clM M i a b c 2 i = a := by
  unfold clM
  rw [up_at, if_neg (fun z => absurd z.1 (by decide)), up_at, if_neg (fun z => absurd z.1 (by decide)), up_eq]
theorem clM_3 {M : Dat} {i : Nat} {a b c : Int} : clM M i a b c 3 i = b := by
  unfold clM
  rw [up_at, if_neg (fun z => absurd z.1 (by decide)), up_eq]
theorem clM_4 {M : Dat} {i : Nat} {a b c : Int} : clM M i a b c 4 i = c := up_eq ..
/-- what a text gives: the RULE as rows of numbers -/
def mkR (i : Nat) (s : St) (M : Dat) : Dat := fun a b => if a = 0 then (if b = 3 then (i : Int) else if b = 1 then (sl s : Int) else 0) else if a = 1 then sr s b else M a b
/-! it is well formed -/
def vr (r : Nat → Int) (w : Nat → Int64) (a b : Int) : Int64 := match run r w (b - a).toNat a.toNat [] with
  | some (x :: _) => x
  | _ => 0
def Wk (r : Nat → Int) (i l : Nat) (M : Dat) : Prop := ∀ j : Nat, j < i → GoodS r (M 2 j) (M 3 j) ∧ (M 3 j = M 4 j ∨ (GoodS r (M 3 j) (M 4 j) ∧ ∀ w, vr r w (M 3 j) (M 4 j) = 0 ∨ vr r w (M 3 j) (M 4 j) = 1)) ∧ M 3 j ≤ (l : Int) ∧ M 4 j ≤ (l : Int)
theorem GoodS.same {r r' : Nat → Int} {a b : Int} {l : Nat} (h : GoodS r a b) (hb : b ≤ (l : Int)) (e : ∀ k, k < l → r' k = r k) : GoodS r' a b := by
  obtain ⟨h1, h2, h3, h4, h5⟩ := h
  refine ⟨h1, h2, h3, fun k a1 a2 => by rw [e k (by omega)]; exact h4 k a1 a2, fun w => ?_⟩
  obtain ⟨x, hx⟩ := h5 w
  exact ⟨x, by rw [run_same (r' := r) _ _ _ (fun k a1 a2 => e k (by omega))]; exact hx⟩
theorem vr_same {r r' : Nat → Int} {a b : Int} {l : Nat} {w : Nat → Int64} (ha : 0 ≤ a) (hab : a ≤ b) (hb : b ≤ (l : Int)) (e : ∀ k, k < l → r' k = r k) : vr r' w a b = vr r w a b := by
  unfold vr
  rw [run_same (r' := r) _ _ _ (fun k a1 a2 => e k (by omega))]
theorem Wk.same {r r' : Nat → Int} {i l l' : Nat} {M : Dat} (h : Wk r i l M) (hl : l ≤ l') (e : ∀ k, k < l → r' k = r k) : Wk r' i l' M := fun j hj => by
  obtain ⟨a, b, c, d⟩ := h j hj
  refine ⟨a.same c e, ?_, by omega, by omega⟩
  rcases b with b | ⟨b1, b2⟩
  · exact Or.inl b
  · exact Or.inr ⟨b1.same d e, fun w => by rw [vr_same b1.1 b1.2.1 d e]; exact b2 w⟩
theorem good_ext {L : Nat} {s s' : St} (hL : L ≤ 400) (hl : sl s ≤ sp s) (h : Ext L s s') (hs : Sem s s') : GoodS (sr s') (sl s : Int) (sl s' : Int) := by
  obtain ⟨a1, a2, a3, a4, a5, a6, a7, a8⟩ := h
  refine ⟨by omega, by omega, by omega, fun k h1 h2 => a8 k (by omega) (by omega), fun w => ?_⟩
  obtain ⟨x, e⟩ := hs w [] (show 0 + (sn s' - sn s) ≤ 61 by omega)
  exact ⟨x, by rw [show ((sl s' : Int) - (sl s : Int)).toNat = sl s' - sl s by omega, Int.toNat_natCast]; exact e⟩
theorem good_01 {s s' : St} (hl : sl s ≤ sl s') (hn : sn s' ≤ 60) (hs : Sem2 s s') (w : Nat → Int64) : vr (sr s') w (sl s : Int) (sl s' : Int) = 0 ∨ vr (sr s') w (sl s : Int) (sl s' : Int) = 1 := by
  obtain ⟨x, hx, e⟩ := hs w [] (show 0 + (sn s' - sn s) ≤ 61 by omega)
  unfold vr
  rw [show ((sl s' : Int) - (sl s : Int)).toNat = sl s' - sl s by omega, Int.toNat_natCast, e]
  exact hx
theorem tstS_ok {B : Nat → Int} {L : Nat} {s s' : St} (hT : Txt B L) (hn : sn s ≤ 60) (hp : sp s ≤ L) (h : tstS B L s = .ok s') : s' = to s (sk B L (sp s)) ∨ (Ext L s s' ∧ Sem2 s s') := by
  have q := sk_rg (B := B) (L := L) (p := sp s)
  unfold tstS at h
  split at h
  · obtain ⟨x1, x2⟩ := tesS_ok (s := to s (sk B L (sp s) + rn B L 97 122 (sk B L (sp s)))) hT (facS_ok hT 10) hn h
    exact Or.inr ⟨x1.pre (by omega), x2⟩
  · cases h
    exact Or.inl rfl
theorem rulL_ok {B : Nat → Int} {L : Nat} (hT : Txt B L) : ∀ (d i : Nat) (s : St) (M : Dat) (z : Nat × St × Dat), sl s ≤ sp s → sp s ≤ L → sn s ≤ 60 → i ≤ 12 → Wk (sr s) i (sl s) M → rulL B L d i s M = .ok z → z.1 ≤ 12 ∧ sl z.2.1 ≤ L ∧ sp z.2.1 ≤ L ∧ Wk (sr z.2.1) z.1 (sl z.2.1) z.2.2 := by
  have hL := hT.1
  intro d
  induction d with
  | zero => intro i s M z _ _ _ _ _ h; cases h
  | succ d ih =>
    intro i s M z hl hp hn hi hW h
    have q := sk_rg (B := B) (L := L) (p := sp s)
    have rr := (rn_rg (B := B) (L := L) (p := sk B L (sp s)) (lo := 97) (hi := 122)).1
    unfold rulL at h
    split at h
    · split at h
      · cases h
      · rename_i h12
        split at h
        · cases h
        · rename_i s2 e2
          obtain ⟨x1, x2⟩ := sumS_ok (s := to s (sk B L (sp s) + rn B L 97 122 (sk B L (sp s)))) hT hn e2
          have hg := good_ext hL (show sl s ≤ sk B L (sp s) + rn B L 97 122 (sk B L (sp s)) by omega) x1 x2
          obtain ⟨a1, a2, a3, a4, a5, a6, a7, a8⟩ := x1
          have a1 : sk B L (sp s) + rn B L 97 122 (sk B L (sp s)) < sp s2 := a1
          have a3 : sl s < sl s2 := a3
          have a4 : sl s2 + (sk B L (sp s) + rn B L 97 122 (sk B L (sp s))) ≤ sp s2 + sl s := a4
          have a7 : ∀ i, i < sl s → sr s2 i = sr s i := a7
          split at h
          · cases h
          · rename_i s3 e3
            have key : sl s3 ≤ sp s3 ∧ sp s3 ≤ L ∧ sn s3 ≤ 60 ∧ Wk (sr s3) (i + 1) (sl s3) (clM M i (sl s) (sl s2) (sl s3)) := by
              have hW2 : ∀ (s3 : St), sl s2 ≤ sl s3 → (∀ k, k < sl s2 → sr s3 k = sr s2 k) → GoodS (sr s3) (sl s) (sl s2) ∧ Wk (sr s3) i (sl s3) M := fun s3 g1 g2 =>
                ⟨hg.same (Int.le_refl _) g2, hW.same (by omega) (fun k hk => by rw [g2 k (by omega), a7 k hk])⟩
              have asm : ∀ (s3 : St), GoodS (sr s3) (sl s) (sl s2) → Wk (sr s3) i (sl s3) M → ((sl s2 : Int) = (sl s3 : Int) ∨ (GoodS (sr s3) (sl s2) (sl s3) ∧ ∀ w, vr (sr s3) w (sl s2) (sl s3) = 0 ∨ vr (sr s3) w (sl s2) (sl s3) = 1)) → sl s2 ≤ sl s3 → Wk (sr s3) (i + 1) (sl s3) (clM M i (sl s) (sl s2) (sl s3)) := by
                intro s3 g1 g2 g3 g4 j hj
                by_cases z : j = i
                · rw [z, clM_2, clM_3, clM_4]
                  exact ⟨g1, g3, by omega, Int.le_refl _⟩
                · rw [clM_lo z, clM_lo z, clM_lo z]
                  exact g2 j (by omega)
              rcases tstS_ok hT a6 a2 e3 with e | ⟨y1, y2⟩
              · subst e
                have q2 := sk_rg (B := B) (L := L) (p := sp s2)
                obtain ⟨g1, g2⟩ := hW2 (to s2 (sk B L (sp s2))) (Nat.le_refl _) (fun _ _ => rfl)
                exact ⟨show sl s2 ≤ sk B L (sp s2) by omega, show sk B L (sp s2) ≤ L by omega, a6, asm _ g1 g2 (Or.inl rfl) (Nat.le_refl _)⟩
              · have hg3 := good_ext hL (show sl s2 ≤ sp s2 by omega) y1 y2.s
                obtain ⟨b1, b2, b3, b4, b5, b6, b7, b8⟩ := y1
                obtain ⟨g1, g2⟩ := hW2 s3 (by omega) b7
                exact ⟨by omega, b2, b6, asm _ g1 g2 (Or.inr ⟨hg3, good_01 (by omega) b6 y2⟩) (by omega)⟩
            obtain ⟨k1, k2, k3, k4⟩ := key
            have q3 := sk_rg (B := B) (L := L) (p := sp s3)
            split at h
            · rename_i h59
              have hlt : sk B L (sp s3) < L := ch_lt (B := B) (L := L) (by omega)
              exact ih (i + 1) (to s3 (sk B L (sp s3) + 1)) _ z (show sl s3 ≤ sk B L (sp s3) + 1 by omega) hlt k3 (by omega) k4 h
            · split at h
              · cases h
                exact ⟨by show i + 1 ≤ 12; omega, show sl s3 ≤ L by omega, show sk B L (sp s3) ≤ L by omega, k4⟩
              · cases h
    · cases h
theorem rulS_wf {B : Nat → Int} {L i : Nat} {s : St} {M : Dat} (hT : Txt B L) (h : rulS B L = .ok (i, s, M)) : WfR (mkR i s M) ∧ WfL (mkR i s M) ∧ i ≤ 12 ∧ sl s ≤ 400 := by
  have hL := hT.1
  obtain ⟨h1, h2, h2b, h3⟩ := rulL_ok hT 13 0 (0, 0, 0, fun _ => 0) (fun _ _ => 0) (i, s, M) (Nat.le_refl _) (Nat.zero_le _) (Nat.zero_le _) (Nat.zero_le _) (fun j hj => absurd hj (Nat.not_lt_zero j)) h
  have e03 : mkR i s M 0 3 = (i : Int) := rfl
  have e01 : mkR i s M 0 1 = (sl s : Int) := rfl
  have h1 : i ≤ 12 := h1
  have h2 : sl s ≤ L := h2
  refine ⟨⟨by rw [e03]; omega, by rw [e03]; omega, fun j hj => ?_⟩, fun j hj => ?_, h1, by omega⟩
  · rw [e03] at hj
    obtain ⟨a, b, -, -⟩ := h3 j (show j < i by omega)
    exact ⟨a, b⟩
  · rw [e03] at hj
    rw [e01]
    exact (h3 j (show j < i by omega)).2.2.2
/-! the class -/
theorem PC.ne {B : Nat → Int} {L c : Nat} {s : St} {σ : Mem} (h : PC B L c s σ) {c' j : Nat} {v : Int32} (h1 : c' ≠ 1 ∧ c' ≠ 2) (h2 : c' ≠ c ∨ (j ≠ 1 ∧ j ≠ 2)) (h3 : c' ≠ c + 1) : PC B L c s (sI σ c' j v) := by
  refine ⟨h.1.ne h1, ?_, ?_, fun i hi => by rw [gI_nec (by omega)]; exact h.2.2.2 i hi⟩
  · rw [gI_sI, if_neg (by omega)]; exact h.2.1
  · rw [gI_sI, if_neg (by omega)]; exact h.2.2.1
theorem PB.ne {B : Nat → Int} {L c k : Nat} {f : Int} {σ : Mem} (h : PB B L c k f σ) {c' j : Nat} {v : Int32} (h1 : c' ≠ 1 ∧ c' ≠ 2) (h2 : c' ≠ c ∨ j ≠ 1) : PB B L c k f (sI σ c' j v) := by
  obtain ⟨a, b, d, p, e, ht, l, hl, g⟩ := h
  exact ⟨a, b, d, p, e, ht.ne h1, l, hl, by rw [gI_sI, if_neg (by omega)]; exact g⟩
theorem PB.f2 {B : Nat → Int} {L c k : Nat} {f : Int} {σ : Mem} (h : PB B L c k f σ) : gI σ 1 3 = w32 f := by
  obtain ⟨a, b, d, p, e, ht, -⟩ := h
  exact ht.2.2.2
theorem PB.next {F : Nat} {B : Nat → Int} {L c k : Nat} {f : Int} {σ : Mem} (hT : Txt B L) (hc : 100 ≤ c) (hF : 1000 ≤ F) (hk : 400 ≤ k ∧ k ≤ 100000) (h : PB B L c k f σ) : ∃ v σ', m8_next F σ = some (v, σ') ∧ PB B L c k f σ' := by
  have hL := hT.1
  obtain ⟨a, b, d, p, e, ht, hb⟩ := h
  obtain ⟨σ1, m1, t1, f1⟩ := next_c (F := F) hT ht (by omega) hF
  have q := sk_rg (B := B) (L := L) (p := p)
  exact ⟨_, σ1, m1, a, b, d, _, by omega, t1, hb.fr f1 (by omega)⟩
theorem PB.pass {F : Nat} {B : Nat → Int} {L c k : Nat} {f : Int} {σ : Mem} (hT : Txt B L) (hc : 100 ≤ c) (hF : 1000 ≤ F) (hk : 400 ≤ k ∧ k ≤ 100000) (h : PB B L c k f σ) : ∃ σ', m8_passWord F σ = some σ' ∧ PB B L c k f σ' := by
  have hL := hT.1
  obtain ⟨a, b, d, p, e, ht, hb⟩ := h
  obtain ⟨σ1, m1, t1, f1⟩ := passWord_c (F := F) hT ht (by omega) hF
  have q := (rn_rg (B := B) (L := L) (p := p) (lo := 97) (hi := 122)).1
  exact ⟨σ1, m1, a, b, d, _, by omega, t1, hb.fr f1 (by omega)⟩
theorem r82_b {F : Nat} {B : Nat → Int} {L c k i : Nat} {f : Int} {k21 : Int32 → Mem → Option (Int32 × Mem)} {σ : Mem} (hT : Txt B L) (hc : 100 ≤ c) (hF : 1000 ≤ F) (hk : 400 ≤ k ∧ k ≤ 100000) (hi : i < 12) (h : PB B L c k f σ) : ∃ σ', m5_read_82 F c k21 (w32 (i : Int)) σ = some (w32 f, σ') ∧ PB B L c k f σ' := by
  unfold m5_read_82
  rw [gd_pos (w_inB (by omega) (by omega) (by omega))]
  dsimp only
  have h1 := (h.ne (c' := c + 4) (j := (w32 (i : Int)).toNatClampNeg) (v := gI σ c 1) (by omega) (by omega)).ne (c' := c) (j := 3) (v := w32 (i : Int) + 1) (by omega) (by omega)
  obtain ⟨v, σ2, m2, b2⟩ := h1.next (F := F) hT hc hF hk
  rw [m2, Option.bind_some]
  dsimp only
  rw [if_neg b2.f1, b2.f2]
  exact ⟨σ2, rfl, b2⟩
theorem test_b {F : Nat} {B : Nat → Int} {L c k : Nat} {f : Int} {σ : Mem} (hT : Txt B L) (hc : 100 ≤ c) (hF : 1000 ≤ F) (hk : 400 ≤ k ∧ k ≤ 5000) (h : PB B L c k f σ) : ∃ σ', m5_readTest F (m5_readFact F 13) c (0 : Int32) σ = some σ' ∧ PB B L c (k + 22) f σ' := by
  obtain ⟨σ1, m1, b1⟩ := fact_b (F := F) hT hc hF 10 13 k f σ (by decide) (by decide) hk.1 (by omega) h
  have m1 : m5_readFact F 13 c (0 : Int32) σ = some σ1 := m1
  unfold m5_readTest
  rw [m1, Option.bind_some]
  exact test11_b hc (by omega) b1
/-- behind "strike" -/
def rdT (F c n : Nat) (x2 : Int32) (p2 : Mem) : Option (Int32 × Mem) :=
      gd (inB x2 12 = true) <|
      let σ3 : Mem := sI p2 (c + 2) (x2).toNatClampNeg (gI p2 c 1)
      Option.bind (m5_readSum F c σ3) fun p4 =>
      gd (inB x2 12 = true) <|
      let σ5 : Mem := sI p4 (c + 3) (x2).toNatClampNeg (gI p4 c 1)
      Option.bind (m8_next F σ5) fun p6 =>
      Option.bind (m8_word F 4 p6.2) fun p7 =>
      if p7 = (-1 : Int32) then (
        m5_read_82 F c (fun x2 σ => m5_read_21 F c n x2 σ) x2 p6.2
        ) else (
        Option.bind (m8_passWord F p6.2) fun p8 =>
        Option.bind (m5_readTest F (m5_readFact F 13) c (0 : Int32) p8) fun p9 =>
        m5_read_82 F c (fun x2 σ => m5_read_21 F c n x2 σ) x2 p9
        )
def rdU (F c n : Nat) (x2 : Int32) (p4 : Mem) : Option (Int32 × Mem) :=
      gd (inB x2 12 = true) <|
      let σ5 : Mem := sI p4 (c + 3) (x2).toNatClampNeg (gI p4 c 1)
      Option.bind (m8_next F σ5) fun p6 =>
      Option.bind (m8_word F 4 p6.2) fun p7 =>
      if p7 = (-1 : Int32) then (
        m5_read_82 F c (fun x2 σ => m5_read_21 F c n x2 σ) x2 p6.2
        ) else (
        Option.bind (m8_passWord F p6.2) fun p8 =>
        Option.bind (m5_readTest F (m5_readFact F 13) c (0 : Int32) p8) fun p9 =>
        m5_read_82 F c (fun x2 σ => m5_read_21 F c n x2 σ) x2 p9
        )
theorem rdU_b {F : Nat} {B : Nat → Int} {L c k i n : Nat} {f : Int} {σ : Mem} (hT : Txt B L) (hc : 100 ≤ c) (hF : 1000 ≤ F) (hk : 400 ≤ k ∧ k ≤ 5000) (hi : i < 12) (h : PB B L c k f σ) : ∃ σ', rdU F c n (w32 (i : Int)) σ = some (w32 f, σ') ∧ PB B L c (k + 22) f σ' := by
  have hL := hT.1
  unfold rdU
  rw [gd_pos (w_inB (by omega) (by omega) (by omega))]
  dsimp only
  have h1 := h.ne (c' := c + 3) (j := (w32 (i : Int)).toNatClampNeg) (v := gI σ c 1) (by omega) (by omega)
  obtain ⟨v, σ2, m2, b2⟩ := h1.next (F := F) hT hc hF (by omega)
  rw [m2, Option.bind_some]
  dsimp only
  obtain ⟨-, -, -, p, hp, t2, -⟩ := id b2
  rw [word_c (by decide) hT t2 (by omega) hF, Option.bind_some]
  split
  · obtain ⟨σ3, m3, b3⟩ := r82_b (F := F) (k21 := fun x2 σ => m5_read_21 F c n x2 σ) hT hc hF (by omega) hi b2
    exact ⟨σ3, m3, b3.mono (by omega)⟩
  · obtain ⟨σ3, m3, b3⟩ := b2.pass (F := F) hT hc hF (by omega)
    obtain ⟨σ4, m4, b4⟩ := test_b (F := F) hT hc hF (by omega) b3
    rw [m3, Option.bind_some, m4, Option.bind_some]
    exact r82_b hT hc hF (by omega) hi b4
theorem rdT_b {F : Nat} {B : Nat → Int} {L c k i n : Nat} {f : Int} {σ : Mem} (hT : Txt B L) (hc : 100 ≤ c) (hF : 1000 ≤ F) (hk : 400 ≤ k ∧ k ≤ 5000) (hi : i < 12) (h : PB B L c k f σ) : ∃ σ', rdT F c n (w32 (i : Int)) σ = some (w32 f, σ') ∧ PB B L c (k + 22) f σ' := by
  unfold rdT
  rw [gd_pos (w_inB (by omega) (by omega) (by omega))]
  dsimp only
  have h1 := h.ne (c' := c + 2) (j := (w32 (i : Int)).toNatClampNeg) (v := gI σ c 1) (by omega) (by omega)
  obtain ⟨σ2, m2, b2⟩ := sum_b (F := F) hT hc hF (by omega) h1
  rw [m2, Option.bind_some]
  exact rdU_b hT hc hF hk hi b2
theorem isK_wdx {B : Nat → Int} {p n : Nat} {w : List Int} : wdx B p n [w] 0 = if isw B p n w = true then 0 else -1 := rfl
theorem strike_c {F : Nat} {B : Nat → Int} {L c : Nat} {s : St} {i1 : Int32} {σ : Mem} (hT : Txt B L) (hc : 100 ≤ c) (hF : 1000 ≤ F) (h : PC B L c s σ) (hl : sl s ≤ 400) (hp : sp s ≤ L) : ∃ σ', m5_passStrike F i1 σ = some σ' ∧ Fr (fun c => c = 1) σ σ' ∧ (if isK B L kStr (sk B L (sp s)) = true then (if i1 = 0 then PC B L c (to s (sk B L (sp s) + rn B L 97 122 (sk B L (sp s)))) σ' else OC B L c 500 (er (sk B L (sp s)) 4) σ') else OC B L c 500 (er (sk B L (sp s)) 0) σ') := by
  have hL := hT.1
  obtain ⟨σ1, m1, t1, f1⟩ := next_c (F := F) hT h.1 (by omega) hF
  have q := sk_rg (B := B) (L := L) (p := sp s)
  have rr := (rn_rg (B := B) (L := L) (p := sk B L (sp s)) (lo := 97) (hi := 122)).1
  have R1 := h.2.fr f1 (by omega) (by omega)
  have w2 := word_c (F := F) (c1 := 2) (by decide) hT t1 (by omega) hF
  have e2 : wdx B (sk B L (sp s)) (rn B L 97 122 (sk B L (sp s))) (tws 2) 0 = if isK B L kStr (sk B L (sp s)) = true then 0 else -1 := rfl
  rw [e2] at w2
  have bad : ∀ e : Nat, e ≤ 10 → ∃ σ', (Option.bind (m8_fail F (w32 (sk B L (sp s) : Int)) (w32 (e : Int)) σ1) fun p3 => m5_passStrike_40 F i1 p3) = some σ' ∧ Fr (fun c => c = 1) σ σ' ∧ OC B L c 500 (er (sk B L (sp s)) e) σ' := by
    intro e he
    obtain ⟨σ2, m2, t2, f2⟩ := fail_c (F := F) (a := sk B L (sp s)) (c := (e : Int)) t1 (by omega) (by decide)
    obtain ⟨σ3, m3, t3, f3⟩ := passWord_c (F := F) hT t2 (by omega) hF
    unfold m5_passStrike_40
    rw [m2, Option.bind_some, m3]
    exact ⟨σ3, rfl, (f1.trans f2).trans f3, er_bad (by omega) he (by omega) t3 (((R1.fr f2 (by omega) (by omega)).fr f3 (by omega) (by omega)).b hl)⟩
  unfold m5_passStrike
  rw [m1, Option.bind_some]
  dsimp only
  rw [w2, Option.bind_some, t1.2.2.1]
  by_cases z : isK B L kStr (sk B L (sp s)) = true
  · rw [if_pos z, if_neg (show ¬ w32 0 = (-1 : Int32) by decide)]
    by_cases z1 : i1 = 0
    · rw [if_pos z1]
      obtain ⟨σ3, m3, t3, f3⟩ := passWord_c (F := F) hT t1 (by omega) hF
      unfold m5_passStrike_40
      rw [m3]
      refine ⟨σ3, rfl, f1.trans f3, ?_⟩
      rw [if_pos z, if_pos z1]
      exact ⟨t3, R1.fr f3 (by omega) (by omega)⟩
    · rw [if_neg z1]
      obtain ⟨σ3, m3, f3, o3⟩ := bad 4 (by decide)
      refine ⟨σ3, m3, f3, ?_⟩
      rw [if_pos z, if_neg z1]
      exact o3
  · rw [if_neg z, if_pos (show w32 (-1) = (-1 : Int32) from rfl)]
    obtain ⟨σ3, m3, f3, o3⟩ := bad 0 (by decide)
    refine ⟨σ3, m3, f3, ?_⟩
    rw [if_neg z]
    exact o3
theorem strike_b {F : Nat} {B : Nat → Int} {L c k : Nat} {f : Int} {i1 : Int32} {σ : Mem} (hT : Txt B L) (hc : 100 ≤ c) (hF : 1000 ≤ F) (hk : 400 ≤ k ∧ k ≤ 5000) (h : PB B L c k f σ) : ∃ σ', m5_passStrike F i1 σ = some σ' ∧ PB B L c k f σ' := by
  have hL := hT.1
  obtain ⟨v, σ1, m1, b1⟩ := h.next (F := F) hT hc hF (by omega)
  obtain ⟨a, b, d, p, hp, t1, hb⟩ := id b1
  have fl : ∀ e : Int, ∃ σ', (Option.bind (m8_fail F (gI σ1 1 2) (w32 e) σ1) fun p3 => m5_passStrike_40 F i1 p3) = some σ' ∧ PB B L c k f σ' := by
    intro e
    obtain ⟨σ2, m2, t2, f2⟩ := fail_c (F := F) (a := p) (c := e) t1 (by omega) (by omega)
    rw [ff_bad a] at t2
    have b2 : PB B L c k f σ2 := ⟨a, b, d, p, hp, t2, hb.fr f2 (by omega)⟩
    obtain ⟨σ3, m3, b3⟩ := b2.pass (F := F) hT hc hF (by omega)
    unfold m5_passStrike_40
    rw [t1.2.2.1, m2, Option.bind_some, m3]
    exact ⟨σ3, rfl, b3⟩
  unfold m5_passStrike
  rw [m1, Option.bind_some]
  dsimp only
  rw [word_c (by decide) hT t1 (by omega) hF, Option.bind_some]
  split
  · exact fl 0
  · split
    · obtain ⟨σ3, m3, b3⟩ := b1.pass (F := F) hT hc hF (by omega)
      unfold m5_passStrike_40
      rw [m3]
      exact ⟨σ3, rfl, b3⟩
    · exact fl 4
theorem rd21_b {F : Nat} {B : Nat → Int} {L c k i n : Nat} {f : Int} {σ : Mem} (hT : Txt B L) (hc : 100 ≤ c) (hF : 1000 ≤ F) (hk : 400 ≤ k ∧ k ≤ 5000) (hi : i ≤ 12) (hn : 0 < n) (h : PB B L c k f σ) : ∃ σ', m5_read_21 F c n (w32 (i : Int)) σ = some (w32 f, σ') ∧ PB B L c (k + 22) f σ' := by
  obtain ⟨n, rfl⟩ : ∃ k, n = k + 1 := ⟨n - 1, by omega⟩
  unfold m5_read_21
  by_cases z : i = 12
  · obtain ⟨σ1, m1, b1⟩ := strike_b (F := F) (i1 := (1 : Int32)) hT hc hF hk h
    rw [if_pos (by rw [wl_12, w_le (by omega) (by omega) (by omega) (by omega)]; omega), m1, Option.bind_some, b1.f2]
    exact ⟨σ1, rfl, b1.mono (by omega)⟩
  · obtain ⟨σ1, m1, b1⟩ := strike_b (F := F) (i1 := (0 : Int32)) hT hc hF hk h
    rw [if_neg (by rw [wl_12, w_le (by omega) (by omega) (by omega) (by omega)]; omega), m1, Option.bind_some]
    exact rdT_b (n := n) hT hc hF hk (by omega) b1
def CT (c i : Nat) (M : Dat) (σ : Mem) : Prop := ∀ j, j < i → gI σ (c + 2) j = w32 (M 2 j) ∧ gI σ (c + 3) j = w32 (M 3 j) ∧ gI σ (c + 4) j = w32 (M 4 j)
theorem CT.fr {W : Nat → Prop} {c i : Nat} {M : Dat} {σ σ' : Mem} (h : CT c i M σ) (f : Fr W σ σ') (hw : ¬ W (c + 2) ∧ ¬ W (c + 3) ∧ ¬ W (c + 4)) : CT c i M σ' := fun j hj => by
  rw [f.gI hw.1, f.gI hw.2.1, f.gI hw.2.2]; exact h j hj
def OZ (B : Nat → Int) (L c : Nat) (x : Rz) (y : Int32) (σ : Mem) : Prop := match x with
  | .ok z => y = 0 ∧ PC B L c z.2.1 σ ∧ gI σ c 3 = w32 (z.1 : Int) ∧ CT c z.1 z.2.2 σ
  | .error f => y = w32 f ∧ PB B L c 2000 f σ
/-- the first clauses, and what the clause under way has already -/
def CTp (c i : Nat) (M : Dat) (σ : Mem) : Prop := CT c i M σ
theorem rd21_c {F : Nat} {B : Nat → Int} {L c : Nat} (hT : Txt B L) (hc : 100 ≤ c) (hF : 1000 ≤ F) : ∀ (d i n : Nat) (s : St) (M : Dat) (σ : Mem), 12 - i < d → 12 - i < n → i ≤ 12 → PC B L c s σ → sl s ≤ sp s → sp s ≤ L → sn s ≤ 60 → CT c i M σ → ∃ y σ', m5_read_21 F c n (w32 (i : Int)) σ = some (y, σ') ∧ OZ B L c (rulL B L d i s M) y σ' := by
  have hL := hT.1
  intro d
  induction d with
  | zero => intro i n s M σ h; omega
  | succ d ih =>
    intro i n s M σ hd hn hi hP hl hp h60 hM
    obtain ⟨n, rfl⟩ : ∃ k, n = k + 1 := ⟨n - 1, by omega⟩
    have q := sk_rg (B := B) (L := L) (p := sp s)
    have rr := (rn_rg (B := B) (L := L) (p := sk B L (sp s)) (lo := 97) (hi := 122)).1
    unfold m5_read_21 rulL
    by_cases z12 : i = 12
    · obtain ⟨σ1, m1, f1, o1⟩ := strike_c (F := F) (i1 := (1 : Int32)) hT hc hF hP (by omega) hp
      rw [if_pos (by rw [wl_12, w_le (by omega) (by omega) (by omega) (by omega)]; omega), m1, Option.bind_some, if_pos z12]
      by_cases z : isK B L kStr (sk B L (sp s)) = true
      · rw [if_pos z, if_neg (by decide)] at o1
        rw [if_pos z]
        exact ⟨_, σ1, rfl, PB.f2 o1, PB.mono o1 (by decide)⟩
      · rw [if_neg z] at o1
        rw [if_neg z]
        exact ⟨_, σ1, rfl, PB.f2 o1, PB.mono o1 (by decide)⟩
    · obtain ⟨σ1, m1, f1, o1⟩ := strike_c (F := F) (i1 := (0 : Int32)) hT hc hF hP (by omega) hp
      rw [if_neg (by rw [wl_12, w_le (by omega) (by omega) (by omega) (by omega)]; omega), m1, Option.bind_some, if_neg z12]
      show ∃ y σ', rdT F c n (w32 (i : Int)) σ1 = some (y, σ') ∧ _
      by_cases z : isK B L kStr (sk B L (sp s)) = true
      · rw [if_pos z, if_pos rfl] at o1
        rw [if_pos z]
        have M1 := hM.fr f1 (by omega)
        have hpp : sp s ≤ sk B L (sp s) + rn B L 97 122 (sk B L (sp s)) ∧ sk B L (sp s) + rn B L 97 122 (sk B L (sp s)) ≤ L := by omega
        generalize sk B L (sp s) + rn B L 97 122 (sk B L (sp s)) = pp at *
        -- sumFrom
        have P2 := o1.ne (c' := c + 2) (j := i) (v := gI σ1 c 1) (by omega) (by omega) (by omega)
        have M2 : CT c i M (sI σ1 (c + 2) i (gI σ1 c 1)) ∧ gI (sI σ1 (c + 2) i (gI σ1 c 1)) (c + 2) i = w32 (sl s : Int) := by
          refine ⟨fun j hj => ?_, by rw [gI_eq]; exact o1.2.1⟩
          rw [gI_nej (by omega), gI_nec (by omega), gI_nec (by omega)]
          exact M1 j hj
        obtain ⟨σ3, m3, o3⟩ := sum_c (F := F) (k := 600) hT hc hF (by decide) P2 (show sl s ≤ pp by omega) (show pp ≤ L by omega) h60
        have f3 := f5_readSum m3
        show ∃ y σ', gd (inB (w32 (i : Int)) 12 = true) (Option.bind (m5_readSum F c (sI σ1 (c + 2) (w32 (i : Int)).toNatClampNeg (gI σ1 c 1))) fun p4 => rdU F c n (w32 (i : Int)) p4) = some (y, σ') ∧ _
        rw [gd_pos (w_inB (by omega) (by omega) (by omega)), w_natk (by omega), m3, Option.bind_some]
        cases hv : sumS B L (to s pp) with
        | error f =>
          rw [hv] at o3
          obtain ⟨σ4, m4, b4⟩ := rdU_b (F := F) (n := n) hT hc hF (by decide) (show i < 12 by omega) o3
          exact ⟨_, σ4, m4, rfl, b4.mono (by decide)⟩
        | ok s2 =>
          rw [hv] at o3
          obtain ⟨⟨a1, a2, a3, a4, a5, a6, a7, a8⟩, -⟩ := sumS_ok (s := to s pp) hT h60 hv
          have a1 : pp < sp s2 := a1
          have a4 : sl s2 + pp ≤ sp s2 + sl s := a4
          have M3 := M2.1.fr f3 (by unfold Wm5_readSum; omega)
          have M3b : gI σ3 (c + 2) i = w32 (sl s : Int) := by rw [f3.gI (by unfold Wm5_readSum; omega)]; exact M2.2
          -- testFrom
          have P4 := o3.ne (c' := c + 3) (j := i) (v := gI σ3 c 1) (by omega) (by omega) (by omega)
          have M4 : CT c i M (sI σ3 (c + 3) i (gI σ3 c 1)) ∧ gI (sI σ3 (c + 3) i (gI σ3 c 1)) (c + 2) i = w32 (sl s : Int) ∧ gI (sI σ3 (c + 3) i (gI σ3 c 1)) (c + 3) i = w32 (sl s2 : Int) := by
            refine ⟨fun j hj => ?_, by rw [gI_nec (by omega)]; exact M3b, by rw [gI_eq]; exact o3.2.1⟩
            rw [gI_nec (by omega), gI_nej (by omega), gI_nec (by omega)]
            exact M3 j hj
          obtain ⟨σ5, m5, t5, f5⟩ := next_c (F := F) hT P4.1 (by omega) hF
          have q2 := sk_rg (B := B) (L := L) (p := sp s2)
          have P5 : PC B L c (to s2 (sk B L (sp s2))) σ5 := ⟨t5, P4.2.fr f5 (by omega) (by omega)⟩
          have M5 := M4.1.fr f5 (by omega)
          have M5b : gI σ5 (c + 2) i = w32 (sl s : Int) ∧ gI σ5 (c + 3) i = w32 (sl s2 : Int) := by rw [f5.gI (by omega), f5.gI (by omega)]; exact M4.2
          have w4 := word_c (F := F) (c1 := 4) (by decide) hT t5 (by omega) hF
          have e4 : wdx B (sk B L (sp s2)) (rn B L 97 122 (sk B L (sp s2))) (tws 4) 0 = if isK B L kIf (sk B L (sp s2)) = true then 0 else -1 := rfl
          rw [e4] at w4
          -- what is left, once the test is through
          have fin : ∀ (s3 : St) (σ6 : Mem), PC B L c s3 σ6 → sl s3 ≤ sp s3 → sp s3 ≤ L → sn s3 ≤ 60 → CT c i M σ6 → gI σ6 (c + 2) i = w32 (sl s : Int) → gI σ6 (c + 3) i = w32 (sl s2 : Int) → ∃ y σ', m5_read_82 F c (fun x2 σ => m5_read_21 F c n x2 σ) (w32 (i : Int)) σ6 = some (y, σ') ∧ OZ B L c (if ch B L (sk B L (sp s3)) = 59 then rulL B L d (i + 1) (to s3 (sk B L (sp s3) + 1)) (clM M i (sl s) (sl s2) (sl s3))
            else if ch B L (sk B L (sp s3)) = -1 then .ok (i + 1, to s3 (sk B L (sp s3)), clM M i (sl s) (sl s2) (sl s3))
            else erz (sk B L (sp s3)) 0) y σ' := by
            intro s3 σ6 P6 c1 c2 c3 M6 M6b M6c
            have P7 := (P6.ne (c' := c + 4) (j := i) (v := gI σ6 c 1) (by omega) (by omega) (by omega)).ne (c' := c) (j := 3) (v := w32 ((i + 1 : Nat) : Int)) (by omega) (by omega) (by omega)
            have M7 : CT c (i + 1) (clM M i (sl s) (sl s2) (sl s3)) (sI (sI σ6 (c + 4) i (gI σ6 c 1)) c 3 (w32 ((i + 1 : Nat) : Int))) := by
              intro j hj
              rw [gI_nec (by omega), gI_nec (by omega), gI_nec (by omega), gI_nec (by omega), gI_nec (by omega)]
              by_cases zj : j = i
              · rw [zj, clM_2, clM_3, clM_4, gI_eq]
                exact ⟨M6b, M6c, P6.2.1⟩
              · rw [clM_lo zj, clM_lo zj, clM_lo zj, gI_nej zj]
                exact M6 j (by omega)
            obtain ⟨σ8, m8, t8, f8⟩ := next_c (F := F) hT P7.1 (by omega) hF
            have q3 := sk_rg (B := B) (L := L) (p := sp s3)
            have R8 := P7.2.fr f8 (by omega) (by omega)
            have M8 := M7.fr f8 (by omega)
            have hch := ch_rg (p := sk B L (sp s3)) hT
            have e83 : gI σ8 c 3 = w32 ((i + 1 : Nat) : Int) := by rw [f8.gI (by omega), gI_eq]
            unfold m5_read_82
            rw [gd_pos (w_inB (by omega) (by omega) (by omega)), w_natk (by omega)]
            dsimp only
            rw [w_succ, m8, Option.bind_some]
            dsimp only
            rw [t8.2.2.2, if_pos (show w32 0 = (0 : Int32) from rfl)]
            by_cases z59 : ch B L (sk B L (sp s3)) = 59
            · have hlt : sk B L (sp s3) < L := ch_lt (B := B) (L := L) (by omega)
              rw [if_neg (by rw [wl_m1, w_eq (by omega) (by omega) (by omega) (by omega)]; omega), if_pos (by rw [z59]; rfl), if_pos z59]
              unfold m5_read_136
              dsimp only
              rw [t8.2.2.1, w_succ, w_succ]
              have P9 : PC B L c (to s3 (sk B L (sp s3) + 1)) (sI σ8 1 2 (w32 ((sk B L (sp s3) + 1 : Nat) : Int))) := ⟨t8.at _, R8.fr ((Fr.rf (fun c => c = 1) σ8).sI rfl) (by omega) (by omega)⟩
              exact ih (i + 1) n _ _ _ (by omega) (by omega) (by omega) P9 (show sl s3 ≤ sk B L (sp s3) + 1 by omega) hlt c3 (M8.fr ((Fr.rf (fun c => c = 1) σ8).sI rfl) (by omega))
            · rw [if_neg z59]
              by_cases zm : ch B L (sk B L (sp s3)) = -1
              · rw [if_pos (by rw [zm]; rfl), if_pos zm]
                exact ⟨_, σ8, rfl, rfl, ⟨t8, R8⟩, e83, M8⟩
              · rw [if_neg (by rw [wl_m1, w_eq (by omega) (by omega) (by omega) (by omega)]; exact zm), if_neg (by rw [wl_59, w_eq (by omega) (by omega) (by omega) (by omega)]; exact z59), if_neg zm, t8.2.2.1]
                obtain ⟨σ9, m9, t9, f9⟩ := fail_c (F := F) (a := sk B L (sp s3)) (c := 0) t8 (by omega) (by decide)
                rw [wl_0, m9, Option.bind_some]
                unfold m5_read_136
                dsimp only
                rw [t9.2.2.1, w_succ, w_succ]
                have b9 := er_bad (B := B) (L := L) (c := c) (k := 500) (p := sk B L (sp s3)) (e := 0) (by omega) (by decide) (by omega) (t9.at (sk B L (sp s3) + 1)) (((R8.fr f9 (by omega) (by omega)).fr ((Fr.rf (fun c => c = 1) σ9).sI rfl) (by omega) (by omega)).b (by omega))
                obtain ⟨σa, ma, ba⟩ := rd21_b (F := F) (n := n) (i := i + 1) hT hc hF (by decide) (by omega) (by omega) b9
                exact ⟨_, σa, ma, rfl, ba.mono (by decide)⟩
          unfold rdU
          rw [gd_pos (w_inB (by omega) (by omega) (by omega)), w_natk (by omega)]
          dsimp only
          rw [m5, Option.bind_some]
          dsimp only
          rw [w4, Option.bind_some]
          unfold tstS
          by_cases zI : isK B L kIf (sk B L (sp s2)) = true
          · rw [if_pos zI, if_neg (show ¬ w32 0 = (-1 : Int32) by decide), if_pos zI]
            obtain ⟨σ6, m6, t6, f6⟩ := passWord_c (F := F) hT t5 (by omega) hF
            have rr2 := (rn_rg (B := B) (L := L) (p := sk B L (sp s2)) (lo := 97) (hi := 122)).1
            have P6 : PC B L c (to s2 (sk B L (sp s2) + rn B L 97 122 (sk B L (sp s2)))) σ6 := ⟨t6, P5.2.fr f6 (by omega) (by omega)⟩
            have M6 := M5.fr f6 (by omega)
            have M6b : gI σ6 (c + 2) i = w32 (sl s : Int) ∧ gI σ6 (c + 3) i = w32 (sl s2 : Int) := by rw [f6.gI (by omega), f6.gI (by omega)]; exact M5b
            have hpp2 : sp s2 ≤ sk B L (sp s2) + rn B L 97 122 (sk B L (sp s2)) ∧ sk B L (sp s2) + rn B L 97 122 (sk B L (sp s2)) ≤ L := by omega
            rw [m6, Option.bind_some]
            generalize sk B L (sp s2) + rn B L 97 122 (sk B L (sp s2)) = p2 at *
            have hrec : ∀ (s : St) (σ : Mem), PC B L c s σ → sl s ≤ sp s → sp s ≤ L → sn s ≤ 60 → ∃ σ', m5_readFact F 13 c (0 : Int32) σ = some σ' ∧ OC B L c 620 (facS B L 10 s) σ' := fun s σ h1 h2 h3 h4 => fact_c (F := F) hT hc hF 10 13 s σ (by decide) (by decide) h1 h2 h3 h4
            obtain ⟨σ7, m7, o7⟩ := test_c (F := F) (k := 620) hT hc hF (by decide) (facS_ok hT 10) hrec P6 (show sl s2 ≤ p2 by omega) hpp2.2 a6
            have f7 := f5_readTest (f5_readFact F 13) c (0 : Int32) σ6 m7
            rw [m7, Option.bind_some]
            cases hw : tesS B L (facS B L 10) (to s2 p2) with
            | error f =>
              rw [hw] at o7
              obtain ⟨σ8, m8, b8⟩ := r82_b (F := F) (k21 := fun x2 σ => m5_read_21 F c n x2 σ) hT hc hF (by decide) (show i < 12 by omega) o7
              exact ⟨_, σ8, m8, rfl, b8.mono (by decide)⟩
            | ok s3 =>
              rw [hw] at o7
              obtain ⟨⟨b1, b2, b3, b4, b5, b6, -, -⟩, -⟩ := tesS_ok (s := to s2 p2) hT (facS_ok hT 10) a6 hw
              have b1 : p2 < sp s3 := b1
              have b4 : sl s3 + p2 ≤ sp s3 + sl s2 := b4
              exact fin s3 σ7 o7 (by omega) b2 b6 (M6.fr f7 (by unfold Wm5_readTest; omega)) (by rw [f7.gI (by unfold Wm5_readTest; omega)]; exact M6b.1) (by rw [f7.gI (by unfold Wm5_readTest; omega)]; exact M6b.2)
          · rw [if_neg zI, if_pos (show w32 (-1) = (-1 : Int32) from rfl), if_neg zI]
            exact fin _ σ5 P5 (show sl s2 ≤ sk B L (sp s2) by omega) (show sk B L (sp s2) ≤ L by omega) a6 M5 M5b.1 M5b.2
      · rw [if_neg z] at o1
        rw [if_neg z]
        obtain ⟨σ4, m4, b4⟩ := rdT_b (F := F) (n := n) hT hc hF (by decide) (show i < 12 by omega) o1
        exact ⟨_, σ4, m4, rfl, b4.mono (by decide)⟩
theorem read_c {F : Nat} {B : Nat → Int} {L c : Nat} {σ : Mem} (hT : Txt B L) (hc : 100 ≤ c) (hF : 1000 ≤ F) (h1 : gI σ 1 1 = w32 (L : Int)) (h2 : ∀ i, i < L → gI σ 2 i = w32 (B i)) : ∃ y σ', m5_read F c σ = some (y, σ') ∧ OZ B L c (rulS B L) y σ' := by
  unfold m5_read m8_rewind
  dsimp only
  rw [Option.bind_some]
  refine rd21_c hT hc hF 13 0 F (0, 0, 0, fun _ => 0) (fun _ _ => 0) _ (by omega) (by omega) (by omega) ⟨⟨?_, fun i hi => ?_, ?_, ?_⟩, ?_, ?_, fun i hi => absurd hi (Nat.not_lt_zero i)⟩ (Nat.le_refl _) (Nat.zero_le _) (Nat.zero_le _) (fun j hj => absurd hj (Nat.not_lt_zero j))
  · rw [gI_nej (by decide), gI_nej (by decide), gI_nec (by omega), gI_nec (by omega), gI_nec (by omega)]; exact h1
  · rw [gI_nec (by decide), gI_nec (by decide), gI_nec (by omega), gI_nec (by omega), gI_nec (by omega)]; exact h2 i hi
  · rw [gI_nej (by decide), gI_eq]; rfl
  · rw [gI_eq]; rfl
  · rw [gI_nec (by omega), gI_nec (by omega), gI_nej (by decide), gI_nej (by decide), gI_eq]; rfl
  · rw [gI_nec (by omega), gI_nec (by omega), gI_nej (by decide), gI_eq]; rfl
