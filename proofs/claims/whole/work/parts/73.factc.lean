/-! TEXTS, 4: the class reads facts and tests -/
theorem s53_c {F : Nat} {B : Nat → Int} {L c p : Nat} {f cc : Int} {σ : Mem} (hT : Txt B L) (hc : 100 ≤ c) (ht : TC B L p f σ) (hp : p ≤ 1000000) (hcc : cc = 60 ∨ cc = 61 ∨ cc = 62) : ∃ σ', m5_readSign_53 F c (w32 cc) σ = some (w32 (sgc cc (decide (cc ≠ 61) && decide (ch B L (p + 1) = 61))), σ') ∧ TC B L (if (decide (cc ≠ 61) && decide (ch B L (p + 1) = 61)) = true then p + 2 else p + 1) f σ' ∧ gI σ' c 1 = gI σ c 1 ∧ gI σ' c 2 = gI σ c 2 + 1 ∧ gI σ' (c + 1) = gI σ (c + 1) := by
  have hL := hT.1
  have t1 : TC B L (p + 1) f (sI (sI σ c 2 (gI σ c 2 + 1)) 1 2 (w32 ((p + 1 : Nat) : Int))) := (ht.ne (by omega)).at (p + 1)
  have g : ∀ σ1 : Mem, Fr (fun c => c = 1) (sI (sI σ c 2 (gI σ c 2 + 1)) 1 2 (w32 ((p + 1 : Nat) : Int))) σ1 → gI σ1 c 1 = gI σ c 1 ∧ gI σ1 c 2 = gI σ c 2 + 1 ∧ gI σ1 (c + 1) = gI σ (c + 1) := fun σ1 h => by
    refine ⟨?_, ?_, ?_⟩
    · rw [h.gI (by omega), gI_nec (by omega), gI_nej (by decide)]
    · rw [h.gI (by omega), gI_nec (by omega), gI_eq]
    · rw [h.gI (by omega), gI_ne _ _ _ (by omega), gI_ne _ _ _ (by omega)]
  have f127 : ∀ (x : Int) (σ1 : Mem), cc ≠ 61 → x = 0 ∨ x = 1 → m5_readSign_127 F c (w32 cc) (w32 x) σ1 = some (w32 (sgc cc (decide (x = 1))), σ1) := by
    intro x σ1 h61 hx
    unfold m5_readSign_127 sgc
    rcases hcc with rfl | rfl | rfl
    · rcases hx with rfl | rfl <;> rfl
    · exact absurd rfl h61
    · rcases hx with rfl | rfl <;> rfl
  unfold m5_readSign_53
  dsimp only
  rw [gI_nec (c := c) (c' := 1) (by omega), ht.2.2.1, w_succ]
  generalize hσ : (sI (sI σ c 2 (gI σ c 2 + 1)) 1 2 (w32 ((p + 1 : Nat) : Int))) = σ1 at *
  by_cases z : cc = 61
  · rw [if_pos (by rw [z]; rfl), z]
    exact ⟨σ1, rfl, t1, g σ1 (Fr.rf _ _)⟩
  · rw [if_neg (by rw [show (61 : Int32) = w32 61 from rfl, w_eq (by omega) (by omega) (by omega) (by omega)]; exact z), t1.1, t1.2.2.1]
    have no : ∃ σ', m5_readSign_111 F c (fun x2 s0 σ => m5_readSign_112 F c x2 s0 σ) (w32 cc) σ1 = some (w32 (sgc cc false), σ') ∧ TC B L (p + 1) f σ' ∧ gI σ' c 1 = gI σ c 1 ∧ gI σ' c 2 = gI σ c 2 + 1 ∧ gI σ' (c + 1) = gI σ (c + 1) := by
      show ∃ σ', m5_readSign_112 F c (w32 cc) 0 σ1 = _ ∧ _
      unfold m5_readSign_112
      rw [if_pos rfl]
      have := f127 0 σ1 z (Or.inl rfl)
      exact ⟨σ1, this, t1, g σ1 (Fr.rf _ _)⟩
    by_cases z2 : p + 1 < L
    · have b := hT.2 (p + 1) z2
      rw [if_neg (by rw [w_le (by omega) (by omega) (by omega) (by omega)]; omega), gd_pos (w_inB (by omega) (by omega) (by omega)), w_natk (by omega), t1.2.1 _ z2, ch_eq z2]
      by_cases z3 : B (p + 1) = 61
      · rw [if_pos (by rw [z3]; rfl), show (decide (cc ≠ 61) && decide (B (p + 1) = 61)) = true by rw [decide_eq_true z, decide_eq_true z3]; rfl]
        unfold m5_readSign_112
        rw [if_neg (by decide)]
        dsimp only
        rw [t1.2.2.1, w_succ]
        have := f127 1 (sI σ1 1 2 (w32 ((p + 1 + 1 : Nat) : Int))) z (Or.inr rfl)
        exact ⟨_, this, t1.at (p + 1 + 1), g _ ((Fr.rf _ _).sI rfl)⟩
      · rw [if_neg (by rw [show (61 : Int32) = w32 61 from rfl, w_eq (by omega) (by omega) (by omega) (by omega)]; exact z3), show (decide (cc ≠ 61) && decide (B (p + 1) = 61)) = false by rw [decide_eq_false z3, Bool.and_false]]
        exact no
    · rw [if_pos (by rw [w_le (by omega) (by omega) (by omega) (by omega)]; omega), show ch B L (p + 1) = -1 from if_neg z2, show (decide (cc ≠ 61) && decide ((-1 : Int) = 61)) = false by rw [show decide ((-1 : Int) = 61) = false from rfl, Bool.and_false]]
      exact no
theorem sign_b {F : Nat} {B : Nat → Int} {L c k : Nat} {f : Int} {σ : Mem} (hT : Txt B L) (hc : 100 ≤ c) (hF : 1000 ≤ F) (hk : 400 ≤ k ∧ k ≤ 100000) (h : PB B L c k f σ) : ∃ t σ', m5_readSign F c σ = some (t, σ') ∧ PB B L c (k + 2) f σ' := by
  obtain ⟨a, b, d, p, e, ht, hb⟩ := h
  have hL := hT.1
  obtain ⟨σ1, m1, t1, f1⟩ := next_c (F := F) hT ht (by omega) hF
  have q := sk_rg (B := B) (L := L) (p := p)
  have hch := ch_rg (p := sk B L p) hT
  have b1 := hb.fr f1 (by omega)
  generalize sk B L p = p1 at *
  have s35 : ∀ cc : Int, (cc = 60 ∨ cc = 61 ∨ cc = 62) → ∃ t σ', m5_readSign_35 F c (w32 cc) σ1 = some (t, σ') ∧ PB B L c (k + 2) f σ' := by
    intro cc hcc
    have fin : ∀ σ2 : Mem, TC B L p1 f σ2 → RB c σ2 → ∃ t σ', m5_readSign_53 F c (w32 cc) σ2 = some (t, σ') ∧ PB B L c (k + 2) f σ' := by
      intro σ2 t2 b2
      obtain ⟨σ3, m3, t3, g1, -, -⟩ := s53_c (F := F) (c := c) hT hc t2 (by omega) hcc
      obtain ⟨l, l1, l2⟩ := b2
      exact ⟨_, σ3, m3, a, b, d, _, by split <;> omega, t3, l, l1, by rw [g1]; exact l2⟩
    unfold m5_readSign_35
    by_cases z : gI σ1 c 2 < 60
    · rw [if_pos z]; exact fin σ1 t1 b1
    · rw [if_neg z, t1.2.2.1]
      obtain ⟨σ2, m2, t2, f2⟩ := fail_c (F := F) (a := p1) (c := 3) t1 (by omega) (by omega)
      rw [wl_3, m2, Option.bind_some]
      rw [ff_bad a] at t2
      exact fin σ2 t2 (b1.fr f2 (by omega))
  unfold m5_readSign
  rw [m1, Option.bind_some]
  dsimp only
  by_cases z1 : ch B L p1 = 60
  · rw [if_pos (by rw [z1]; rfl)]; exact s35 _ (Or.inl z1)
  · rw [if_neg (by rw [show (60 : Int32) = w32 60 from rfl, w_eq (by omega) (by omega) (by omega) (by omega)]; exact z1)]
    by_cases z2 : ch B L p1 = 61
    · rw [if_pos (by rw [z2]; rfl)]; exact s35 _ (Or.inr (Or.inl z2))
    · rw [if_neg (by rw [show (61 : Int32) = w32 61 from rfl, w_eq (by omega) (by omega) (by omega) (by omega)]; exact z2)]
      by_cases z3 : ch B L p1 = 62
      · rw [if_pos (by rw [z3]; rfl)]; exact s35 _ (Or.inr (Or.inr z3))
      · rw [if_neg (by rw [show (62 : Int32) = w32 62 from rfl, w_eq (by omega) (by omega) (by omega) (by omega)]; exact z3), t1.2.2.1]
        obtain ⟨σ2, m2, t2, f2⟩ := fail_c (F := F) (a := p1) (c := 0) t1 (by omega) (by omega)
        rw [wl_0, m2, Option.bind_some]
        rw [ff_bad a] at t2
        exact ⟨_, σ2, rfl, a, b, d, p1, by omega, t2, b1.fr f2 (by omega)⟩
theorem sign_c {F : Nat} {B : Nat → Int} {L c k : Nat} {s : St} {σ : Mem} (hT : Txt B L) (hc : 100 ≤ c) (hF : 1000 ≤ F) (hk : 500 ≤ k ∧ k ≤ 100000) (h : PC B L c s σ) (hl : sl s ≤ 400) (hp : sp s ≤ L) (hn : sn s ≤ 60) :
    ∃ t σ', m5_readSign F c σ = some (w32 t, σ') ∧
      (if ch B L (sk B L (sp s)) = 60 ∨ ch B L (sk B L (sp s)) = 61 ∨ ch B L (sk B L (sp s)) = 62 then
        (if 60 ≤ sn s then OC B L c k (er (sk B L (sp s)) 3) σ' else t = sgc (ch B L (sk B L (sp s))) (decide (ch B L (sk B L (sp s)) ≠ 61) && decide (ch B L (sk B L (sp s) + 1) = 61)) ∧ PC B L c (mk (to s (if (decide (ch B L (sk B L (sp s)) ≠ 61) && decide (ch B L (sk B L (sp s) + 1) = 61)) = true then sk B L (sp s) + 2 else sk B L (sp s) + 1))) σ')
      else OC B L c k (er (sk B L (sp s)) 0) σ') := by
  obtain ⟨ht, hr⟩ := h
  have hL := hT.1
  obtain ⟨σ1, m1, t1, f1⟩ := next_c (F := F) hT ht (by omega) hF
  have q := sk_rg (B := B) (L := L) (p := sp s)
  have hch := ch_rg (p := sk B L (sp s)) hT
  have r1 := hr.fr f1 (by omega) (by omega)
  generalize sk B L (sp s) = p1 at *
  have s35 : (ch B L p1 = 60 ∨ ch B L p1 = 61 ∨ ch B L p1 = 62) → ∃ t σ', m5_readSign_35 F c (w32 (ch B L p1)) σ1 = some (w32 t, σ') ∧ (if 60 ≤ sn s then OC B L c k (er p1 3) σ' else t = sgc (ch B L p1) (decide (ch B L p1 ≠ 61) && decide (ch B L (p1 + 1) = 61)) ∧ PC B L c (mk (to s (if (decide (ch B L p1 ≠ 61) && decide (ch B L (p1 + 1) = 61)) = true then p1 + 2 else p1 + 1))) σ') := by
    intro hcc
    unfold m5_readSign_35
    rw [r1.2.1]
    by_cases z : 60 ≤ sn s
    · rw [if_neg (by rw [wl_60, w_lt (by omega) (by omega) (by omega) (by omega)]; omega), t1.2.2.1]
      obtain ⟨σ2, m2, t2, f2⟩ := fail_c (F := F) (a := p1) (c := 3) t1 (by omega) (by decide)
      rw [wl_3, m2, Option.bind_some]
      obtain ⟨σ3, m3, t3, g1, -, -⟩ := s53_c (F := F) (c := c) hT hc t2 (by omega) hcc
      obtain ⟨l, l1, l2⟩ := (r1.fr f2 (by omega) (by omega)).b hl
      refine ⟨_, σ3, m3, ?_⟩
      rw [if_pos z]
      exact er_bad (e := 3) (by omega) (by decide) (by split <;> omega) t3 ⟨l, l1, by rw [g1]; exact l2⟩
    · rw [if_pos (by rw [wl_60, w_lt (by omega) (by omega) (by omega) (by omega)]; omega)]
      obtain ⟨σ3, m3, t3, g1, g2, g3⟩ := s53_c (F := F) (c := c) hT hc t1 (by omega) hcc
      refine ⟨_, σ3, m3, ?_⟩
      rw [if_neg z]
      refine ⟨rfl, t3, by rw [g1]; exact r1.1, ?_, fun i hi => by rw [g3]; exact r1.2.2 i hi⟩
      rw [g2, r1.2.1, w_succ]; rfl
  unfold m5_readSign
  rw [m1, Option.bind_some]
  dsimp only
  have hcs : (ch B L p1 = 60 ∨ ch B L p1 = 61 ∨ ch B L p1 = 62) → ∃ t σ', m5_readSign_35 F c (w32 (ch B L p1)) σ1 = some (w32 t, σ') ∧ (if ch B L p1 = 60 ∨ ch B L p1 = 61 ∨ ch B L p1 = 62 then
        (if 60 ≤ sn s then OC B L c k (er p1 3) σ' else t = sgc (ch B L p1) (decide (ch B L p1 ≠ 61) && decide (ch B L (p1 + 1) = 61)) ∧ PC B L c (mk (to s (if (decide (ch B L p1 ≠ 61) && decide (ch B L (p1 + 1) = 61)) = true then p1 + 2 else p1 + 1))) σ')
      else OC B L c k (er p1 0) σ') := fun hcc => by
    obtain ⟨t, σ', m, o⟩ := s35 hcc
    exact ⟨t, σ', m, by rw [if_pos hcc]; exact o⟩
  by_cases z1 : ch B L p1 = 60
  · rw [if_pos (by rw [z1]; rfl)]; exact hcs (Or.inl z1)
  · rw [if_neg (by rw [show (60 : Int32) = w32 60 from rfl, w_eq (by omega) (by omega) (by omega) (by omega)]; exact z1)]
    by_cases z2 : ch B L p1 = 61
    · rw [if_pos (by rw [z2]; rfl)]; exact hcs (Or.inr (Or.inl z2))
    · rw [if_neg (by rw [show (61 : Int32) = w32 61 from rfl, w_eq (by omega) (by omega) (by omega) (by omega)]; exact z2)]
      by_cases z3 : ch B L p1 = 62
      · rw [if_pos (by rw [z3]; rfl)]; exact hcs (Or.inr (Or.inr z3))
      · rw [if_neg (by rw [show (62 : Int32) = w32 62 from rfl, w_eq (by omega) (by omega) (by omega) (by omega)]; exact z3), t1.2.2.1]
        obtain ⟨σ2, m2, t2, f2⟩ := fail_c (F := F) (a := p1) (c := 0) t1 (by omega) (by decide)
        rw [wl_0, m2, Option.bind_some]
        have hb := er_bad (B := B) (L := L) (c := c) (k := k) (p := p1) (e := 0) (by omega) (by decide) (by omega) t2 ((r1.fr f2 (by omega) (by omega)).b hl)
        exact ⟨-27, σ2, rfl, by rw [if_neg (by omega)]; exact hb⟩
/-- a comparison -/
def cmpM (F c : Nat) (σ : Mem) : Option Mem :=
  Option.bind (m5_readSum F c σ) fun p1 =>
  Option.bind (m5_readSign F c p1) fun p2 =>
  Option.bind (m5_readSum F c p2.2) fun p3 =>
  Option.bind (m5_put F c p2.1 p3) fun p4 =>
  some p4
theorem cmp_b {F : Nat} {B : Nat → Int} {L c k : Nat} {f : Int} {σ : Mem} (hT : Txt B L) (hc : 100 ≤ c) (hF : 1000 ≤ F) (hk : 400 ≤ k ∧ k ≤ 90000) (h : PB B L c k f σ) : ∃ σ', cmpM F c σ = some σ' ∧ PB B L c (k + 2) f σ' := by
  obtain ⟨σ1, m1, b1⟩ := sum_b (F := F) hT hc hF (by omega) h
  obtain ⟨t, σ2, m2, b2⟩ := sign_b (F := F) hT hc hF (by omega) b1
  obtain ⟨σ3, m3, b3⟩ := sum_b (F := F) hT hc hF (by omega) b2
  obtain ⟨σ4, m4, b4⟩ := put_b (F := F) (t := t) hc b3
  unfold cmpM
  rw [m1, Option.bind_some, m2, Option.bind_some]
  dsimp only
  rw [m3, Option.bind_some, m4]
  exact ⟨σ4, rfl, b4⟩
theorem cmp_c {F : Nat} {B : Nat → Int} {L c k : Nat} {s : St} {σ : Mem} (hT : Txt B L) (hc : 100 ≤ c) (hF : 1000 ≤ F) (hk : 500 ≤ k ∧ k ≤ 90000) (h : PC B L c s σ) (hl : sl s ≤ sp s) (hp : sp s ≤ L) (hn : sn s ≤ 60) : ∃ σ', cmpM F c σ = some σ' ∧ OC B L c (k + 2) (cmpS B L s) σ' := by
  have hL := hT.1
  obtain ⟨σ1, m1, o1⟩ := sum_c (F := F) (k := k) hT hc hF (by omega) h hl hp hn
  unfold cmpM cmpS
  rw [m1, Option.bind_some]
  -- the rest, once a FAULT is there
  have bad1 : ∀ (f : Int) (σ1 : Mem), PB B L c k f σ1 → ∃ σ', (Option.bind (m5_readSign F c σ1) fun p2 => Option.bind (m5_readSum F c p2.2) fun p3 => Option.bind (m5_put F c p2.1 p3) fun p4 => some p4) = some σ' ∧ PB B L c (k + 2) f σ' := by
    intro f σ1 b1
    obtain ⟨t, σ2, m2, b2⟩ := sign_b (F := F) hT hc hF (by omega) b1
    obtain ⟨σ3, m3, b3⟩ := sum_b (F := F) hT hc hF (by omega) b2
    obtain ⟨σ4, m4, b4⟩ := put_b (F := F) (t := t) hc b3
    rw [m2, Option.bind_some]
    dsimp only
    rw [m3, Option.bind_some, m4]
    exact ⟨σ4, rfl, b4⟩
  have bad2 : ∀ (f : Int) (t : Int32) (σ2 : Mem), PB B L c (k + 2) f σ2 → ∃ σ', (Option.bind (m5_readSum F c σ2) fun p3 => Option.bind (m5_put F c t p3) fun p4 => some p4) = some σ' ∧ PB B L c (k + 2) f σ' := by
    intro f t σ2 b2
    obtain ⟨σ3, m3, b3⟩ := sum_b (F := F) hT hc hF (by omega) b2
    obtain ⟨σ4, m4, b4⟩ := put_b (F := F) (t := t) hc b3
    rw [m3, Option.bind_some, m4]
    exact ⟨σ4, rfl, b4⟩
  cases hv : sumS B L s with
  | error f =>
    rw [hv] at o1
    exact bad1 f σ1 o1
  | ok s1 =>
    rw [hv] at o1
    obtain ⟨x1, -⟩ := sumS_ok hT hn hv
    obtain ⟨a1, a2, a3, a4, a5, a6, -, -⟩ := x1
    have q := sk_rg (B := B) (L := L) (p := sp s1)
    obtain ⟨t, σ2, m2, o2⟩ := sign_c (F := F) (k := k + 2) hT hc hF (by omega) o1 (by omega) a2 a6
    rw [m2, Option.bind_some]
    dsimp only [bnd]
    by_cases z1 : ch B L (sk B L (sp s1)) = 60 ∨ ch B L (sk B L (sp s1)) = 61 ∨ ch B L (sk B L (sp s1)) = 62
    · rw [if_pos z1] at o2 ⊢
      by_cases z2 : 60 ≤ sn s1
      · rw [if_pos z2] at o2 ⊢
        exact bad2 _ _ _ o2
      · rw [if_neg z2] at o2 ⊢
        obtain ⟨et, o2⟩ := o2
        have hlt : sk B L (sp s1) < L := ch_lt (B := B) (L := L) (by omega)
        have hal : (decide (ch B L (sk B L (sp s1)) ≠ 61) && decide (ch B L (sk B L (sp s1) + 1) = 61)) = true → sk B L (sp s1) + 1 < L := fun h => by
          rw [Bool.and_eq_true, decide_eq_true_eq, decide_eq_true_eq] at h
          exact ch_lt (B := B) (L := L) (by omega)
        rw [← et]
        generalize (decide (ch B L (sk B L (sp s1)) ≠ 61) && decide (ch B L (sk B L (sp s1) + 1) = 61)) = al at *
        have hpl : (if al = true then sk B L (sp s1) + 2 else sk B L (sp s1) + 1) ≤ L ∧ sk B L (sp s1) + 1 ≤ (if al = true then sk B L (sp s1) + 2 else sk B L (sp s1) + 1) := by
          cases al with
          | true => have := hal rfl; exact ⟨by rw [if_pos rfl]; omega, by rw [if_pos rfl]; omega⟩
          | false => exact ⟨by rw [if_neg (by decide)]; omega, by rw [if_neg (by decide)]; omega⟩
        generalize (if al = true then sk B L (sp s1) + 2 else sk B L (sp s1) + 1) = pq at *
        obtain ⟨σ3, m3, o3⟩ := sum_c (F := F) (k := k) hT hc hF (by omega) o2 (show sl s1 ≤ pq by omega) hpl.1 (show sn s1 + 1 ≤ 60 by omega)
        rw [m3, Option.bind_some]
        cases hw : sumS B L (mk (to s1 pq)) with
        | error f =>
          rw [hw] at o3
          obtain ⟨σ4, m4, b4⟩ := put_b (F := F) (t := w32 t) hc (PB.mono o3 (show k ≤ k + 2 by omega))
          rw [m4]
          exact ⟨σ4, rfl, b4⟩
        | ok s2 =>
          rw [hw] at o3
          obtain ⟨y1, -⟩ := sumS_ok (s := mk (to s1 pq)) hT (show sn s1 + 1 ≤ 60 by omega) hw
          obtain ⟨c1, c2, c3, c4, -⟩ := y1
          have c1 : pq < sp s2 := c1
          have c4 : sl s2 + pq ≤ sp s2 + sl s1 := c4
          obtain ⟨σ4, m4, b4⟩ := put_c (F := F) (t := t) hc o3 (by omega)
          rw [m4]
          exact ⟨σ4, rfl, b4⟩
    · rw [if_neg z1] at o2 ⊢
      exact bad2 _ _ _ o2
/-! tests -/
theorem test96_b {F : Nat} {rec : Nat → Int32 → Mem → Option Mem} {B : Nat → Int} {L c k : Nat} {f : Int} {i2 x3 : Int32} {σ : Mem} (hc : 100 ≤ c) (h : PB B L c k f σ) : ∃ σ', m5_readTest_96 F rec c i2 x3 σ = some σ' ∧ PB B L c k f σ' := by
  unfold m5_readTest_96
  by_cases z : x3 = 0
  · rw [if_pos z]; exact ⟨σ, rfl, h⟩
  · rw [if_neg z]
    obtain ⟨σ', m, e⟩ := put_b (F := F) (t := (-32 : Int32)) hc h
    rw [m]
    exact ⟨σ', rfl, e⟩
theorem test11_b {F : Nat} {rec : Nat → Int32 → Mem → Option Mem} {B : Nat → Int} {L c k n : Nat} {f : Int} {i2 x3 x4 : Int32} {σ : Mem} (hc : 100 ≤ c) (hn : 0 < n) (h : PB B L c k f σ) : ∃ σ', m5_readTest_11 F rec c i2 n x3 x4 σ = some σ' ∧ PB B L c k f σ' := by
  obtain ⟨n, rfl⟩ : ∃ m, n = m + 1 := ⟨n - 1, by omega⟩
  unfold m5_readTest_11
  by_cases z : 400 ≤ x4
  · rw [if_pos z]; exact test96_b hc h
  · rw [if_neg z, if_neg h.f1]; exact test96_b hc h
theorem test96_c {F : Nat} {rec : Nat → Int32 → Mem → Option Mem} {B : Nat → Int} {L c k : Nat} {i2 : Int32} {w : Bool} {s : St} {σ : Mem} (hc : 100 ≤ c) (h : PC B L c s σ) (hl : w = true → sl s < 400) : ∃ σ', m5_readTest_96 F rec c i2 (if w = true then 1 else 0) σ = some σ' ∧ OC B L c k (.ok (if w = true then pt s (-32) else s)) σ' := by
  unfold m5_readTest_96
  cases w with
  | false => exact ⟨σ, rfl, h⟩
  | true =>
    rw [if_neg (by decide)]
    obtain ⟨σ', m, e⟩ := put_c (F := F) (t := -32) hc h (hl rfl)
    have m : m5_put F c (-32 : Int32) σ = _ := m
    rw [m]
    exact ⟨σ', rfl, e⟩
theorem test11_c {F : Nat} {rec : Nat → Int32 → Mem → Option Mem} {B : Nat → Int} {L c k : Nat} {i2 : Int32} {fact : St → Re} (hT : Txt B L) (hc : 100 ≤ c) (hF : 1000 ≤ F) (hk : 400 ≤ k ∧ k ≤ 90000) (hf : FOk L fact)
    (hrec : ∀ (s : St) (σ : Mem), PC B L c s σ → sl s ≤ sp s → sp s ≤ L → sn s ≤ 60 → ∃ σ', rec c i2 σ = some σ' ∧ OC B L c k (fact s) σ') : ∀ (d n x : Nat) (w : Bool) (s : St) (σ : Mem), L - sp s < d → L - sp s < n → x ≤ sp s → PC B L c s σ → sl s ≤ sp s → (w = true → sl s < sp s) → sp s ≤ L → sn s ≤ 60 →
    ∃ σ', m5_readTest_11 F rec c i2 n (if w = true then 1 else 0) (w32 (x : Int)) σ = some σ' ∧ OC B L c k (tesL B L fact d w s) σ' := by
  have hL := hT.1
  intro d
  induction d with
  | zero => intro n x w s σ h; omega
  | succ d ih =>
    intro n x w s σ hd hn hx hP hl hl2 hp h60
    obtain ⟨n, rfl⟩ : ∃ k, n = k + 1 := ⟨n - 1, by omega⟩
    have q := sk_rg (B := B) (L := L) (p := sp s)
    unfold m5_readTest_11 tesL
    dsimp only
    by_cases z400 : 400 ≤ x
    · have e1 : sk B L (sp s) = sp s := by omega
      have e2 : rn B L 97 122 (sp s) = 0 := by have := (rn_rg (B := B) (L := L) (p := sp s) (lo := 97) (hi := 122)).1; omega
      rw [if_pos (by rw [wl_400, w_le (by omega) (by omega) (by omega) (by omega)]; omega), e1, e2, if_pos (wdx_0 _ _), to_sp]
      exact test96_c hc hP (fun z => by have := hl2 z; omega)
    · obtain ⟨σ1, m1, t1, f1⟩ := next_c (F := F) hT hP.1 (by omega) hF
      have R1 := hP.2.fr f1 (by omega) (by omega)
      have P1 : PC B L c (to s (sk B L (sp s))) σ1 := ⟨t1, R1⟩
      have w6 := wdx_rg (B := B) (p := sk B L (sp s)) (n := rn B L 97 122 (sk B L (sp s))) (tws 6) 0 (by decide)
      have l6 : (tws 6).length = 2 := rfl
      have rr := (rn_rg (B := B) (L := L) (p := sk B L (sp s)) (lo := 97) (hi := 122)).1
      rw [if_neg (by rw [wl_400, w_le (by omega) (by omega) (by omega) (by omega)]; omega), if_pos (by rw [hP.1.2.2.2]; rfl), m1, Option.bind_some]
      dsimp only
      rw [word_c (by decide) hT t1 (by omega) hF, Option.bind_some]
      by_cases z0 : wdx B (sk B L (sp s)) (rn B L 97 122 (sk B L (sp s))) (tws 6) 0 = -1
      · rw [if_pos (by rw [z0]; rfl), if_pos z0]
        exact test96_c hc P1 (fun z => by have := hl2 z; show sl s < 400; omega)
      · have rp := wdx_n z0
        rw [if_neg (by rw [wl_m1, w_eq (by omega) (by omega) (by omega) (by omega)]; exact z0), if_neg z0]
        obtain ⟨σ2, m2, t2, f2⟩ := passWord_c (F := F) hT t1 (by omega) hF
        have P2 : PC B L c (to s (sk B L (sp s) + rn B L 97 122 (sk B L (sp s)))) σ2 := ⟨t2, R1.fr f2 (by omega) (by omega)⟩
        rw [m2, Option.bind_some]
        generalize rn B L 97 122 (sk B L (sp s)) = kk at *
        by_cases z1 : wdx B (sk B L (sp s)) kk (tws 6) 0 = 1
        · rw [if_pos (by rw [z1]; rfl), if_pos z1, z1]
          have fin : ∀ (sq : St) (σ3 : Mem), PC B L c sq σ3 → sp sq = sk B L (sp s) + kk → sl sq ≤ sp s → sn sq ≤ 60 → ∃ σ', m5_readTest_68 F rec c i2 (fun x3 x4 σ => m5_readTest_11 F rec c i2 n x3 x4 σ) (if w = true then 1 else 0) (w32 (x : Int)) (w32 1) σ3 = some σ' ∧ OC B L c k (bnd (fact sq) (tesL B L fact d true)) σ' := by
            intro sq σ3 hQ hsp hsl hsn
            obtain ⟨σ4, m4, o4⟩ := hrec sq σ3 hQ (by omega) (by omega) hsn
            unfold m5_readTest_68
            rw [m4, Option.bind_some, if_neg (by decide), w_succ]
            cases hv : fact sq with
            | error f =>
              rw [hv] at o4
              exact test11_b hc (by omega) o4
            | ok s1 =>
              rw [hv] at o4
              obtain ⟨⟨a1, a2, a3, a4, a5, a6, -, -⟩, -⟩ := hf sq s1 hsn hv
              exact ih n (x + 1) true s1 σ4 (by omega) (by omega) (by omega) o4 (by omega) (fun _ => by omega) a2 a6
          cases w with
          | false =>
            rw [if_pos (by decide)]
            exact fin _ σ2 P2 rfl hl h60
          | true =>
            have := hl2 rfl
            rw [if_neg (by decide)]
            obtain ⟨σ3, m3, p3⟩ := put_c (F := F) (t := -32) hc P2 (show sl s < 400 by omega)
            have m3 : m5_put F c (-32 : Int32) σ2 = _ := m3
            rw [m3, Option.bind_some]
            exact fin _ σ3 p3 rfl (show sl s + 1 ≤ sp s by omega) h60
        · have z2 : wdx B (sk B L (sp s)) kk (tws 6) 0 = 0 := by omega
          rw [if_neg (by rw [wl_1, w_eq (by omega) (by omega) (by omega) (by omega)]; exact z1), if_neg z1, z2]
          obtain ⟨σ4, m4, o4⟩ := hrec _ σ2 P2 (show sl s ≤ sk B L (sp s) + kk by omega) (show sk B L (sp s) + kk ≤ L by omega) h60
          unfold m5_readTest_68
          rw [m4, Option.bind_some, if_pos (show w32 0 = (0 : Int32) from rfl), w_succ]
          cases hv : fact (to s (sk B L (sp s) + kk)) with
          | error f =>
            rw [hv] at o4
            obtain ⟨σ5, m5, b5⟩ := put_b (F := F) (t := (-31 : Int32)) hc o4
            rw [m5, Option.bind_some]
            exact test11_b hc (by omega) b5
          | ok s1 =>
            rw [hv] at o4
            obtain ⟨⟨a1, a2, a3, a4, a5, a6, -, -⟩, -⟩ := hf (to s (sk B L (sp s) + kk)) s1 h60 hv
            have a1 : sk B L (sp s) + kk < sp s1 := a1
            have a4 : sl s1 + (sk B L (sp s) + kk) ≤ sp s1 + sl s := a4
            obtain ⟨σ5, m5, b5⟩ := put_c (F := F) (t := -31) hc o4 (by omega)
            have m5 : m5_put F c (-31 : Int32) σ4 = _ := m5
            rw [m5, Option.bind_some]
            exact ih n (x + 1) w (pt s1 (-31)) σ5 (show L - sp s1 < d by omega) (show L - sp s1 < n by omega) (show x + 1 ≤ sp s1 by omega) b5 (show sl s1 + 1 ≤ sp s1 by omega) (fun zw => show sl s1 + 1 < sp s1 by have := hl2 zw; omega) a2 a6
theorem test_c {F : Nat} {rec : Nat → Int32 → Mem → Option Mem} {B : Nat → Int} {L c k : Nat} {i2 : Int32} {fact : St → Re} {s : St} {σ : Mem} (hT : Txt B L) (hc : 100 ≤ c) (hF : 1000 ≤ F) (hk : 400 ≤ k ∧ k ≤ 90000) (hf : FOk L fact)
    (hrec : ∀ (s : St) (σ : Mem), PC B L c s σ → sl s ≤ sp s → sp s ≤ L → sn s ≤ 60 → ∃ σ', rec c i2 σ = some σ' ∧ OC B L c k (fact s) σ') (h : PC B L c s σ) (hl : sl s ≤ sp s) (hp : sp s ≤ L) (hn : sn s ≤ 60) : ∃ σ', m5_readTest F rec c i2 σ = some σ' ∧ OC B L c k (tesS B L fact s) σ' := by
  have hL := hT.1
  obtain ⟨σ1, m1, o1⟩ := hrec s σ h hl hp hn
  unfold m5_readTest tesS
  rw [m1, Option.bind_some]
  cases hv : fact s with
  | error f =>
    rw [hv] at o1
    exact test11_b hc (by omega) o1
  | ok s1 =>
    rw [hv] at o1
    obtain ⟨⟨a1, a2, a3, a4, a5, a6, -, -⟩, -⟩ := hf s s1 hn hv
    exact test11_c hT hc hF hk hf hrec 401 F 0 false s1 σ1 (by omega) (by omega) (by omega) o1 (by omega) (fun z => by cases z) a2 a6
/-! facts -/
theorem isN_w {B : Nat → Int} {L p : Nat} : wdx B p (rn B L 97 122 p) (tws 5) 0 = if isN B L p = true then 0 else -1 := by
  unfold isN
  rfl
theorem fact_b {F : Nat} {B : Nat → Int} {L c : Nat} (hT : Txt B L) (hc : 100 ≤ c) (hF : 1000 ≤ F) : ∀ (e D k : Nat) (f : Int) (σ : Mem), e ≤ 10 → e < D → 400 ≤ k → k + e ≤ 10000 → PB B L c k f σ → ∃ σ', m5_readFact F D c (w32 (10 - (e : Int))) σ = some σ' ∧ PB B L c (k + 2 * e + 2) f σ' := by
  have hL := hT.1
  intro e
  induction e with
  | zero =>
    intro D k f σ he hD hk1 hk2 hB
    obtain ⟨D, rfl⟩ : ∃ m, D = m + 1 := ⟨D - 1, by omega⟩
    obtain ⟨a, b, d, p, hp, ht, hb⟩ := hB
    obtain ⟨σ1, m1, t1, f1⟩ := next_c (F := F) hT ht (by omega) hF
    have q := sk_rg (B := B) (L := L) (p := p)
    have b1 := hb.fr f1 (by omega)
    generalize sk B L p = p1 at *
    have B1 : PB B L c k f σ1 := ⟨a, b, d, p1, by omega, t1, b1⟩
    have f67 : ∀ x : Int32, ∃ σ', m5_readFact_67 F (m5_readFact F D) c (w32 (10 - ((0 : Nat) : Int))) x σ1 = some σ' ∧ PB B L c (k + 2 * 0 + 2) f σ' := by
      intro x
      unfold m5_readFact_67
      rw [if_neg (by decide), t1.2.2.1]
      obtain ⟨σ2, m2, t2, f2⟩ := fail_c (F := F) (a := p1) (c := 2) t1 (by omega) (by omega)
      rw [wl_2, m2, Option.bind_some]
      rw [ff_bad a] at t2
      exact ⟨σ2, rfl, a, b, d, p1, by omega, t2, b1.fr f2 (by omega)⟩
    have f30 : ∀ x y : Int32, ∃ σ', m5_readFact_30 F (m5_readFact F D) c (w32 (10 - ((0 : Nat) : Int))) x y σ1 = some σ' ∧ PB B L c (k + 2 * 0 + 2) f σ' := by
      intro x y
      unfold m5_readFact_30
      by_cases z1 : x = 0
      · rw [if_pos z1]
        by_cases z2 : y = 0
        · rw [if_pos z2]; exact cmp_b hT hc hF (by omega) B1
        · rw [if_neg z2]; exact f67 y
      · rw [if_neg z1]; exact f67 y
    have f14 : ∀ x : Int32, ∃ σ', m5_readFact_14 F (m5_readFact F D) c (w32 (10 - ((0 : Nat) : Int))) x σ1 = some σ' ∧ PB B L c (k + 2 * 0 + 2) f σ' := by
      intro x
      unfold m5_readFact_14
      rw [word_c (by decide) hT t1 (by omega) hF, Option.bind_some]
      split
      · exact f30 _ _
      · exact f30 _ _
    show ∃ σ', m5_readFact_e F (m5_readFact F D) c (w32 (10 - ((0 : Nat) : Int))) σ = some σ' ∧ _
    unfold m5_readFact_e
    rw [m1, Option.bind_some]
    dsimp only
    split
    · exact f14 _
    · exact f14 _
  | succ e ih =>
    intro D k f σ he hD hk1 hk2 hB
    obtain ⟨D, rfl⟩ : ∃ m, D = m + 1 := ⟨D - 1, by omega⟩
    obtain ⟨a, b, d, p, hp, ht, hb⟩ := hB
    obtain ⟨σ1, m1, t1, f1⟩ := next_c (F := F) hT ht (by omega) hF
    have q := sk_rg (B := B) (L := L) (p := p)
    have b1 := hb.fr f1 (by omega)
    generalize sk B L p = p1 at *
    have B1 : PB B L c k f σ1 := ⟨a, b, d, p1, by omega, t1, b1⟩
    have ei : w32 (10 - ((e + 1 : Nat) : Int)) + (1 : Int32) = w32 (10 - (e : Int)) := by rw [wl_1, w_add]; congr 1; omega
    have f67 : ∀ x : Int32, ∃ σ', m5_readFact_67 F (m5_readFact F D) c (w32 (10 - ((e + 1 : Nat) : Int))) x σ1 = some σ' ∧ PB B L c (k + 2 * (e + 1) + 2) f σ' := by
      intro x
      unfold m5_readFact_67
      rw [if_pos (by rw [wl_10, w_lt (by omega) (by omega) (by omega) (by omega)]; omega), ei]
      by_cases z : x = 0
      · rw [if_pos z]
        dsimp only
        rw [t1.2.2.1, w_succ]
        have B2 : PB B L c (k + 1) f (sI σ1 1 2 (w32 ((p1 + 1 : Nat) : Int))) := ⟨a, b, d, p1 + 1, by omega, t1.at _, b1.fr ((Fr.rf (fun c => c = 1) σ1).sI rfl) (by omega)⟩
        obtain ⟨σ2, m2, b2⟩ := ih D (k + 1) f _ (by omega) (by omega) (by omega) (by omega) B2
        obtain ⟨σ3, m3, b3⟩ := test11_b (F := F) (rec := m5_readFact F D) (i2 := w32 (10 - (e : Int))) (x3 := 0) (x4 := 0) (n := F) hc (by omega) b2
        obtain ⟨-, -, -, p3, hp3, t3, hb3⟩ := b3
        obtain ⟨σ4, m4, t4, f4⟩ := next_c (F := F) hT t3 (by omega) hF
        have q4 := sk_rg (B := B) (L := L) (p := p3)
        have hb4 := hb3.fr f4 (by omega)
        unfold m5_readTest
        rw [m2, Option.bind_some, m3, Option.bind_some, m4, Option.bind_some]
        dsimp only
        by_cases z2 : w32 (ch B L (sk B L p3)) = 93
        · rw [if_pos z2, t4.2.2.1, w_succ]
          exact ⟨_, rfl, a, b, d, sk B L p3 + 1, by omega, t4.at _, hb4.fr ((Fr.rf (fun c => c = 1) _).sI rfl) (by omega)⟩
        · rw [if_neg z2, t4.2.2.1]
          obtain ⟨σ5, m5, t5, f5⟩ := fail_c (F := F) (a := sk B L p3) (c := 0) t4 (by omega) (by omega)
          rw [wl_0, m5, Option.bind_some]
          rw [ff_bad a] at t5
          try dsimp only
          rw [t5.2.2.1, w_succ]
          exact ⟨_, rfl, a, b, d, sk B L p3 + 1, by omega, t5.at _, (hb4.fr f5 (by omega)).fr ((Fr.rf (fun c => c = 1) _).sI rfl) (by omega)⟩
      · rw [if_neg z]
        obtain ⟨σ2, m2, t2, f2⟩ := passWord_c (F := F) hT t1 (by omega) hF
        have rr := (rn_rg (B := B) (L := L) (p := p1) (lo := 97) (hi := 122)).1
        obtain ⟨σ3, m3, b3⟩ := ih D k f σ2 (by omega) (by omega) hk1 (by omega) ⟨a, b, d, _, by omega, t2, b1.fr f2 (by omega)⟩
        obtain ⟨σ4, m4, b4⟩ := put_b (F := F) (t := (-30 : Int32)) hc b3
        rw [m2, Option.bind_some, m3, Option.bind_some, m4]
        exact ⟨σ4, rfl, b4.mono (by omega)⟩
    have f30 : ∀ x y : Int32, ∃ σ', m5_readFact_30 F (m5_readFact F D) c (w32 (10 - ((e + 1 : Nat) : Int))) x y σ1 = some σ' ∧ PB B L c (k + 2 * (e + 1) + 2) f σ' := by
      intro x y
      unfold m5_readFact_30
      by_cases z1 : x = 0
      · rw [if_pos z1]
        by_cases z2 : y = 0
        · rw [if_pos z2]
          obtain ⟨σ2, m2, b2⟩ := cmp_b (F := F) hT hc hF (by omega) B1
          exact ⟨σ2, m2, b2.mono (by omega)⟩
        · rw [if_neg z2]; exact f67 y
      · rw [if_neg z1]; exact f67 y
    have f14 : ∀ x : Int32, ∃ σ', m5_readFact_14 F (m5_readFact F D) c (w32 (10 - ((e + 1 : Nat) : Int))) x σ1 = some σ' ∧ PB B L c (k + 2 * (e + 1) + 2) f σ' := by
      intro x
      unfold m5_readFact_14
      rw [word_c (by decide) hT t1 (by omega) hF, Option.bind_some]
      split
      · exact f30 _ _
      · exact f30 _ _
    show ∃ σ', m5_readFact_e F (m5_readFact F D) c (w32 (10 - ((e + 1 : Nat) : Int))) σ = some σ' ∧ _
    unfold m5_readFact_e
    rw [m1, Option.bind_some]
    dsimp only
    split
    · exact f14 _
    · exact f14 _
theorem fact_c {F : Nat} {B : Nat → Int} {L c : Nat} (hT : Txt B L) (hc : 100 ≤ c) (hF : 1000 ≤ F) : ∀ (e D : Nat) (s : St) (σ : Mem), e ≤ 10 → e < D → PC B L c s σ → sl s ≤ sp s → sp s ≤ L → sn s ≤ 60 → ∃ σ', m5_readFact F D c (w32 (10 - (e : Int))) σ = some σ' ∧ OC B L c (600 + 2 * e) (facS B L e s) σ' := by
  have hL := hT.1
  intro e
  induction e with
  | zero =>
    intro D s σ he hD hP hl hp hn
    obtain ⟨D, rfl⟩ : ∃ m, D = m + 1 := ⟨D - 1, by omega⟩
    obtain ⟨σ1, m1, t1, f1⟩ := next_c (F := F) hT hP.1 (by omega) hF
    have q := sk_rg (B := B) (L := L) (p := sp s)
    have R1 := hP.2.fr f1 (by omega) (by omega)
    have P1 : PC B L c (to s (sk B L (sp s))) σ1 := ⟨t1, R1⟩
    have hch := ch_rg (p := sk B L (sp s)) hT
    have f67 : ∀ x : Int32, ∃ σ', m5_readFact_67 F (m5_readFact F D) c (w32 (10 - ((0 : Nat) : Int))) x σ1 = some σ' ∧ OC B L c (600 + 2 * 0) (er (sk B L (sp s)) 2) σ' := by
      intro x
      unfold m5_readFact_67
      rw [if_neg (by decide), t1.2.2.1]
      obtain ⟨σ2, m2, t2, f2⟩ := fail_c (F := F) (a := sk B L (sp s)) (c := 2) t1 (by omega) (by decide)
      rw [wl_2, m2, Option.bind_some]
      exact ⟨σ2, rfl, er_bad (e := 2) (by omega) (by decide) (by omega) t2 ((R1.fr f2 (by omega) (by omega)).b (by omega))⟩
    show ∃ σ', m5_readFact_e F (m5_readFact F D) c (w32 (10 - ((0 : Nat) : Int))) σ = some σ' ∧ _
    have w5 := word_c (F := F) (c1 := 5) (by decide) hT t1 (by omega) hF
    rw [isN_w] at w5
    unfold m5_readFact_e facS
    rw [m1, Option.bind_some]
    dsimp only
    by_cases z2 : isN B L (sk B L (sp s)) = true
    · rw [if_pos z2] at w5
      rw [if_pos (Or.inl z2)]
      by_cases z1 : ch B L (sk B L (sp s)) = 91
      · rw [if_pos (by rw [z1]; rfl)]
        unfold m5_readFact_14
        rw [w5, Option.bind_some, if_neg (show ¬ w32 0 = (-1 : Int32) by decide)]
        unfold m5_readFact_30
        rw [if_neg (show ¬ (1 : Int32) = 0 by decide)]
        exact f67 _
      · rw [if_neg (by rw [wl_91, w_eq (by omega) (by omega) (by omega) (by omega)]; exact z1)]
        unfold m5_readFact_14
        rw [w5, Option.bind_some, if_neg (show ¬ w32 0 = (-1 : Int32) by decide)]
        unfold m5_readFact_30
        rw [if_pos rfl, if_neg (show ¬ (1 : Int32) = 0 by decide)]
        exact f67 _
    · rw [if_neg z2] at w5
      by_cases z1 : ch B L (sk B L (sp s)) = 91
      · rw [if_pos (by rw [z1]; rfl), if_pos (Or.inr z1)]
        unfold m5_readFact_14
        rw [w5, Option.bind_some, if_pos (show w32 (-1) = (-1 : Int32) from rfl)]
        unfold m5_readFact_30
        rw [if_neg (show ¬ (1 : Int32) = 0 by decide)]
        exact f67 _
      · have zz : ¬ (isN B L (sk B L (sp s)) = true ∨ ch B L (sk B L (sp s)) = 91) := fun z => by
          rcases z with z | z
          · exact z2 z
          · exact z1 z
        rw [if_neg (by rw [wl_91, w_eq (by omega) (by omega) (by omega) (by omega)]; exact z1), if_neg zz]
        unfold m5_readFact_14
        rw [w5, Option.bind_some, if_pos (show w32 (-1) = (-1 : Int32) from rfl)]
        unfold m5_readFact_30
        rw [if_pos rfl, if_pos rfl]
        obtain ⟨σ2, m2, o2⟩ := cmp_c (F := F) (k := 598) hT hc hF (by decide) P1 (show sl s ≤ sk B L (sp s) by omega) (show sk B L (sp s) ≤ L by omega) hn
        exact ⟨σ2, m2, o2⟩
  | succ e ih =>
    intro D s σ he hD hP hl hp hn
    obtain ⟨D, rfl⟩ : ∃ m, D = m + 1 := ⟨D - 1, by omega⟩
    obtain ⟨σ1, m1, t1, f1⟩ := next_c (F := F) hT hP.1 (by omega) hF
    have q := sk_rg (B := B) (L := L) (p := sp s)
    have R1 := hP.2.fr f1 (by omega) (by omega)
    have P1 : PC B L c (to s (sk B L (sp s))) σ1 := ⟨t1, R1⟩
    have hch := ch_rg (p := sk B L (sp s)) hT
    have hrec : ∀ (s : St) (σ : Mem), PC B L c s σ → sl s ≤ sp s → sp s ≤ L → sn s ≤ 60 → ∃ σ', m5_readFact F D c (w32 (10 - (e : Int))) σ = some σ' ∧ OC B L c (600 + 2 * e) (facS B L e s) σ' := fun s σ h1 h2 h3 h4 => ih D s σ (by omega) (by omega) h1 h2 h3 h4
    have hfok := facS_ok (B := B) (L := L) hT e
    have ei : w32 (10 - ((e + 1 : Nat) : Int)) + (1 : Int32) = w32 (10 - (e : Int)) := by rw [wl_1, w_add]; congr 1; omega
    -- [ opens
    have opn : ch B L (sk B L (sp s)) = 91 → ∃ σ', m5_readFact_67 F (m5_readFact F D) c (w32 (10 - ((e + 1 : Nat) : Int))) 0 σ1 = some σ' ∧ OC B L c (600 + 2 * (e + 1)) (bnd (tesS B L (facS B L e) (to s (sk B L (sp s) + 1))) (clsS B L)) σ' := by
      intro z1
      have hlt : sk B L (sp s) < L := ch_lt (B := B) (L := L) (by omega)
      have P2 : PC B L c (to s (sk B L (sp s) + 1)) (sI σ1 1 2 (w32 ((sk B L (sp s) + 1 : Nat) : Int))) := ⟨t1.at _, R1.fr ((Fr.rf (fun c => c = 1) σ1).sI rfl) (by omega) (by omega)⟩
      obtain ⟨σ3, m3, o3⟩ := test_c (F := F) hT hc hF (by omega) hfok hrec P2 (show sl s ≤ sk B L (sp s) + 1 by omega) hlt hn
      unfold m5_readFact_67
      rw [if_pos (by rw [wl_10, w_lt (by omega) (by omega) (by omega) (by omega)]; omega), ei, if_pos rfl]
      dsimp only
      rw [t1.2.2.1, w_succ, m3, Option.bind_some]
      cases hv : tesS B L (facS B L e) (to s (sk B L (sp s) + 1)) with
      | error f =>
        rw [hv] at o3
        obtain ⟨a, b, d, p3, hp3, t3, hb3⟩ := o3
        obtain ⟨σ4, m4, t4, f4⟩ := next_c (F := F) hT t3 (by omega) hF
        have q4 := sk_rg (B := B) (L := L) (p := p3)
        have hb4 := hb3.fr f4 (by omega)
        rw [m4, Option.bind_some]
        dsimp only
        by_cases z2 : w32 (ch B L (sk B L p3)) = 93
        · rw [if_pos z2, t4.2.2.1, w_succ]
          exact ⟨_, rfl, a, b, d, sk B L p3 + 1, by omega, t4.at _, hb4.fr ((Fr.rf (fun c => c = 1) _).sI rfl) (by omega)⟩
        · rw [if_neg z2, t4.2.2.1]
          obtain ⟨σ5, m5, t5, f5⟩ := fail_c (F := F) (a := sk B L p3) (c := 0) t4 (by omega) (by omega)
          rw [wl_0, m5, Option.bind_some]
          rw [ff_bad a] at t5
          try dsimp only
          rw [t5.2.2.1, w_succ]
          exact ⟨_, rfl, a, b, d, sk B L p3 + 1, by omega, t5.at _, (hb4.fr f5 (by omega)).fr ((Fr.rf (fun c => c = 1) _).sI rfl) (by omega)⟩
      | ok s1 =>
        rw [hv] at o3
        obtain ⟨⟨a1, a2, a3, a4, a5, a6, -, -⟩, -⟩ := tesS_ok (s := to s (sk B L (sp s) + 1)) hT hfok hn hv
        have a4 : sl s1 + (sk B L (sp s) + 1) ≤ sp s1 + sl s := a4
        obtain ⟨σ4, m4, t4, f4⟩ := next_c (F := F) hT o3.1 (by omega) hF
        have q4 := sk_rg (B := B) (L := L) (p := sp s1)
        have R4 := o3.2.fr f4 (by omega) (by omega)
        have hch4 := ch_rg (p := sk B L (sp s1)) hT
        rw [m4, Option.bind_some]
        dsimp only [bnd, clsS]
        by_cases z2 : ch B L (sk B L (sp s1)) = 93
        · rw [if_pos (by rw [z2]; rfl), if_pos z2, t4.2.2.1, w_succ]
          exact ⟨_, rfl, t4.at _, R4.fr ((Fr.rf (fun c => c = 1) _).sI rfl) (by omega) (by omega)⟩
        · rw [if_neg (by rw [wl_93, w_eq (by omega) (by omega) (by omega) (by omega)]; exact z2), if_neg z2, t4.2.2.1]
          obtain ⟨σ5, m5, t5, f5⟩ := fail_c (F := F) (a := sk B L (sp s1)) (c := 0) t4 (by omega) (by decide)
          rw [wl_0, m5, Option.bind_some, t5.2.2.1, w_succ]
          have t6 := t5.at (sk B L (sp s1) + 1)
          exact ⟨_, rfl, er_bad (e := 0) (by omega) (by decide) (by omega) t6 (((R4.fr f5 (by omega) (by omega)).fr ((Fr.rf (fun c => c = 1) _).sI rfl) (by omega) (by omega)).b (by omega))⟩
    have neg : isN B L (sk B L (sp s)) = true → ∃ σ', m5_readFact_67 F (m5_readFact F D) c (w32 (10 - ((e + 1 : Nat) : Int))) 1 σ1 = some σ' ∧ OC B L c (600 + 2 * (e + 1)) (bnd (facS B L e (to s (sk B L (sp s) + rn B L 97 122 (sk B L (sp s))))) (fun s' => .ok (pt s' (-30)))) σ' := by
      intro z1
      obtain ⟨σ2, m2, t2, f2⟩ := passWord_c (F := F) hT t1 (by omega) hF
      have rr := (rn_rg (B := B) (L := L) (p := sk B L (sp s)) (lo := 97) (hi := 122)).1
      have rp : 0 < rn B L 97 122 (sk B L (sp s)) := by
        unfold isN isw at z1
        rw [Bool.and_eq_true, Bool.and_eq_true, decide_eq_true_eq, decide_eq_true_eq] at z1
        exact z1.2.1
      have P2 : PC B L c (to s (sk B L (sp s) + rn B L 97 122 (sk B L (sp s)))) σ2 := ⟨t2, R1.fr f2 (by omega) (by omega)⟩
      generalize rn B L 97 122 (sk B L (sp s)) = kk at *
      obtain ⟨σ3, m3, o3⟩ := hrec _ σ2 P2 (show sl s ≤ sk B L (sp s) + kk by omega) (show sk B L (sp s) + kk ≤ L by omega) hn
      unfold m5_readFact_67
      rw [if_pos (by rw [wl_10, w_lt (by omega) (by omega) (by omega) (by omega)]; omega), ei, if_neg (by decide), m2, Option.bind_some, m3, Option.bind_some]
      cases hv : facS B L e (to s (sk B L (sp s) + kk)) with
      | error f =>
        rw [hv] at o3
        obtain ⟨σ4, m4, b4⟩ := put_b (F := F) (t := (-30 : Int32)) hc o3
        rw [m4]
        exact ⟨σ4, rfl, b4.mono (by omega)⟩
      | ok s1 =>
        rw [hv] at o3
        obtain ⟨⟨a1, a2, a3, a4, a5, a6, -, -⟩, -⟩ := hfok (to s (sk B L (sp s) + kk)) s1 hn hv
        have a4 : sl s1 + (sk B L (sp s) + kk) ≤ sp s1 + sl s := a4
        obtain ⟨σ4, m4, b4⟩ := put_c (F := F) (t := -30) hc o3 (by omega)
        have m4 : m5_put F c (-30 : Int32) σ3 = _ := m4
        rw [m4]
        exact ⟨σ4, rfl, b4⟩
    show ∃ σ', m5_readFact_e F (m5_readFact F D) c (w32 (10 - ((e + 1 : Nat) : Int))) σ = some σ' ∧ _
    have w5 := word_c (F := F) (c1 := 5) (by decide) hT t1 (by omega) hF
    rw [isN_w] at w5
    unfold m5_readFact_e facS
    rw [m1, Option.bind_some]
    dsimp only
    by_cases z1 : ch B L (sk B L (sp s)) = 91
    · have z2 : ¬ isN B L (sk B L (sp s)) = true := by
        unfold isN isw
        rw [rn_zero (by omega)]
        simp
      rw [if_neg z2] at w5
      rw [if_pos (by rw [z1]; rfl), if_neg z2, if_pos z1]
      unfold m5_readFact_14
      rw [w5, Option.bind_some, if_pos (show w32 (-1) = (-1 : Int32) from rfl)]
      unfold m5_readFact_30
      rw [if_neg (show ¬ (1 : Int32) = 0 by decide)]
      exact opn z1
    · rw [if_neg (by rw [wl_91, w_eq (by omega) (by omega) (by omega) (by omega)]; exact z1)]
      unfold m5_readFact_14
      by_cases z2 : isN B L (sk B L (sp s)) = true
      · rw [if_pos z2] at w5
        rw [w5, Option.bind_some, if_neg (show ¬ w32 0 = (-1 : Int32) by decide), if_pos z2]
        unfold m5_readFact_30
        rw [if_pos rfl, if_neg (show ¬ (1 : Int32) = 0 by decide)]
        exact neg z2
      · rw [if_neg z2] at w5
        rw [w5, Option.bind_some, if_pos (show w32 (-1) = (-1 : Int32) from rfl), if_neg z2, if_neg z1]
        unfold m5_readFact_30
        rw [if_pos rfl, if_pos rfl]
        obtain ⟨σ2, m2, o2⟩ := cmp_c (F := F) (k := 598) hT hc hF (by decide) P1 (show sl s ≤ sk B L (sp s) by omega) (show sk B L (sp s) ≤ L by omega) hn
        exact ⟨σ2, m2, o2.mono (by omega)⟩
