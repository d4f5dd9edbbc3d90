/-! TEXTS, 3: the class reads a RULE -/
def RW (c : Nat) (s : St) (σ : Mem) : Prop := gI σ c 1 = w32 (sl s : Int) ∧ gI σ c 2 = w32 (sn s : Int) ∧ ∀ i, i < sl s → gI σ (c + 1) i = w32 (sr s i)
theorem RW.fr {W : Nat → Prop} {c : Nat} {s : St} {σ σ' : Mem} (h : RW c s σ) (f : Fr W σ σ') (h1 : ¬ W c) (h2 : ¬ W (c + 1)) : RW c s σ' :=
  ⟨by rw [f.gI h1]; exact h.1, by rw [f.gI h1]; exact h.2.1, fun i hi => by rw [f.gI h2]; exact h.2.2 i hi⟩
def RB (c : Nat) (σ : Mem) : Prop := ∃ l : Nat, l ≤ 400 ∧ gI σ c 1 = w32 (l : Int)
theorem RB.fr {W : Nat → Prop} {c : Nat} {σ σ' : Mem} (h : RB c σ) (f : Fr W σ σ') (h1 : ¬ W c) : RB c σ' := by
  obtain ⟨l, a, b⟩ := h
  exact ⟨l, a, by rw [f.gI h1]; exact b⟩
theorem RW.b {c : Nat} {s : St} {σ : Mem} (h : RW c s σ) (hl : sl s ≤ 400) : RB c σ := ⟨sl s, hl, h.1⟩
def PC (B : Nat → Int) (L c : Nat) (s : St) (σ : Mem) : Prop := TC B L (sp s) 0 σ ∧ RW c s σ
def PB (B : Nat → Int) (L c k : Nat) (f : Int) (σ : Mem) : Prop := f ≠ 0 ∧ 0 ≤ f ∧ f ≤ 100000 ∧ ∃ p : Nat, p ≤ k ∧ TC B L p f σ ∧ RB c σ
theorem PB.mono {B : Nat → Int} {L c k k' : Nat} {f : Int} {σ : Mem} (h : PB B L c k f σ) (hk : k ≤ k') : PB B L c k' f σ := by
  obtain ⟨a, b, d, p, e, g⟩ := h
  exact ⟨a, b, d, p, by omega, g⟩
def OC (B : Nat → Int) (L c k : Nat) (x : Re) (σ : Mem) : Prop := match x with
  | .ok s => PC B L c s σ
  | .error f => PB B L c k f σ
theorem OC.mono {B : Nat → Int} {L c k k' : Nat} {x : Re} {σ : Mem} (h : OC B L c k x σ) (hk : k ≤ k') : OC B L c k' x σ := by
  cases x with
  | ok s => exact h
  | error f => exact PB.mono h hk
theorem er_bad {B : Nat → Int} {L c k p q e : Nat} {σ : Mem} (hp : p ≤ 1000) (he : e ≤ 10) (hq : q ≤ k) (h : TC B L q (ff 0 p (e : Int)) σ) (hb : RB c σ) : OC B L c k (er p e) σ := by
  have ef : ff 0 p (e : Int) = 1 + 8 * (p : Int) + (e : Int) := if_pos rfl
  rw [ef] at h
  exact ⟨by omega, by omega, by omega, q, hq, h, hb⟩
theorem ff_bad {f : Int} {a : Nat} {c : Int} (h : f ≠ 0) : ff f a c = f := if_neg h
theorem nfa_bad {lo hi v f : Int} {q n : Nat} (h : f ≠ 0) : nfa lo hi q n v f = f := by
  unfold nfa
  rw [ff_bad h, ff_bad h]
  split
  · rfl
  · split <;> rfl
theorem put_c {F : Nat} {B : Nat → Int} {L c : Nat} {s : St} {t : Int} {σ : Mem} (hc : 100 ≤ c) (h : PC B L c s σ) (hl : sl s < 400) : ∃ σ', m5_put F c (w32 t) σ = some σ' ∧ PC B L c (pt s t) σ' := by
  obtain ⟨ht, h1, h2, h3⟩ := h
  unfold m5_put
  rw [nI_w, h1, if_neg (by rw [w_le (by omega) (by omega) (by omega) (by omega)]; omega), gd_pos (w_inB (by omega) (by omega) (by omega)), w_natk (by omega)]
  dsimp only
  rw [gI_nec (by omega), h1, w_succ]
  refine ⟨_, rfl, (ht.ne (by omega)).ne (by omega), gI_eq .., ?_, fun i hi => ?_⟩
  · rw [gI_nej (by decide), gI_nec (by omega)]; exact h2
  · have hi : i < sl s + 1 := hi
    show _ = w32 (if i = sl s then t else sr s i)
    rw [gI_nec (by omega)]
    by_cases z : i = sl s
    · rw [if_pos z, z, gI_eq]
    · rw [if_neg z, gI_nej z]; exact h3 i (by omega)
theorem put_b {F : Nat} {B : Nat → Int} {L c k : Nat} {f : Int} {t : Int32} {σ : Mem} (hc : 100 ≤ c) (h : PB B L c k f σ) : ∃ σ', m5_put F c t σ = some σ' ∧ PB B L c k f σ' := by
  obtain ⟨a, b, d, p, e, ht, l, hl, h1⟩ := h
  unfold m5_put
  rw [nI_w, h1]
  by_cases z : 400 ≤ l
  · rw [if_pos (by rw [w_le (by omega) (by omega) (by omega) (by omega)]; omega)]
    exact ⟨σ, rfl, a, b, d, p, e, ht, l, hl, h1⟩
  · rw [if_neg (by rw [w_le (by omega) (by omega) (by omega) (by omega)]; omega), gd_pos (w_inB (by omega) (by omega) (by omega)), w_natk (by omega)]
    dsimp only
    rw [gI_nec (by omega), h1, w_succ]
    exact ⟨_, rfl, a, b, d, p, e, (ht.ne (by omega)).ne (by omega), l + 1, by omega, gI_eq ..⟩
/-! values -/
theorem rv79_c {F : Nat} {B : Nat → Int} {L c p : Nat} {s : St} {v : Int} {σ : Mem} (hc : 100 ≤ c) (ht : TC B L p 0 σ) (hr : RW c s σ) (hl : sl s < 400) (hn : sn s ≤ 60) : ∃ σ', m5_readValue_79 F c (w32 v) σ = some σ' ∧ PC B L c (pt (mk (to s p)) v) σ' := by
  obtain ⟨h1, h2, h3⟩ := hr
  have hP : PC B L c (mk (to s p)) (sI σ c 2 (w32 ((sn s + 1 : Nat) : Int))) := ⟨ht.ne (by omega), by rw [gI_nej (by decide)]; exact h1, gI_eq .., fun i hi => by rw [gI_nec (by omega)]; exact h3 i hi⟩
  obtain ⟨σ', m, e⟩ := put_c (F := F) (t := v) hc hP hl
  unfold m5_readValue_79
  dsimp only
  rw [h2, w_succ, m]
  exact ⟨σ', rfl, e⟩
theorem rv79_b {F : Nat} {B : Nat → Int} {L c k : Nat} {f : Int} {v : Int32} {σ : Mem} (hc : 100 ≤ c) (h : PB B L c k f σ) : ∃ σ', m5_readValue_79 F c v σ = some σ' ∧ PB B L c k f σ' := by
  obtain ⟨a, b, d, p, e, ht, l, hl, h1⟩ := h
  have hP : PB B L c k f (sI σ c 2 (gI σ c 2 + 1)) := ⟨a, b, d, p, e, ht.ne (by omega), l, hl, by rw [gI_nej (by decide)]; exact h1⟩
  obtain ⟨σ', m, e⟩ := put_b (F := F) (t := v) hc hP
  unfold m5_readValue_79
  dsimp only
  rw [m]
  exact ⟨σ', rfl, e⟩
theorem rv64_c {F : Nat} {B : Nat → Int} {L c p q k : Nat} {s : St} {v : Int} {σ : Mem} (hc : 100 ≤ c) (ht : TC B L p 0 σ) (hr : RW c s σ) (hl : sl s < 400) (hn : sn s ≤ 60) (hq : q ≤ 1000) (hp : p ≤ k) : ∃ σ', m5_readValue_64 F c (w32 (q : Int)) (w32 v) σ = some σ' ∧ OC B L c k (if 60 ≤ sn s then er q 3 else .ok (pt (mk (to s p)) v)) σ' := by
  unfold m5_readValue_64
  rw [hr.2.1]
  by_cases z : 60 ≤ sn s
  · rw [if_neg (by rw [wl_60, w_lt (by omega) (by omega) (by omega) (by omega)]; omega), if_pos z]
    obtain ⟨σ1, m1, t1, f1⟩ := fail_c (F := F) (a := q) (c := 3) ht (by omega) (by decide)
    rw [wl_3, m1, Option.bind_some]
    have hb := er_bad (B := B) (L := L) (c := c) (k := k) (e := 3) hq (by decide) hp t1 ((hr.b (by omega)).fr f1 (by omega))
    exact rv79_b hc hb
  · rw [if_pos (by rw [wl_60, w_lt (by omega) (by omega) (by omega) (by omega)]; omega), if_neg z]
    exact rv79_c hc ht hr hl hn
theorem rv64_b {F : Nat} {B : Nat → Int} {L c k q : Nat} {f : Int} {v : Int32} {σ : Mem} (hc : 100 ≤ c) (hq : q ≤ 1000000) (h : PB B L c k f σ) : ∃ σ', m5_readValue_64 F c (w32 (q : Int)) v σ = some σ' ∧ PB B L c k f σ' := by
  unfold m5_readValue_64
  by_cases z : gI σ c 2 < 60
  · rw [if_pos z]; exact rv79_b hc h
  · rw [if_neg z]
    obtain ⟨a, b, d, p, e, ht, hb⟩ := h
    obtain ⟨σ1, m1, t1, f1⟩ := fail_c (F := F) (a := q) (c := 3) ht (by omega) (by omega)
    rw [wl_3, m1, Option.bind_some]
    rw [ff_bad a] at t1
    exact rv79_b hc ⟨a, b, d, p, e, t1, hb.fr f1 (by omega)⟩
theorem value_b {F : Nat} {B : Nat → Int} {L c k : Nat} {f : Int} {σ : Mem} (hT : Txt B L) (hc : 100 ≤ c) (hF : 1000 ≤ F) (hk : 400 ≤ k ∧ k ≤ 100000) (h : PB B L c k f σ) : ∃ σ', m5_readValue F c σ = some σ' ∧ PB B L c k f σ' := by
  obtain ⟨a, b, d, p, e, ht, hb⟩ := h
  have hL := hT.1
  obtain ⟨σ1, m1, t1, f1⟩ := next_c (F := F) hT ht (by omega) hF
  have q := sk_rg (B := B) (L := L) (p := p)
  generalize sk B L p = p1 at *
  have b1 := hb.fr f1 (by omega)
  have hch := ch_rg (p := p1) hT
  have num : ∃ σ', m5_readValue_55 F c (fun x3 x4 σ => m5_readValue_64 F c x3 x4 σ) (w32 (p1 : Int)) σ1 = some σ' ∧ PB B L c k f σ' := by
    obtain ⟨σ2, m2, t2, f2⟩ := number_c (F := F) (lo := 0) (hi := 99999) hT t1 (by omega) hF (by omega) (by decide) (by decide)
    have q2 := sk_rg (B := B) (L := L) (p := p1)
    have r2 := (rn_rg (B := B) (L := L) (p := sk B L p1) (lo := 48) (hi := 57)).1
    rw [nfa_bad a] at t2
    unfold m5_readValue_55
    rw [wl_0, wl_99999, m2, Option.bind_some]
    exact rv64_b hc (by omega) ⟨a, b, d, _, by omega, t2, b1.fr f2 (by omega)⟩
  have wrd : ∀ (x : Int32) (σ2 : Mem), PB B L c k f σ2 → ∃ σ', m5_readValue_42 F c (fun x3 x4 σ => m5_readValue_64 F c x3 x4 σ) (w32 (p1 : Int)) x σ2 = some σ' ∧ PB B L c k f σ' := by
    intro x σ2 h2
    obtain ⟨a, b, d, p2, e2, t2, b2⟩ := h2
    obtain ⟨σ3, m3, t3, f3⟩ := passWord_c (F := F) hT t2 (by omega) hF
    have r2 := (rn_rg (B := B) (L := L) (p := p2) (lo := 97) (hi := 122)).1
    unfold m5_readValue_42
    rw [m3, Option.bind_some]
    exact rv64_b hc (by omega) ⟨a, b, d, _, by omega, t3, b2.fr f3 (by omega)⟩
  have B1 : PB B L c k f σ1 := ⟨a, b, d, p1, by omega, t1, b1⟩
  unfold m5_readValue
  rw [m1, Option.bind_some]
  dsimp only
  rw [t1.2.2.1]
  by_cases z1 : ch B L p1 < 97
  · rw [if_pos (by rw [wl_97, w_lt (by omega) (by omega) (by omega) (by omega)]; exact z1)]; exact num
  · rw [if_neg (by rw [wl_97, w_lt (by omega) (by omega) (by omega) (by omega)]; exact z1)]
    by_cases z2 : 122 < ch B L p1
    · rw [if_pos (by rw [wl_122, w_lt (by omega) (by omega) (by omega) (by omega)]; exact z2)]; exact num
    · rw [if_neg (by rw [wl_122, w_lt (by omega) (by omega) (by omega) (by omega)]; exact z2), word_c (by decide) hT t1 (by omega) hF, Option.bind_some]
      by_cases z3 : w32 (wdx B p1 (rn B L 97 122 p1) (tws 3) 0) = -1
      · rw [if_pos z3]
        obtain ⟨σ2, m2, t2, f2⟩ := fail_c (F := F) (a := p1) (c := 0) t1 (by omega) (by omega)
        rw [wl_0, m2, Option.bind_some]
        rw [ff_bad a] at t2
        exact wrd _ σ2 ⟨a, b, d, p1, by omega, t2, b1.fr f2 (by omega)⟩
      · rw [if_neg z3]; exact wrd _ σ1 B1
theorem value_c {F : Nat} {B : Nat → Int} {L c k : Nat} {s : St} {σ : Mem} (hT : Txt B L) (hc : 100 ≤ c) (hF : 1000 ≤ F) (hk : 400 ≤ k ∧ k ≤ 100000) (h : PC B L c s σ) (hl : sl s ≤ sp s) (hp : sp s ≤ L) (hn : sn s ≤ 60) : ∃ σ', m5_readValue F c σ = some σ' ∧ OC B L c k (valS B L s) σ' := by
  obtain ⟨ht, hr⟩ := h
  have hL := hT.1
  obtain ⟨σ1, m1, t1, f1⟩ := next_c (F := F) hT ht (by omega) hF
  have q := sk_rg (B := B) (L := L) (p := sp s)
  have r1 := hr.fr f1 (by omega) (by omega)
  have ess := sk_sk (B := B) (L := L) (p := sp s)
  unfold valS
  dsimp only
  generalize sk B L (sp s) = p1 at *
  have hch := ch_rg (p := p1) hT
  have num : ¬ (97 ≤ ch B L p1 ∧ ch B L p1 ≤ 122) → ∃ σ', m5_readValue_55 F c (fun x3 x4 σ => m5_readValue_64 F c x3 x4 σ) (w32 (p1 : Int)) σ1 = some σ' ∧ OC B L c k (if 97 ≤ ch B L p1 ∧ ch B L p1 ≤ 122 then
    if wdx B p1 (rn B L 97 122 p1) (tws 3) 0 = -1 then er p1 0 else if 60 ≤ sn s then er p1 3
    else .ok (pt (mk (to s (p1 + rn B L 97 122 p1))) (-1 - wdx B p1 (rn B L 97 122 p1) (tws 3) 0))
  else if rn B L 48 57 p1 = 0 then er p1 0 else if 5 < rn B L 48 57 p1 then er p1 1 else if 60 ≤ sn s then er p1 3
  else .ok (pt (mk (to s (p1 + rn B L 48 57 p1))) (nv B p1 (rn B L 48 57 p1)))) σ' := by
    intro hno
    rw [if_neg hno]
    obtain ⟨σ2, m2, t2, f2⟩ := number_c (F := F) (lo := 0) (hi := 99999) hT t1 (by omega) hF (by decide) (by decide) (by decide)
    rw [ess] at m2 t2
    have r2 := (rn_rg (B := B) (L := L) (p := p1) (lo := 48) (hi := 57)).1
    have v9 := nv_99999 (B := B) (L := L) (p := p1) (k := min (rn B L 48 57 p1) 5) (by omega) (by omega)
    have r3 := r1.fr f2 (by omega) (by omega)
    unfold m5_readValue_55
    rw [wl_0, wl_99999, m2, Option.bind_some]
    dsimp only
    unfold nfa at t2 ⊢
    by_cases z0 : rn B L 48 57 p1 = 0
    · rw [if_pos z0] at t2
      rw [if_pos z0, if_pos z0]
      have hb := er_bad (B := B) (L := L) (c := c) (k := k) (p := p1) (e := 0) (by omega) (by decide) (by omega) t2 (r3.b (by omega))
      exact rv64_b (q := p1) hc (by omega) hb
    · rw [if_neg z0] at t2
      rw [if_neg z0]
      by_cases z5 : 5 < rn B L 48 57 p1
      · rw [if_pos (Or.inl z5)] at t2
        rw [if_neg z0, if_pos z5]
        have hb := er_bad (B := B) (L := L) (c := c) (k := k) (p := p1) (e := 1) (by omega) (by decide) (by omega) t2 (r3.b (by omega))
        exact rv64_b (q := p1) hc (by omega) hb
      · rw [if_neg (by omega)] at t2
        rw [if_neg z5]
        have em : min (rn B L 48 57 p1) 5 = rn B L 48 57 p1 := by omega
        rw [em] at v9
        have e5 : ¬ (5 < rn B L 48 57 p1 ∨ nv B p1 (rn B L 48 57 p1) < 0 ∨ 99999 < nv B p1 (rn B L 48 57 p1)) := by omega
        rw [em, if_neg z0, if_neg e5, if_pos rfl]
        exact rv64_c hc t2 r3 (by omega) hn (by omega) (by omega)
  unfold m5_readValue
  rw [m1, Option.bind_some]
  dsimp only
  rw [t1.2.2.1]
  by_cases z1 : ch B L p1 < 97
  · rw [if_pos (by rw [wl_97, w_lt (by omega) (by omega) (by omega) (by omega)]; exact z1)]; exact num (by omega)
  · rw [if_neg (by rw [wl_97, w_lt (by omega) (by omega) (by omega) (by omega)]; exact z1)]
    by_cases z2 : 122 < ch B L p1
    · rw [if_pos (by rw [wl_122, w_lt (by omega) (by omega) (by omega) (by omega)]; exact z2)]; exact num (by omega)
    · have hlt : p1 < L := ch_lt (B := B) (L := L) (by omega)
      have w := wdx_rg (B := B) (p := p1) (n := rn B L 97 122 p1) (tws 3) 0 (by decide)
      have l3 : (tws 3).length = 13 := rfl
      have rr := (rn_rg (B := B) (L := L) (p := p1) (lo := 97) (hi := 122)).1
      rw [if_neg (by rw [wl_122, w_lt (by omega) (by omega) (by omega) (by omega)]; exact z2), word_c (by decide) hT t1 (by omega) hF, Option.bind_some, if_pos (show 97 ≤ ch B L p1 ∧ ch B L p1 ≤ 122 by omega)]
      by_cases z3 : wdx B p1 (rn B L 97 122 p1) (tws 3) 0 = -1
      · rw [if_pos (by rw [z3]; rfl), if_pos z3]
        obtain ⟨σ2, m2, t2, f2⟩ := fail_c (F := F) (a := p1) (c := 0) t1 (by omega) (by decide)
        obtain ⟨σ3, m3, t3, f3⟩ := passWord_c (F := F) hT t2 (by omega) hF
        rw [wl_0, m2, Option.bind_some]
        unfold m5_readValue_42
        rw [m3, Option.bind_some]
        exact rv64_b (q := p1) hc (by omega) (er_bad (c := c) (k := k) (p := p1) (e := 0) (by omega) (by decide) (by omega) t3 (((r1.fr f2 (by omega) (by omega)).fr f3 (by omega) (by omega)).b (by omega)))
      · rw [if_neg (by rw [wl_m1, w_eq (by omega) (by omega) (by omega) (by omega)]; exact z3), if_neg z3]
        obtain ⟨σ3, m3, t3, f3⟩ := passWord_c (F := F) hT t1 (by omega) hF
        unfold m5_readValue_42
        rw [m3, Option.bind_some, wl_m1, w_sub]
        exact rv64_c hc t3 (r1.fr f3 (by omega) (by omega)) (by omega) hn (by omega) (by omega)
/-! sums -/
theorem signOf_c {F : Nat} {c : Int} {σ : Mem} (h : -1 ≤ c ∧ c ≤ 255) : m5_signOf F (w32 c) σ = some (w32 (sgn c)) := by
  have b : ∀ k : Nat, k < 257 → m5_signOf F (w32 ((k : Int) - 1)) σ = some (w32 (sgn ((k : Int) - 1))) := by
    unfold m5_signOf
    decide +kernel
  have := b (c + 1).toNat (by omega)
  rw [show (((c + 1).toNat : Nat) : Int) - 1 = c by omega] at this
  exact this
theorem sum113_c {F : Nat} {B : Nat → Int} {L c k : Nat} {s : St} {w : Int} {σ : Mem} (hc : 100 ≤ c) (hw : -1000 ≤ w ∧ w ≤ 1000) (h : PC B L c s σ) (hl : w ≠ 0 → sl s < 400) : ∃ σ', m5_readSum_113 F c (w32 w) σ = some σ' ∧ OC B L c k (.ok (pend w s)) σ' := by
  unfold m5_readSum_113 pend
  by_cases z : w = 0
  · rw [if_pos (by rw [z]; rfl), if_pos z]; exact ⟨σ, rfl, h⟩
  · rw [if_neg (by rw [wl_0, w_eq (by omega) (by omega) (by omega) (by omega)]; exact z), if_neg z]
    obtain ⟨σ', m, e⟩ := put_c (F := F) (t := w) hc h (hl z)
    rw [m]
    exact ⟨σ', rfl, e⟩
theorem sum113_b {F : Nat} {B : Nat → Int} {L c k : Nat} {f : Int} {w : Int32} {σ : Mem} (hc : 100 ≤ c) (h : PB B L c k f σ) : ∃ σ', m5_readSum_113 F c w σ = some σ' ∧ PB B L c k f σ' := by
  unfold m5_readSum_113
  by_cases z : w = 0
  · rw [if_pos z]; exact ⟨σ, rfl, h⟩
  · rw [if_neg z]
    obtain ⟨σ', m, e⟩ := put_b (F := F) (t := w) hc h
    rw [m]
    exact ⟨σ', rfl, e⟩
theorem PB.f1 {B : Nat → Int} {L c k : Nat} {f : Int} {σ : Mem} (h : PB B L c k f σ) : ¬ gI σ 1 3 = 0 := by
  obtain ⟨a, b, d, p, e, ht, -⟩ := h
  rw [ht.2.2.2, wl_0, w_eq (by omega) (by omega) (by omega) (by omega)]
  exact a
theorem sum9_b {F : Nat} {B : Nat → Int} {L c k n : Nat} {f : Int} {w x : Int32} {σ : Mem} (hc : 100 ≤ c) (hn : 0 < n) (h : PB B L c k f σ) : ∃ σ', m5_readSum_9 F c n w x σ = some σ' ∧ PB B L c k f σ' := by
  obtain ⟨n, rfl⟩ : ∃ m, n = m + 1 := ⟨n - 1, by omega⟩
  unfold m5_readSum_9
  by_cases z : 400 ≤ x
  · rw [if_pos z]; exact sum113_b hc h
  · rw [if_neg z, if_neg h.f1]; exact sum113_b hc h
theorem sum_b {F : Nat} {B : Nat → Int} {L c k : Nat} {f : Int} {σ : Mem} (hT : Txt B L) (hc : 100 ≤ c) (hF : 1000 ≤ F) (hk : 400 ≤ k ∧ k ≤ 100000) (h : PB B L c k f σ) : ∃ σ', m5_readSum F c σ = some σ' ∧ PB B L c k f σ' := by
  obtain ⟨σ1, m1, b1⟩ := value_b (F := F) hT hc hF hk h
  unfold m5_readSum
  rw [m1, Option.bind_some]
  exact sum9_b hc (by omega) b1
theorem sum9_c {F : Nat} {B : Nat → Int} {L c k : Nat} (hT : Txt B L) (hc : 100 ≤ c) (hF : 1000 ≤ F) (hk : 400 ≤ k ∧ k ≤ 100000) : ∀ (d n x : Nat) (w : Int) (s : St) (σ : Mem), L - sp s < d → L - sp s < n → x ≤ sp s → w = 0 ∨ (-32 ≤ w ∧ w ≤ -20 ∧ w ≠ -30) → PC B L c s σ → sl s ≤ sp s → (w ≠ 0 → sl s < sp s) → sp s ≤ L → sn s ≤ 60 →
    ∃ σ', m5_readSum_9 F c n (w32 w) (w32 (x : Int)) σ = some σ' ∧ OC B L c k (sumL B L d w s) σ' := by
  have hL := hT.1
  intro d
  induction d with
  | zero => intro n x w s σ h; omega
  | succ d ih =>
    intro n x w s σ hd hn hx hw hP hl hl2 hp h60
    obtain ⟨n, rfl⟩ : ∃ k, n = k + 1 := ⟨n - 1, by omega⟩
    have q := sk_rg (B := B) (L := L) (p := sp s)
    have hch := ch_rg (p := sk B L (sp s)) hT
    unfold m5_readSum_9 sumL
    dsimp only
    by_cases z400 : 400 ≤ x
    · have e1 : sk B L (sp s) = sp s := by omega
      have e2 : ch B L (sp s) = -1 := if_neg (by omega)
      rw [if_pos (by rw [wl_400, w_le (by omega) (by omega) (by omega) (by omega)]; omega), e1, e2, if_pos sgn_m1, to_sp]
      exact sum113_c hc (by omega) hP (fun z => by have := hl2 z; omega)
    · obtain ⟨σ1, m1, t1, f1⟩ := next_c (F := F) hT hP.1 (by omega) hF
      have R1 := hP.2.fr f1 (by omega) (by omega)
      have P1 : PC B L c (to s (sk B L (sp s))) σ1 := ⟨t1, R1⟩
      rw [if_neg (by rw [wl_400, w_le (by omega) (by omega) (by omega) (by omega)]; omega), if_pos (by rw [hP.1.2.2.2]; rfl), m1, Option.bind_some]
      dsimp only
      rw [signOf_c hch, Option.bind_some]
      have sg := sgn_rg (ch B L (sk B L (sp s)))
      by_cases z0 : sgn (ch B L (sk B L (sp s))) = 0
      · rw [if_pos (by rw [z0]; rfl), if_pos z0]
        exact sum113_c hc (by omega) P1 (fun z => by have := hl2 z; show sl s < 400; omega)
      · have hlt : sk B L (sp s) < L := sk_lt (fun e => z0 (by rw [e, sgn_m1]))
        have fin_add : ∀ (t : Int) (sq : St) (σ2 : Mem), -32 ≤ t → t ≤ -20 → t ≠ -30 → PC B L c (to sq (sk B L (sp s) + 1)) σ2 → sl sq ≤ sk B L (sp s) → sn sq ≤ 60 → ∃ σ', m5_readSum_85 F c (fun x2 x3 σ => m5_readSum_9 F c n x2 x3 σ) (w32 w) (w32 (x : Int)) (w32 t) (1 : Int32) σ2 = some σ' ∧ OC B L c k (bnd (valS B L (to sq (sk B L (sp s) + 1))) (sumL B L d t)) σ' := by
          intro t sq σ2 t1 t2 t3 hQ hql hqn
          obtain ⟨σ3, m3, o3⟩ := value_c (F := F) (k := k) hT hc hF hk hQ (show sl sq ≤ sk B L (sp s) + 1 by omega) (show sk B L (sp s) + 1 ≤ L by omega) hqn
          unfold m5_readSum_85
          rw [m3, Option.bind_some, if_neg (by decide), w_succ]
          cases hv : valS B L (to sq (sk B L (sp s) + 1)) with
          | error f =>
            rw [hv] at o3
            exact sum9_b hc (by omega) o3
          | ok s1 =>
            rw [hv] at o3
            obtain ⟨x1, -⟩ := valS_ok (s := to sq (sk B L (sp s) + 1)) hT hqn hv
            obtain ⟨a1, a2, a3, a4, a5, a6, -, -⟩ := x1
            have a1 : sk B L (sp s) + 1 < sp s1 := a1
            have a4 : sl s1 + (sk B L (sp s) + 1) ≤ sp s1 + sl sq := a4
            exact ih n (x + 1) t s1 σ3 (by omega) (by omega) (by omega) (Or.inr ⟨t1, t2, t3⟩) o3 (by omega) (fun _ => by omega) a2 a6
        have t2 : PC B L c (to s (sk B L (sp s) + 1)) (sI σ1 1 2 (gI σ1 1 2 + 1)) := by
          rw [t1.2.2.1, w_succ]
          exact ⟨t1.at _, P1.2.fr ((Fr.rf (fun c => c = 1) σ1).sI rfl) (by omega) (by omega)⟩
        have add : sgn (ch B L (sk B L (sp s))) = -20 ∨ sgn (ch B L (sk B L (sp s))) = -21 → ∃ σ', m5_readSum_64 F c (fun x2 x3 x4 s0 σ => m5_readSum_69 F c (fun x2 x3 σ => m5_readSum_9 F c n x2 x3 σ) x2 x3 x4 s0 σ) (w32 w) (w32 (x : Int)) (w32 (sgn (ch B L (sk B L (sp s))))) (sI σ1 1 2 (gI σ1 1 2 + 1)) = some σ' ∧ OC B L c k (bnd (valS B L (to (pend w s) (sk B L (sp s) + 1))) (sumL B L d (sgn (ch B L (sk B L (sp s)))))) σ' := by
          intro hz
          show ∃ σ', m5_readSum_69 F c (fun x2 x3 σ => m5_readSum_9 F c n x2 x3 σ) (w32 w) (w32 (x : Int)) (w32 (sgn (ch B L (sk B L (sp s))))) (1 : Int32) _ = some σ' ∧ _
          unfold m5_readSum_69
          rw [if_neg (by decide)]
          by_cases zw : w = 0
          · rw [if_pos (by rw [zw]; rfl), show pend w s = s from if_pos zw]
            exact fin_add _ s _ (by omega) (by omega) (by omega) t2 (by omega) h60
          · rw [if_neg (by rw [wl_0, w_eq (by omega) (by omega) (by omega) (by omega)]; exact zw), show pend w s = pt s w from if_neg zw]
            have := hl2 zw
            obtain ⟨σ2, m2, p2⟩ := put_c (F := F) (t := w) hc t2 (show sl s < 400 by omega)
            rw [m2, Option.bind_some]
            exact fin_add _ (pt s w) _ (by omega) (by omega) (by omega) p2 (show sl s + 1 ≤ _ by omega) h60
        rw [if_neg (by rw [wl_0, w_eq (by omega) (by omega) (by omega) (by omega)]; exact z0), if_neg z0]
        by_cases z1 : sgn (ch B L (sk B L (sp s))) = -20
        · rw [if_pos (by rw [z1]; rfl), if_pos (Or.inl z1)]
          exact add (Or.inl z1)
        · rw [if_neg (by rw [wl_m20, w_eq (by omega) (by omega) (by omega) (by omega)]; exact z1)]
          by_cases z2 : sgn (ch B L (sk B L (sp s))) = -21
          · rw [if_pos (by rw [z2]; rfl), if_pos (Or.inr z2)]
            exact add (Or.inr z2)
          · rw [if_neg (by rw [wl_m21, w_eq (by omega) (by omega) (by omega) (by omega)]; exact z2), if_neg (by omega)]
            unfold m5_readSum_69 m5_readSum_85
            rw [if_pos rfl]
            obtain ⟨σ3, m3, o3⟩ := value_c (F := F) (k := k) hT hc hF hk t2 (show sl s ≤ sk B L (sp s) + 1 by omega) (show sk B L (sp s) + 1 ≤ L by omega) h60
            rw [m3, Option.bind_some, if_pos rfl, w_succ]
            cases hv : valS B L (to s (sk B L (sp s) + 1)) with
            | error f =>
              rw [hv] at o3
              obtain ⟨σ4, m4, b4⟩ := put_b (F := F) (t := w32 (sgn (ch B L (sk B L (sp s))))) hc o3
              rw [m4, Option.bind_some]
              exact sum9_b hc (by omega) b4
            | ok s1 =>
              rw [hv] at o3
              obtain ⟨x1, -⟩ := valS_ok (s := to s (sk B L (sp s) + 1)) hT h60 hv
              obtain ⟨a1, a2, a3, a4, a5, a6, -, -⟩ := x1
              have a1 : sk B L (sp s) + 1 < sp s1 := a1
              have a4 : sl s1 + (sk B L (sp s) + 1) ≤ sp s1 + sl s := a4
              obtain ⟨σ4, m4, b4⟩ := put_c (F := F) (t := sgn (ch B L (sk B L (sp s)))) hc o3 (by omega)
              rw [m4, Option.bind_some]
              exact ih n (x + 1) w (pt s1 _) σ4 (show L - sp s1 < d by omega) (show L - sp s1 < n by omega) (show x + 1 ≤ sp s1 by omega) hw b4 (show sl s1 + 1 ≤ sp s1 by omega) (fun zw => show sl s1 + 1 < sp s1 by have := hl2 zw; omega) a2 a6
theorem sum_c {F : Nat} {B : Nat → Int} {L c k : Nat} {s : St} {σ : Mem} (hT : Txt B L) (hc : 100 ≤ c) (hF : 1000 ≤ F) (hk : 400 ≤ k ∧ k ≤ 100000) (h : PC B L c s σ) (hl : sl s ≤ sp s) (hp : sp s ≤ L) (hn : sn s ≤ 60) : ∃ σ', m5_readSum F c σ = some σ' ∧ OC B L c k (sumS B L s) σ' := by
  have hL := hT.1
  obtain ⟨σ1, m1, o1⟩ := value_c (F := F) (k := k) hT hc hF hk h hl hp hn
  unfold m5_readSum sumS
  rw [m1, Option.bind_some]
  cases hv : valS B L s with
  | error f =>
    rw [hv] at o1
    exact sum9_b hc (by omega) o1
  | ok s1 =>
    rw [hv] at o1
    obtain ⟨x1, -⟩ := valS_ok hT hn hv
    obtain ⟨a1, a2, a3, a4, a5, a6, -, -⟩ := x1
    exact sum9_c hT hc hF hk 401 F 0 0 s1 σ1 (by omega) (by omega) (by omega) (Or.inl rfl) o1 (by omega) (fun z => absurd rfl z) a2 a6
