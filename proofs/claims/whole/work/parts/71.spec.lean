/-! TEXTS, 2: what a RULE's text says, without any memory -/
/-- place, how many values and signs of comparing, how many signs of the row, the row -/
abbrev St : Type := Nat × Nat × Nat × (Nat → Int)
def sp (s : St) : Nat := s.1
def sn (s : St) : Nat := s.2.1
def sl (s : St) : Nat := s.2.2.1
def sr (s : St) : Nat → Int := s.2.2.2
def pt (s : St) (t : Int) : St := (sp s, sn s, sl s + 1, fun i => if i = sl s then t else sr s i)
def to (s : St) (p : Nat) : St := (p, sn s, sl s, sr s)
def mk (s : St) : St := (sp s, sn s + 1, sl s, sr s)
abbrev Re : Type := Except Int St
def er (p c : Nat) : Re := .error (1 + 8 * (p : Int) + (c : Int))
def bnd (x : Re) (f : St → Re) : Re := match x with
  | .ok s => f s
  | .error e => .error e
def valS (B : Nat → Int) (L : Nat) (s : St) : Re :=
  let p := sk B L (sp s)
  if 97 ≤ ch B L p ∧ ch B L p ≤ 122 then
    if wdx B p (rn B L 97 122 p) (tws 3) 0 = -1 then er p 0 else if 60 ≤ sn s then er p 3
    else .ok (pt (mk (to s (p + rn B L 97 122 p))) (-1 - wdx B p (rn B L 97 122 p) (tws 3) 0))
  else if rn B L 48 57 p = 0 then er p 0 else if 5 < rn B L 48 57 p then er p 1 else if 60 ≤ sn s then er p 3
  else .ok (pt (mk (to s (p + rn B L 48 57 p))) (nv B p (rn B L 48 57 p)))
def sgn (c : Int) : Int := if c = 43 then -20 else if c = 45 then -21 else if c = 42 then -22 else if c = 47 then -23 else if c = 37 then -24 else 0
def pend (w : Int) (s : St) : St := if w = 0 then s else pt s w
def sumL (B : Nat → Int) (L : Nat) : Nat → Int → St → Re
  | 0, w, s => .ok (pend w s)
  | d + 1, w, s =>
    let p := sk B L (sp s)
    let t := sgn (ch B L p)
    if t = 0 then .ok (pend w (to s p))
    else if t = -20 ∨ t = -21 then bnd (valS B L (to (pend w s) (p + 1))) (sumL B L d t)
    else bnd (valS B L (to s (p + 1))) (fun s' => sumL B L d w (pt s' t))
def sumS (B : Nat → Int) (L : Nat) (s : St) : Re := bnd (valS B L s) (sumL B L 401 0)
def sgc (c : Int) (also : Bool) : Int := if c = 60 then (if also then -26 else -25) else if c = 61 then -27 else if also then -28 else -29
def cmpS (B : Nat → Int) (L : Nat) (s : St) : Re :=
  bnd (sumS B L s) fun s1 =>
    let p := sk B L (sp s1)
    let c := ch B L p
    if c = 60 ∨ c = 61 ∨ c = 62 then
      if 60 ≤ sn s1 then er p 3
      else
        let also : Bool := decide (c ≠ 61) && decide (ch B L (p + 1) = 61)
        bnd (sumS B L (mk (to s1 (if also then p + 2 else p + 1)))) fun s2 => .ok (pt s2 (sgc c also))
    else er p 0
def isN (B : Nat → Int) (L p : Nat) : Bool := isw B p (rn B L 97 122 p) [110, 111, 116]
def tesL (B : Nat → Int) (L : Nat) (fact : St → Re) : Nat → Bool → St → Re
  | 0, w, s => .ok (if w then pt s (-32) else s)
  | d + 1, w, s =>
    let p := sk B L (sp s)
    let j := wdx B p (rn B L 97 122 p) (tws 6) 0
    if j = -1 then .ok (if w then pt (to s p) (-32) else to s p)
    else if j = 1 then bnd (fact (if w then pt (to s (p + rn B L 97 122 p)) (-32) else to s (p + rn B L 97 122 p))) (tesL B L fact d true)
    else bnd (fact (to s (p + rn B L 97 122 p))) (fun s' => tesL B L fact d w (pt s' (-31)))
def tesS (B : Nat → Int) (L : Nat) (fact : St → Re) (s : St) : Re := bnd (fact s) (tesL B L fact 401 false)
def clsS (B : Nat → Int) (L : Nat) (s : St) : Re :=
  let p := sk B L (sp s)
  if ch B L p = 93 then .ok (to s (p + 1)) else er p 0
def facS (B : Nat → Int) (L : Nat) : Nat → St → Re
  | 0, s =>
    let p := sk B L (sp s)
    if isN B L p = true ∨ ch B L p = 91 then er p 2 else cmpS B L (to s p)
  | e + 1, s =>
    let p := sk B L (sp s)
    if isN B L p = true then bnd (facS B L e (to s (p + rn B L 97 122 p))) (fun s' => .ok (pt s' (-30)))
    else if ch B L p = 91 then bnd (tesS B L (facS B L e) (to s (p + 1))) (clsS B L)
    else cmpS B L (to s p)
/-! what holds of each step -/
theorem bnd_ok {x : Re} {f : St → Re} {s : St} (h : bnd x f = .ok s) : ∃ s1, x = .ok s1 ∧ f s1 = .ok s := by
  cases x with
  | ok s1 => exact ⟨s1, rfl, h⟩
  | error e => cases h
/-- a part of a text read: from s to s', whose row gets nt values and signs; the places bound the row -/
def Ext (L : Nat) (s s' : St) : Prop := sp s < sp s' ∧ sp s' ≤ L ∧ sl s < sl s' ∧ sl s' + sp s ≤ sp s' + sl s ∧ sn s < sn s' ∧ sn s' ≤ 60 ∧ (∀ i, i < sl s → sr s' i = sr s i) ∧ ∀ i, sl s ≤ i → i < sl s' → -32 ≤ sr s' i ∧ sr s' i ≤ 99999
/-- what it comes to: n more than there was needed -/
def Sem (s s' : St) : Prop := ∀ (w : Nat → Int64) (st : List Int64), st.length + (sn s' - sn s) ≤ 61 → ∃ x, run (sr s') w (sl s' - sl s) (sl s) st = some (x :: st)
def Sem2 (s s' : St) : Prop := ∀ (w : Nat → Int64) (st : List Int64), st.length + (sn s' - sn s) ≤ 61 → ∃ x, (x = 0 ∨ x = 1) ∧ run (sr s') w (sl s' - sl s) (sl s) st = some (x :: st)
theorem Sem2.s {s s' : St} (h : Sem2 s s') : Sem s s' := fun w st hs => by
  obtain ⟨x, -, e⟩ := h w st hs
  exact ⟨x, e⟩
theorem run_add {r : Nat → Int} {w : Nat → Int64} : ∀ (a b i : Nat) (st : List Int64), run r w (a + b) i st = Option.bind (run r w a i st) (run r w b (i + a))
  | 0, b, i, st => by rw [Nat.zero_add]; rfl
  | a + 1, b, i, st => by
    rw [show a + 1 + b = (a + b) + 1 by omega]
    show Option.bind (tokst w (r i) st) (run r w (a + b) (i + 1)) = Option.bind (Option.bind (tokst w (r i) st) (run r w a (i + 1))) _
    cases tokst w (r i) st with
    | none => rfl
    | some st1 =>
      show run r w (a + b) (i + 1) st1 = Option.bind (run r w a (i + 1) st1) _
      rw [run_add a b (i + 1) st1, show i + 1 + a = i + (a + 1) by omega]
theorem run_same {r r' : Nat → Int} {w : Nat → Int64} : ∀ (d i : Nat) (st : List Int64), (∀ k, i ≤ k → k < i + d → r k = r' k) → run r w d i st = run r' w d i st
  | 0, _, _, _ => rfl
  | d + 1, i, st, h => by
    show Option.bind (tokst w (r i) st) _ = Option.bind (tokst w (r' i) st) _
    rw [h i (Nat.le_refl _) (by omega)]
    cases tokst w (r' i) st with
    | none => rfl
    | some st1 => exact run_same d (i + 1) st1 (fun k h1 h2 => h k (by omega) (by omega))
theorem run_1 {r : Nat → Int} {w : Nat → Int64} {i : Nat} {st : List Int64} : run r w 1 i st = tokst w (r i) st := by
  show Option.bind (tokst w (r i) st) (fun st => some st) = _
  cases tokst w (r i) st <;> rfl
/-- one sign more -/
theorem run_pt {s : St} {t : Int} {w : Nat → Int64} {a : Nat} {st st1 : List Int64} (ha : a ≤ sl s) (h : run (sr s) w (sl s - a) a st = some st1) : run (sr (pt s t)) w (sl (pt s t) - a) a st = tokst w t st1 := by
  show run (fun i => if i = sl s then t else sr s i) w (sl s + 1 - a) a st = _
  rw [show sl s + 1 - a = (sl s - a) + 1 by omega, run_add, run_same (r' := sr s) _ _ _ (fun k h1 h2 => if_neg (by omega)), h]
  rw [Option.bind_some, run_1, show a + (sl s - a) = sl s by omega, if_pos rfl]
theorem Ext.trans {L : Nat} {s s1 s2 : St} (h : Ext L s s1) (g : Ext L s1 s2) : Ext L s s2 := by
  obtain ⟨a1, a2, a3, a4, a5, a6, a7, a8⟩ := h
  obtain ⟨b1, b2, b3, b4, b5, b6, b7, b8⟩ := g
  refine ⟨by omega, b2, by omega, by omega, by omega, b6, fun i hi => by rw [b7 i (by omega), a7 i hi], fun i h1 h2 => ?_⟩
  by_cases z : i < sl s1
  · rw [b7 i z]; exact a8 i h1 z
  · exact b8 i (by omega) h2
/-- the same from an earlier place -/
theorem Ext.pre {L p : Nat} {s s1 : St} (h : Ext L (to s p) s1) (hp : sp s ≤ p) : Ext L s s1 := by
  obtain ⟨a1, a2, a3, a4, a5, a6, a7, a8⟩ := h
  have e1 : sp (to s p) = p := rfl
  have e2 : sl (to s p) = sl s := rfl
  rw [e1] at a1 a4
  rw [e2] at a3 a4
  exact ⟨by omega, a2, a3, by omega, a5, a6, a7, a8⟩
/-- a sign put for places passed -/
theorem Ext.pt {L p : Nat} {s s1 : St} {t : Int} (h : Ext L s s1) (hp : sl s1 + sp s + 1 ≤ p + sl s) (hL : p ≤ L) (hle : sp s1 ≤ p) (ht : -32 ≤ t ∧ t ≤ 99999) : Ext L s (pt (to s1 p) t) := by
  obtain ⟨a1, a2, a3, a4, a5, a6, a7, a8⟩ := h
  refine ⟨?_, hL, ?_, ?_, a5, a6, fun i hi => ?_, fun i h1 h2 => ?_⟩
  · show sp s < p; omega
  · show sl s < sl s1 + 1; omega
  · show sl s1 + 1 + sp s ≤ p + sl s; omega
  · show (if i = sl s1 then t else sr s1 i) = sr s i
    rw [if_neg (by omega)]; exact a7 i hi
  · show -32 ≤ (if i = sl s1 then t else sr s1 i) ∧ (if i = sl s1 then t else sr s1 i) ≤ 99999
    have h2 : i < sl s1 + 1 := h2
    by_cases z : i = sl s1
    · rw [if_pos z]; exact ht
    · rw [if_neg z]; exact a8 i h1 (by omega)
theorem to_to {s : St} {p q : Nat} : to (to s p) q = to s q := rfl
theorem to_sp {s : St} : to s (sp s) = s := rfl
/-! values -/
theorem valS_ok {B : Nat → Int} {L : Nat} {s s' : St} (hT : Txt B L) (hn : sn s ≤ 60) (h : valS B L s = .ok s') : Ext L s s' ∧ Sem s s' := by
  have q := sk_rg (B := B) (L := L) (p := sp s)
  unfold valS at h
  dsimp only at h
  generalize sk B L (sp s) = p at *
  have fin : ∀ (k : Nat) (t : Int), 0 < k → k ≤ L - p → ¬ 60 ≤ sn s → -13 ≤ t → t ≤ 99999 → Ext L s (pt (mk (to s (p + k))) t) ∧ Sem s (pt (mk (to s (p + k))) t) := by
    intro k t h0 hk h60 t1 t2
    refine ⟨⟨?_, ?_, ?_, ?_, ?_, ?_, fun i hi => ?_, fun i h1 h2 => ?_⟩, fun w st hs => ?_⟩
    · show sp s < p + k; omega
    · show p + k ≤ L; omega
    · show sl s < sl s + 1; omega
    · show sl s + 1 + sp s ≤ p + k + sl s; omega
    · show sn s < sn s + 1; omega
    · show sn s + 1 ≤ 60; omega
    · exact if_neg (show ¬ i = sl s by omega)
    · have h2 : i < sl s + 1 := h2
      show -32 ≤ (if i = sl s then t else sr s i) ∧ (if i = sl s then t else sr s i) ≤ 99999
      rw [if_pos (by omega)]; omega
    · have hs : st.length + (sn s + 1 - sn s) ≤ 61 := hs
      show ∃ x, run (fun i => if i = sl s then t else sr s i) w (sl s + 1 - sl s) (sl s) st = some (x :: st)
      rw [show sl s + 1 - sl s = 1 by omega, run_1, if_pos rfl]
      unfold tokst
      rw [if_pos (by omega), if_pos ⟨t1, by omega⟩]
      exact ⟨_, rfl⟩
  split at h
  · rename_i hc
    have hr := rn_pos (B := B) (L := L) (p := p) (by decide) hc.1 hc.2
    have hr2 := (rn_rg (B := B) (L := L) (p := p) (lo := 97) (hi := 122)).1
    split at h
    · cases h
    · split at h
      · cases h
      · rename_i h1 h2
        have w := wdx_rg (B := B) (p := p) (n := rn B L 97 122 p) (tws 3) 0 (by decide)
        have l3 : (tws 3).length = 13 := rfl
        cases h
        exact fin _ _ hr hr2 h2 (by omega) (by omega)
  · have hr2 := (rn_rg (B := B) (L := L) (p := p) (lo := 48) (hi := 57)).1
    split at h
    · cases h
    · split at h
      · cases h
      · split at h
        · cases h
        · rename_i h1 h2 h3
          have v := nv_99999 (B := B) (L := L) (p := p) (k := rn B L 48 57 p) (Nat.le_refl _) (by omega)
          cases h
          exact fin _ _ (by omega) hr2 h3 (by omega) v.2
theorem sgn_rg (c : Int) : sgn c = 0 ∨ (-24 ≤ sgn c ∧ sgn c ≤ -20) := by
  unfold sgn
  repeat' split
  all_goals first | exact Or.inl rfl | exact Or.inr (by decide)
theorem sgn_m1 : sgn (-1) = 0 := by decide
/-- a sign of two values -/
theorem tok2 {w : Nat → Int64} {t : Int} {x y : Int64} {st : List Int64} (h1 : -32 ≤ t) (h2 : t ≤ -20) (h3 : t ≠ -30) : tokst w t (y :: x :: st) = some (opr t x y :: st) := by
  unfold tokst
  rw [if_neg (by omega), if_neg h3]
/-- the run so far, with w0 waiting: its sum stands below -/
def SemP (s0 : St) (w0 : Int) (s : St) : Prop := sl s0 ≤ sl s ∧ sn s0 ≤ sn s ∧ ∀ (w : Nat → Int64) (st : List Int64), st.length + (sn s - sn s0) ≤ 61 → ∃ a rest, run (sr s) w (sl s - sl s0) (sl s0) st = some (a :: rest) ∧ rest.length + 1 ≤ st.length + (sn s - sn s0) ∧ (if w0 = 0 then rest = st else ∃ x, rest = x :: st)
theorem run_ext {L : Nat} {s0 s s' : St} {w : Nat → Int64} {st st1 : List Int64} (hl : sl s0 ≤ sl s) (h : run (sr s) w (sl s - sl s0) (sl s0) st = some st1) (e : Ext L s s') : run (sr s') w (sl s' - sl s0) (sl s0) st = run (sr s') w (sl s' - sl s) (sl s) st1 := by
  obtain ⟨a1, a2, a3, a4, a5, a6, a7, a8⟩ := e
  rw [show sl s' - sl s0 = (sl s - sl s0) + (sl s' - sl s) by omega, run_add, run_same (r' := sr s) _ _ _ (fun k h1 h2 => a7 k (by omega)), h, show sl s0 + (sl s - sl s0) = sl s by omega]
  rfl
theorem pend_sem {s0 s : St} {w0 : Int} (hw : w0 = 0 ∨ (-32 ≤ w0 ∧ w0 ≤ -20 ∧ w0 ≠ -30)) (h : SemP s0 w0 s) : SemP s0 0 (pend w0 s) := by
  unfold pend
  obtain ⟨h1, h2, h3⟩ := h
  by_cases z : w0 = 0
  · rw [if_pos z]; rw [z] at h3; exact ⟨h1, h2, h3⟩
  · rw [if_neg z]
    refine ⟨Nat.le_succ_of_le h1, h2, fun w st hs => ?_⟩
    obtain ⟨a, rest, e, le, g⟩ := h3 w st hs
    rw [if_neg z] at g
    obtain ⟨x, rfl⟩ := g
    rw [run_pt h1 e, tok2 (by omega) (by omega) (by omega)]
    have le : st.length + 1 + 1 ≤ st.length + (sn s - sn s0) := le
    exact ⟨_, _, rfl, show st.length + 1 ≤ st.length + (sn s - sn s0) by omega, by rw [if_pos rfl]⟩
theorem pend_ext {L p : Nat} {s0 s : St} {w0 : Int} (hw : w0 = 0 ∨ (-32 ≤ w0 ∧ w0 ≤ -20 ∧ w0 ≠ -30)) (hp : sp s ≤ p) (hL : p ≤ L) (he : Ext L s0 s) (h0 : w0 ≠ 0 → sl s + sp s0 + 1 ≤ sp s + sl s0) : Ext L s0 (pend w0 (to s p)) := by
  unfold pend
  by_cases z : w0 = 0
  · rw [if_pos z]
    obtain ⟨a1, a2, a3, a4, a5, a6, a7, a8⟩ := he
    exact ⟨show sp s0 < p by omega, hL, a3, show sl s + sp s0 ≤ p + sl s0 by omega, a5, a6, a7, a8⟩
  · rw [if_neg z]
    have := h0 z
    exact he.pt (by omega) hL hp (by omega)
theorem to_pend {s : St} {w0 : Int} {p q : Nat} : to (pend w0 s) q = to (pend w0 (to s p)) q := by unfold pend; split <;> rfl
theorem sp_pend {s : St} {w0 : Int} {p : Nat} : sp (pend w0 (to s p)) = p := by unfold pend; split <;> rfl
/-- the loop of a sum: Ext from the start s0 on; a waiting sign has its place -/
theorem sumL_ok {B : Nat → Int} {L : Nat} {s0 s' : St} (hT : Txt B L) : ∀ (d : Nat) (w0 : Int) (s : St), w0 = 0 ∨ (-32 ≤ w0 ∧ w0 ≤ -20 ∧ w0 ≠ -30) → Ext L s0 s → (w0 ≠ 0 → sl s + sp s0 + 1 ≤ sp s + sl s0) → SemP s0 w0 s → sumL B L d w0 s = .ok s' → Ext L s0 s' ∧ SemP s0 0 s' := by
  intro d
  induction d with
  | zero =>
    intro w0 s hw he h0 hs h
    cases h
    exact ⟨pend_ext hw (Nat.le_refl _) he.2.1 he h0, pend_sem hw hs⟩
  | succ d ih =>
    intro w0 s hw he h0 hs h
    have q := sk_rg (B := B) (L := L) (p := sp s)
    have hl := he.2.1
    have hn := he.2.2.2.2.2.1
    unfold sumL at h
    dsimp only at h
    have hp : sk B L (sp s) ≤ L := by omega
    by_cases z : sgn (ch B L (sk B L (sp s))) = 0
    · rw [if_pos z] at h
      cases h
      exact ⟨pend_ext hw (by omega) hp he h0, pend_sem (s := to s (sk B L (sp s))) hw hs⟩
    · rw [if_neg z] at h
      have sg := sgn_rg (ch B L (sk B L (sp s)))
      by_cases z2 : sgn (ch B L (sk B L (sp s))) = -20 ∨ sgn (ch B L (sk B L (sp s))) = -21
      · rw [if_pos z2] at h
        obtain ⟨s1, e1, e2⟩ := bnd_ok h
        have hP := pend_ext hw (show sp s ≤ sk B L (sp s) by omega) hp he h0
        have hsp := sp_pend (s := s) (w0 := w0) (p := sk B L (sp s))
        have hps := pend_sem (s := to s (sk B L (sp s))) hw hs
        rw [to_pend (p := sk B L (sp s))] at e1
        generalize pend w0 (to s (sk B L (sp s))) = sq at *
        have hn1 : sn (to sq (sk B L (sp s) + 1)) ≤ 60 := hP.2.2.2.2.2.1
        obtain ⟨x1, x2⟩ := valS_ok hT hn1 e1
        have x3 : Ext L sq s1 := x1.pre (by omega)
        have n1 := x3.2.2.1
        have n2 := x3.2.2.2.2.1
        have n3 := hps.2.1
        have n4 := hps.1
        refine ih _ s1 (Or.inr (by omega)) (hP.trans x3) (fun _ => ?_) ⟨by omega, by omega, fun w st hst => ?_⟩ e2
        · have y1 := x1.2.2.2.1
          have y2 := hP.2.2.2.1
          have y3 : sl s1 + (sk B L (sp s) + 1) ≤ sp s1 + sl sq := y1
          omega
        · obtain ⟨a, rest, ex, le, g⟩ := hps.2.2 w st (by omega)
          rw [if_pos rfl] at g
          subst g
          obtain ⟨yv, ey⟩ := x2 w (a :: rest) (show rest.length + 1 + (sn s1 - sn sq) ≤ 61 by omega)
          exact ⟨yv, a :: rest, by rw [run_ext n4 ex x3]; exact ey, show rest.length + 1 + 1 ≤ rest.length + (sn s1 - sn s0) by omega, by rw [if_neg (by omega)]; exact ⟨a, rfl⟩⟩
      · rw [if_neg z2] at h
        obtain ⟨s1, e1, e2⟩ := bnd_ok h
        have hn1 : sn (to s (sk B L (sp s) + 1)) ≤ 60 := hn
        obtain ⟨x1, x2⟩ := valS_ok hT hn1 e1
        have x3 : Ext L s s1 := x1.pre (by omega)
        have y1 : sl s1 + (sk B L (sp s) + 1) ≤ sp s1 + sl s := x1.2.2.2.1
        have y2 := he.2.2.2.1
        have n1 := x3.2.2.1
        have n2 := x3.2.2.2.2.1
        have n3 := hs.2.1
        have n4 := hs.1
        have x4 := (he.trans x3).pt (p := sp s1) (t := sgn (ch B L (sk B L (sp s)))) (by omega) x1.2.1 (Nat.le_refl _) (by omega)
        rw [to_sp] at x4
        refine ih w0 _ hw x4 (fun hw0 => ?_) ⟨?_, ?_, fun w st hst => ?_⟩ e2
        · have := h0 hw0
          show sl s1 + 1 + sp s0 + 1 ≤ sp s1 + sl s0
          omega
        · show sl s0 ≤ sl s1 + 1; omega
        · show sn s0 ≤ sn s1; omega
        · have hst : st.length + (sn s1 - sn s0) ≤ 61 := hst
          obtain ⟨a, rest, ex, le, g⟩ := hs.2.2 w st (by omega)
          obtain ⟨yv, ey⟩ := x2 w (a :: rest) (show rest.length + 1 + (sn s1 - sn s) ≤ 61 by omega)
          have ey : run (sr s1) w (sl s1 - sl s) (sl s) (a :: rest) = some (yv :: a :: rest) := ey
          have ez : run (sr s1) w (sl s1 - sl s0) (sl s0) st = some (yv :: a :: rest) := by rw [run_ext n4 ex x3]; exact ey
          refine ⟨opr (sgn (ch B L (sk B L (sp s)))) a yv, rest, ?_, show rest.length + 1 ≤ st.length + (sn s1 - sn s0) by omega, g⟩
          rw [run_pt (by omega) ez, tok2 (by omega) (by omega) (by omega)]
theorem Sem.p {s s' : St} (h : Sem s s') (hl : sl s ≤ sl s') (hn : sn s < sn s') : SemP s 0 s' := ⟨hl, Nat.le_of_lt hn, fun w st hs => by
  obtain ⟨x, e⟩ := h w st hs
  exact ⟨x, st, e, by omega, by rw [if_pos rfl]⟩⟩
theorem SemP.s {s s' : St} (h : SemP s 0 s') : Sem s s' := fun w st hs => by
  obtain ⟨a, rest, e, -, g⟩ := h.2.2 w st hs
  rw [if_pos rfl] at g
  subst g
  exact ⟨a, e⟩
theorem sumS_ok {B : Nat → Int} {L : Nat} {s s' : St} (hT : Txt B L) (hn : sn s ≤ 60) (h : sumS B L s = .ok s') : Ext L s s' ∧ Sem s s' := by
  obtain ⟨s1, e1, e2⟩ := bnd_ok h
  obtain ⟨x1, x2⟩ := valS_ok hT hn e1
  obtain ⟨y1, y2⟩ := sumL_ok hT 401 0 s1 (Or.inl rfl) x1 (fun z => absurd rfl z) (x2.p (by have := x1.2.2.1; omega) x1.2.2.2.2.1) e2
  exact ⟨y1, y2.s⟩
theorem sgc_rg (c : Int) (a : Bool) : -29 ≤ sgc c a ∧ sgc c a ≤ -25 := by
  unfold sgc
  repeat' split
  all_goals decide
theorem opr_01 {t : Int} {x y : Int64} (h1 : -29 ≤ t) (h2 : t ≤ -25) : opr t x y = 0 ∨ opr t x y = 1 := by
  unfold opr
  rw [if_neg (by omega), if_neg (by omega), if_neg (by omega), if_neg (by omega), if_neg (by omega)]
  repeat' split
  all_goals first | exact Or.inl rfl | exact Or.inr rfl | omega
theorem cmpS_ok {B : Nat → Int} {L : Nat} {s s' : St} (hT : Txt B L) (hn : sn s ≤ 60) (h : cmpS B L s = .ok s') : Ext L s s' ∧ Sem2 s s' := by
  obtain ⟨s1, e1, e2⟩ := bnd_ok h
  obtain ⟨x1, x2⟩ := sumS_ok hT hn e1
  have q := sk_rg (B := B) (L := L) (p := sp s1)
  dsimp only at e2
  split at e2
  · rename_i hc
    split at e2
    · cases e2
    · rename_i h60
      obtain ⟨s2, e3, e4⟩ := bnd_ok e2
      have hlt : sk B L (sp s1) < L := ch_lt (B := B) (L := L) (by omega)
      have hl1 := x1.2.1
      generalize hal : (decide (ch B L (sk B L (sp s1)) ≠ 61) && decide (ch B L (sk B L (sp s1) + 1) = 61)) = al at *
      have hn1 : sn (mk (to s1 (if al = true then sk B L (sp s1) + 2 else sk B L (sp s1) + 1))) ≤ 60 := show sn s1 + 1 ≤ 60 by omega
      obtain ⟨y1, y2⟩ := sumS_ok hT hn1 e3
      obtain ⟨a1, a2, a3, a4, a5, a6, a7, a8⟩ := id y1
      have a1 : (if al = true then sk B L (sp s1) + 2 else sk B L (sp s1) + 1) < sp s2 := a1
      have a4 : sl s2 + (if al = true then sk B L (sp s1) + 2 else sk B L (sp s1) + 1) ≤ sp s2 + sl s1 := a4
      have a5 : sn s1 + 1 < sn s2 := a5
      have a3 : sl s1 < sl s2 := a3
      have hle : sk B L (sp s1) + 1 ≤ (if al = true then sk B L (sp s1) + 2 else sk B L (sp s1) + 1) := by split <;> omega
      have x3 : Ext L s1 s2 := ⟨by omega, a2, a3, by omega, by omega, a6, a7, a8⟩
      cases e4
      have rg := sgc_rg (ch B L (sk B L (sp s1))) al
      have y4 := x1.2.2.2.1
      have y3 := (x1.trans x3).pt (p := sp s2) (t := sgc (ch B L (sk B L (sp s1))) al) (by omega) a2 (Nat.le_refl _) (by omega)
      rw [to_sp] at y3
      refine ⟨y3, fun w st hs => ?_⟩
      have hs : st.length + (sn s2 - sn s) ≤ 61 := hs
      have n1 := x1.2.2.2.2.1
      have n2 := x1.2.2.1
      obtain ⟨a, ea⟩ := x2 w st (by omega)
      obtain ⟨b, eb⟩ := y2 w (a :: st) (show st.length + 1 + (sn s2 - (sn s1 + 1)) ≤ 61 by omega)
      have eb : run (sr s2) w (sl s2 - sl s1) (sl s1) (a :: st) = some (b :: a :: st) := eb
      have ez : run (sr s2) w (sl s2 - sl s) (sl s) st = some (b :: a :: st) := by rw [run_ext (by omega) ea x3]; exact eb
      refine ⟨_, opr_01 (x := a) (y := b) rg.1 rg.2, ?_⟩
      rw [run_pt (by omega) ez, tok2 (by omega) (by omega) (by omega)]
  · cases e2
theorem tokN {w : Nat → Int64} {x : Int64} {st : List Int64} : tokst w (-30) (x :: st) = some ((1 - x) :: st) := by
  unfold tokst
  rw [if_neg (by decide), if_pos rfl]
theorem opr_and {x y : Int64} (hx : x = 0 ∨ x = 1) (hy : y = 0 ∨ y = 1) : opr (-31) x y = 0 ∨ opr (-31) x y = 1 := by
  rcases hx with rfl | rfl <;> rcases hy with rfl | rfl <;> decide
theorem opr_or {x y : Int64} (hx : x = 0 ∨ x = 1) (hy : y = 0 ∨ y = 1) : opr (-32) x y = 0 ∨ opr (-32) x y = 1 := by
  rcases hx with rfl | rfl <;> rcases hy with rfl | rfl <;> decide
/-- what a way of reading facts does -/
def FOk (L : Nat) (fact : St → Re) : Prop := ∀ s s', sn s ≤ 60 → fact s = .ok s' → Ext L s s' ∧ Sem2 s s'
/-- as SemP, for truths; w: an or is waiting -/
def SemT (s0 : St) (w0 : Bool) (s : St) : Prop := sl s0 ≤ sl s ∧ sn s0 ≤ sn s ∧ ∀ (w : Nat → Int64) (st : List Int64), st.length + (sn s - sn s0) ≤ 61 → ∃ a rest, (a = 0 ∨ a = 1) ∧ run (sr s) w (sl s - sl s0) (sl s0) st = some (a :: rest) ∧ rest.length + 1 ≤ st.length + (sn s - sn s0) ∧ (if w0 = true then ∃ x, (x = 0 ∨ x = 1) ∧ rest = x :: st else rest = st)
theorem por_sem {s0 s : St} {w0 : Bool} (h : SemT s0 w0 s) : SemT s0 false (if w0 = true then pt s (-32) else s) := by
  obtain ⟨h1, h2, h3⟩ := h
  cases w0 with
  | false => exact ⟨h1, h2, h3⟩
  | true =>
    rw [if_pos rfl]
    refine ⟨Nat.le_succ_of_le h1, h2, fun w st hs => ?_⟩
    obtain ⟨a, rest, ha, e, le, g⟩ := h3 w st hs
    rw [if_pos rfl] at g
    obtain ⟨x, hx, rfl⟩ := g
    rw [run_pt h1 e, tok2 (by omega) (by omega) (by omega)]
    have le : st.length + 1 + 1 ≤ st.length + (sn s - sn s0) := le
    exact ⟨_, _, opr_or hx ha, rfl, show st.length + 1 ≤ st.length + (sn s - sn s0) by omega, rfl⟩
theorem por_ext {L p : Nat} {s0 s : St} {w0 : Bool} (hp : sp s ≤ p) (hL : p ≤ L) (he : Ext L s0 s) (h0 : w0 = true → sl s + sp s0 + 1 ≤ sp s + sl s0) : Ext L s0 (if w0 = true then pt (to s p) (-32) else to s p) := by
  cases w0 with
  | false =>
    obtain ⟨a1, a2, a3, a4, a5, a6, a7, a8⟩ := he
    exact ⟨show sp s0 < p by omega, hL, a3, show sl s + sp s0 ≤ p + sl s0 by omega, a5, a6, a7, a8⟩
  | true =>
    have := h0 rfl
    exact he.pt (by omega) hL hp (by decide)
theorem tesL_ok {B : Nat → Int} {L : Nat} {s0 s' : St} {fact : St → Re} (hT : Txt B L) (hf : FOk L fact) : ∀ (d : Nat) (w0 : Bool) (s : St), Ext L s0 s → (w0 = true → sl s + sp s0 + 1 ≤ sp s + sl s0) → SemT s0 w0 s → tesL B L fact d w0 s = .ok s' → Ext L s0 s' ∧ SemT s0 false s' := by
  intro d
  induction d with
  | zero =>
    intro w0 s he h0 hs h
    cases h
    exact ⟨por_ext (Nat.le_refl _) he.2.1 he h0, por_sem hs⟩
  | succ d ih =>
    intro w0 s he h0 hs h
    have q := sk_rg (B := B) (L := L) (p := sp s)
    have hl := he.2.1
    have hn := he.2.2.2.2.2.1
    have y2 := he.2.2.2.1
    unfold tesL at h
    dsimp only at h
    have hp : sk B L (sp s) ≤ L := by omega
    have rr := (rn_rg (B := B) (L := L) (p := sk B L (sp s)) (lo := 97) (hi := 122)).1
    by_cases z : wdx B (sk B L (sp s)) (rn B L 97 122 (sk B L (sp s))) (tws 6) 0 = -1
    · rw [if_pos z] at h
      cases h
      exact ⟨por_ext (by omega) hp he h0, por_sem (s := to s (sk B L (sp s))) hs⟩
    · rw [if_neg z] at h
      have rp := wdx_n z
      generalize rn B L 97 122 (sk B L (sp s)) = k at *
      by_cases z2 : wdx B (sk B L (sp s)) k (tws 6) 0 = 1
      · rw [if_pos z2] at h
        obtain ⟨s1, e1, e2⟩ := bnd_ok h
        have hP := por_ext (L := L) (p := sk B L (sp s)) (w0 := w0) (show sp s ≤ sk B L (sp s) by omega) hp he h0
        have hps := por_sem (s := to s (sk B L (sp s))) hs
        have e0 : (if w0 = true then pt (to s (sk B L (sp s) + k)) (-32) else to s (sk B L (sp s) + k)) = to (if w0 = true then pt (to s (sk B L (sp s))) (-32) else to s (sk B L (sp s))) (sk B L (sp s) + k) := by cases w0 <;> rfl
        have hsp : sp (if w0 = true then pt (to s (sk B L (sp s))) (-32) else to s (sk B L (sp s))) = sk B L (sp s) := by cases w0 <;> rfl
        rw [e0] at e1
        generalize (if w0 = true then pt (to s (sk B L (sp s))) (-32) else to s (sk B L (sp s))) = sq at *
        have hn1 : sn (to sq (sk B L (sp s) + k)) ≤ 60 := hP.2.2.2.2.2.1
        obtain ⟨x1, x2⟩ := hf _ _ hn1 e1
        have x3 : Ext L sq s1 := x1.pre (by omega)
        have n1 := x3.2.2.1
        have n2 := x3.2.2.2.2.1
        have n3 := hps.2.1
        have n4 := hps.1
        have y3 : sl s1 + (sk B L (sp s) + k) ≤ sp s1 + sl sq := x1.2.2.2.1
        have y4 := hP.2.2.2.1
        refine ih true s1 (hP.trans x3) (fun _ => by omega) ⟨by omega, by omega, fun w st hst => ?_⟩ e2
        obtain ⟨a, rest, ha, ex, le, g⟩ := hps.2.2 w st (by omega)
        have g : rest = st := g
        subst g
        obtain ⟨yv, hy, ey⟩ := x2 w (a :: rest) (show rest.length + 1 + (sn s1 - sn sq) ≤ 61 by omega)
        exact ⟨yv, a :: rest, hy, by rw [run_ext n4 ex x3]; exact ey, show rest.length + 1 + 1 ≤ rest.length + (sn s1 - sn s0) by omega, by rw [if_pos rfl]; exact ⟨a, ha, rfl⟩⟩
      · rw [if_neg z2] at h
        obtain ⟨s1, e1, e2⟩ := bnd_ok h
        have hn1 : sn (to s (sk B L (sp s) + k)) ≤ 60 := hn
        obtain ⟨x1, x2⟩ := hf _ _ hn1 e1
        have x3 : Ext L s s1 := x1.pre (by omega)
        have y1 : sl s1 + (sk B L (sp s) + k) ≤ sp s1 + sl s := x1.2.2.2.1
        have n1 := x3.2.2.1
        have n2 := x3.2.2.2.2.1
        have n3 := hs.2.1
        have n4 := hs.1
        have x4 := (he.trans x3).pt (p := sp s1) (t := -31) (by omega) x1.2.1 (Nat.le_refl _) (by decide)
        rw [to_sp] at x4
        refine ih w0 _ x4 (fun hw0 => ?_) ⟨?_, ?_, fun w st hst => ?_⟩ e2
        · have := h0 hw0
          show sl s1 + 1 + sp s0 + 1 ≤ sp s1 + sl s0
          omega
        · show sl s0 ≤ sl s1 + 1; omega
        · show sn s0 ≤ sn s1; omega
        · have hst : st.length + (sn s1 - sn s0) ≤ 61 := hst
          obtain ⟨a, rest, ha, ex, le, g⟩ := hs.2.2 w st (by omega)
          obtain ⟨yv, hy, ey⟩ := x2 w (a :: rest) (show rest.length + 1 + (sn s1 - sn s) ≤ 61 by omega)
          have ey : run (sr s1) w (sl s1 - sl s) (sl s) (a :: rest) = some (yv :: a :: rest) := ey
          have ez : run (sr s1) w (sl s1 - sl s0) (sl s0) st = some (yv :: a :: rest) := by rw [run_ext n4 ex x3]; exact ey
          refine ⟨opr (-31) a yv, rest, opr_and ha hy, ?_, show rest.length + 1 ≤ st.length + (sn s1 - sn s0) by omega, g⟩
          rw [run_pt (by omega) ez, tok2 (by omega) (by omega) (by omega)]
theorem tesS_ok {B : Nat → Int} {L : Nat} {s s' : St} {fact : St → Re} (hT : Txt B L) (hf : FOk L fact) (hn : sn s ≤ 60) (h : tesS B L fact s = .ok s') : Ext L s s' ∧ Sem2 s s' := by
  obtain ⟨s1, e1, e2⟩ := bnd_ok h
  obtain ⟨x1, x2⟩ := hf _ _ hn e1
  have n1 := x1.2.2.1
  have n2 := x1.2.2.2.2.1
  obtain ⟨y1, y2⟩ := tesL_ok hT hf 401 false s1 x1 (fun z => by cases z) ⟨by omega, by omega, fun w st hs => by
    obtain ⟨x, hx, e⟩ := x2 w st hs
    exact ⟨x, st, hx, e, by omega, rfl⟩⟩ e2
  refine ⟨y1, fun w st hs => ?_⟩
  obtain ⟨a, rest, ha, e, -, g⟩ := y2.2.2 w st hs
  have g : rest = st := g
  subst g
  exact ⟨a, ha, e⟩
theorem facS_ok {B : Nat → Int} {L : Nat} (hT : Txt B L) : ∀ e, FOk L (facS B L e)
  | 0 => fun s s' hn h => by
    have q := sk_rg (B := B) (L := L) (p := sp s)
    unfold facS at h
    dsimp only at h
    split at h
    · cases h
    · obtain ⟨x1, x2⟩ := cmpS_ok (s := to s (sk B L (sp s))) hT hn h
      exact ⟨x1.pre q.1, x2⟩
  | e + 1 => fun s s' hn h => by
    have q := sk_rg (B := B) (L := L) (p := sp s)
    have ih := facS_ok (B := B) (L := L) hT e
    unfold facS at h
    dsimp only at h
    split at h
    · rename_i hN
      obtain ⟨s1, e1, e2⟩ := bnd_ok h
      cases e2
      have rp : 0 < rn B L 97 122 (sk B L (sp s)) := by
        unfold isN isw at hN
        rw [Bool.and_eq_true, Bool.and_eq_true, decide_eq_true_eq, decide_eq_true_eq] at hN
        exact hN.2.1
      obtain ⟨x1, x2⟩ := ih (to s (sk B L (sp s) + rn B L 97 122 (sk B L (sp s)))) s1 hn e1
      have x3 : Ext L s s1 := x1.pre (by omega)
      have y1 : sl s1 + (sk B L (sp s) + rn B L 97 122 (sk B L (sp s))) ≤ sp s1 + sl s := x1.2.2.2.1
      have x4 := x3.pt (p := sp s1) (t := -30) (by omega) x1.2.1 (Nat.le_refl _) (by decide)
      rw [to_sp] at x4
      refine ⟨x4, fun w st hs => ?_⟩
      obtain ⟨x, hx, ex⟩ := x2 w st hs
      have n1 := x3.2.2.1
      refine ⟨1 - x, by rcases hx with rfl | rfl <;> decide, ?_⟩
      rw [run_pt (a := sl s) (by omega) ex, tokN]
    · split at h
      · rename_i h93
        obtain ⟨s1, e1, e2⟩ := bnd_ok h
        have hlt : sk B L (sp s) < L := ch_lt (B := B) (L := L) (by omega)
        obtain ⟨x1, x2⟩ := tesS_ok (s := to s (sk B L (sp s) + 1)) hT ih hn e1
        have x3 : Ext L s s1 := x1.pre (by omega)
        have r := sk_rg (B := B) (L := L) (p := sp s1)
        have l1 := x1.2.1
        unfold clsS at e2
        dsimp only at e2
        split at e2
        · rename_i h93b
          have hlt2 : sk B L (sp s1) < L := ch_lt (B := B) (L := L) (by omega)
          cases e2
          obtain ⟨a1, a2, a3, a4, a5, a6, a7, a8⟩ := x3
          exact ⟨⟨show sp s < sk B L (sp s1) + 1 by omega, hlt2, a3, show sl s1 + sp s ≤ sk B L (sp s1) + 1 + sl s by omega, a5, a6, a7, a8⟩, x2⟩
        · cases e2
      · obtain ⟨x1, x2⟩ := cmpS_ok (s := to s (sk B L (sp s))) hT hn h
        exact ⟨x1.pre q.1, x2⟩
