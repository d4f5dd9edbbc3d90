/-! the constructors: soundness -/
theorem arrV_ext {c : ClassId} {N : Nat} {f g : Nat → Value} (h : ∀ j, j < N → f j = g j) : arrV c N f = arrV c N g := by
  unfold arrV
  have e : (fun j : Fin N => f j.val) = fun j => g j.val := funext fun j => h j.val j.isLt
  rw [e]
theorem wsC_at {E : EnvT} {hp : List CC} {a : Nat} {x : CC} (h : hp[a]? = some x) : (wsC E hp)[a]? = some (eBase E + a, eltC E x) := by
  unfold wsC
  rw [List.getElem?_mapIdx, h]
  rfl
theorem wsC_of {E : EnvT} {hp : List CC} {k : Nat} {q : Nat × va_E} (h : (wsC E hp)[k]? = some q) : ∃ x, hp[k]? = some x ∧ q = (eBase E + k, eltC E x) := by
  unfold wsC at h
  rw [List.getElem?_mapIdx] at h
  cases hx : hp[k]? with
  | none => rw [hx] at h; cases h
  | some x =>
    rw [hx] at h
    cases h
    exact ⟨x, rfl, rfl⟩
theorem relC_push {E : EnvT} {hp : List CC} {x : CC} {H H' : Heap} (h : RelC E hp H) (hz : H'.size = H.size + 1) (hn : va_at (eD E) vwCl (eBase E + hp.length, eltC E x) H') (ho : ∀ q, q < H.size → H'[q]? = H[q]?) : RelC E (hp ++ [x]) H' := by
  refine ⟨by rw [hz, h.1, List.length_append]; rfl, fun k q hk => ?_⟩
  obtain ⟨y, hy, rfl⟩ := wsC_of hk
  rcases Nat.lt_or_ge k hp.length with hl | hl
  · rw [List.getElem?_append_left hl] at hy
    exact (h.2 k _ (wsC_at hy)).kept (ho _ (by show eBase E + k < H.size; rw [h.1]; omega))
  · rw [List.getElem?_append_right hl] at hy
    have h0 : k - hp.length < 1 := (List.getElem?_eq_some_iff.mp hy).1
    have hk0 : k = hp.length := by omega
    subst hk0
    rw [Nat.sub_self] at hy
    cases hy
    exact hn
theorem relC_set {E : EnvT} {hp : List CC} {a : Nat} {old x : CC} {H H' : Heap} (h : RelC E hp H) (ha : hp[a]? = some old) (hz : H'.size = H.size) (hn : va_at (eD E) vwCl (eBase E + a, eltC E x) H') (ho : ∀ q : Nat, q ≠ eBase E + a → H'[q]? = H[q]?) : RelC E (hp.set a x) H' := by
  refine ⟨by rw [hz, h.1, List.length_set], fun k q hk => ?_⟩
  obtain ⟨y, hy, rfl⟩ := wsC_of hk
  by_cases hka : k = a
  · subst hka
    rw [List.getElem?_set_self (List.getElem?_eq_some_iff.mp ha).1] at hy
    cases hy
    exact hn
  · rw [List.getElem?_set_ne (Ne.symm hka)] at hy
    exact (h.2 k _ (wsC_at hy)).kept (ho _ (by show eBase E + k ≠ eBase E + a; omega))
theorem szL_app (a b : List CC) : szL (a ++ b) = szL a + szL b := by
  induction a with
  | nil => simp [szL]
  | cons x t ih => simp only [List.cons_append, szL, ih]; omega
theorem szL_set {x old : CC} (hs : szC x = szC old) : ∀ {hp : List CC} {a : Nat}, hp[a]? = some old → szL (hp.set a x) = szL hp
  | [], _, h => by cases h
  | y :: t, 0, h => by cases h; simp only [List.set_cons_zero, szL, hs]
  | y :: t, a + 1, h => by
    simp only [List.set_cons_succ, szL]
    rw [szL_set hs (hp := t) (a := a) h]
def WC (E : EnvT) (mi : Nat) (p : Program) (l : Launch) (e : Env) (R : Room) (s : State) (m : MethodId) (args : Array Value) (below : List Frame) (meth : Method) (c : Code) (n0 s0 : Nat) (Q : State → Prop) : Nat → LVs → List AV → List CC → Prop := fun pc lv st hp =>
  n0 ≤ hp.length → s0 ≤ szL hp → ∀ (H : Heap) (locs : List Loc) (ls : Array Slot), RelC E hp H → va_S (eA E) s.heap H locs → lok E ls (kML mi) lv → W p l e R s m args below meth c H locs (hp.length - n0) (szL hp - s0) Q (F0 m pc ls (st.map (conc E)))
def kOw (i : Nat) : String := (kNm i).cls
def NestOK (U : State) : Prop := (∀ o i x k, Cond.methodLinkNest o i x k ∈ tables_1 → va_Nw (.methodLinkNest o i x k) U) ∧ (∀ ty, Cond.arrayOver ty ∈ tables_1 → va_Nw (.arrayOver ty) U)
theorem mna_same {ty : FieldType} {a a' : Array Value} {u U : State} (h : u.vm = U.vm) (hz : (Cond.arrayOver ty).before a u = true) : (Cond.arrayOver ty).before a' U = true := by
  simp only [Cond.before, Cond.holds, Cond.value] at hz ⊢
  rw [← h]
  exact hz
theorem NestOK.warm {s U : State} (hW : s.WarmedH U.vm) (h : NestOK s) : NestOK U :=
  ⟨fun o i x k hm => va_Nw.warmM hW (h.1 o i x k hm), fun ty hm => mna_same (rfl : (s.setVm U.vm).vm = U.vm) ((Cond.arrayOver_setVmC hW.alike _).trans (h.2 ty hm))⟩
theorem NestOK.same {u U : State} (hv : u.vm = U.vm) (h : NestOK u) : NestOK U :=
  ⟨fun o i x k hm => va_Nw.same rfl hv (h.1 o i x k hm), fun ty hm => mna_same hv (h.2 ty hm)⟩
def ActK (E : EnvT) (mi h : Nat) (p : Program) (R : Room) (s : State) (m : MethodId) (args : Array Value) (meth : Method) (c : Code) : Prop :=
  p.tables.exec = Jvm.exec ∧ c.code = kCd mi ∧ c.maxLocals = kML mi ∧ s.vm.findClass (kOw mi) = some m.cls ∧ (∀ w ∈ ALLg, w.before args s = true) ∧ va_K (eD E) vwCl (tysL E) s ∧ ((mi < 13 → meth.name = "<init>") ∧ NestOK s) ∧ h ≤ R.frames ∧ 40 * h ≤ R.locals
/-- what must be true of an entry: lengths, numbers -/
def okK (mi : Nat) (q : Ent) : Bool := match q with
  | (pc, i, len, x, y, _, v, _) => match i with
    | .istore_n k | .astore_n k => Nat.beq len 1 && Nat.blt k.val (kML mi)
    | .iconst n => Nat.beq len 1 && decide (Int32.ofInt n = v)
    | .bipush n => Nat.beq len 2 && decide ((Int8.ofInt n).toInt32 = v)
    | .sipush n => Nat.beq len 3 && decide ((Int16.ofInt n).toInt32 = v)
    | .iinc k n => Nat.beq len 3 && (decide (Int32.ofInt n = v) && Nat.blt k (kML mi))
    | .goto o | .if_icmp _ o => Nat.beq len 3 && decide ((pc : Int) + o = (x : Int))
    | .new _ => Nat.beq len 3 && Nat.blt x 13
    | .newarray t => Nat.beq len 2 && (Nat.blt x 4 && decide (newarray.typeOf t = atyp x))
    | .anewarray _ => Nat.beq len 3 && (Nat.blt 3 x && Nat.blt x 7)
    | .multianewarray _ d => Nat.beq len 4 && (Nat.beq x 7 && Nat.beq d 2)
    | .getfield _ => Nat.beq len 3 && (Nat.blt x 13 && Nat.blt y (nf x))
    | .putfield _ => Nat.beq len 3 && (Nat.blt x 13 && (Nat.blt y (nf x) && (Nat.blt mi 13 && decide (((clT x) y).1 = kOw mi ∨ ((clT x) y).2.2.2 = false))))
    | .invokespecial _ => Nat.beq len 3
    | _ => Nat.beq len 1
/-- .. and its words -/
def okKW (mi : Nat) (q : Ent) : Prop := match q with
  | (_, i, _, x, y, z, _, _) => match i with
    | .new n => Cond.classLink (kOw mi) n (clR x) ∈ ALLg ∧ Cond.instantiable (clR x) (nf x) ∈ ALLg ∧ Cond.initialized (clR x) ∈ ALLg
    | .newarray t => Cond.arrayClass (newarray.typeOf t) ∈ ALLg
    | .anewarray n => ∃ C, atyp x = .object C ∧ Cond.classLink (kOw mi) n C ∈ ALLg ∧ Cond.arrayOver (.object C) ∈ tables_1
    | .multianewarray n _ => Cond.classLink (kOw mi) n ("[" ++ (FieldType.array .int).toString) ∈ ALLg ∧ Cond.arrayOver (.array .int) ∈ tables_1 ∧ Cond.arrayClass .int ∈ ALLg
    | .getfield n | .putfield n => Cond.fieldLink (kOw mi) n ((clT x) y).1 ((clT x) y).2.1 ((clT x) y).2.2.1 ∈ ALLg
    | .invokespecial n => (x = 99 → Cond.methodLink (kOw mi) n Lib.objectInit ∈ ALLg ∧ Cond.instanceMethod Lib.objectInit ∈ ALLg ∧ Cond.code Lib.objectInit ⟨#[0xb1]⟩ 1 none ∈ ALLg) ∧ (x ≠ 99 → (Cond.methodLink (kOw mi) n (kNm x) ∈ ALLg ∨ ∃ host, Cond.methodLinkNest (kOw mi) n (kNm x) host ∈ tables_1))
    | _ => True
section KS
variable {p : Program} {l : Launch} {e : Env} {R : Room} {s : State} {m : MethodId} {args : Array Value} {below : List Frame} {meth : Method} {c : Code} {n0 s0 : Nat} {Q : State → Prop}
variable {E : EnvT} {mi h : Nat}
theorem conc0 (E : EnvT) (v : Value) : conc E (v, 0) = cvc E v := by
  cases v <;> rfl
theorem cvc_cat (E : EnvT) (v : Value) : (cvc E v).category = v.category := by
  cases v <;> rfl
/-- what the array classes are called -/
theorem ty_p (hK : va_K (eD E) vwCl (tysL E) s) {t : Nat} (ht : t < 4) {cA : ClassId} (h : s.vm.findClass ("[" ++ (atyp t).toString) = some cA) : cA = eC E t := by
  have h1 := (hK.2 t _ (tys_at (by omega))).2
  have h2 : s.vm.findClass ("[" ++ (atyp t).toString) = some (eC E t) := by
    match t, ht, h1 with
    | 0, _, h1 => exact h1
    | 1, _, h1 => exact h1
    | 2, _, h1 => exact h1
    | 3, _, h1 => exact h1
  exact Option.some.inj (h.symm.trans h2)
theorem ty_o (hK : va_K (eD E) vwCl (tysL E) s) {t : Nat} (ht : t < 8) {C : String} (hC : atyp t = .object C) {cA : ClassId} (h : s.vm.findClass ("[" ++ (FieldType.object C).toString) = some cA) : cA = eC E t := by
  have h1 := (hK.2 t _ (tys_at ht)).2
  rw [hC] at h1
  obtain ⟨_, _, _, _, _, h2⟩ := h1
  exact Option.some.inj (h.symm.trans h2)
theorem ty_a (hK : va_K (eD E) vwCl (tysL E) s) {cA : ClassId} (h : s.vm.findClass ("[" ++ (FieldType.array .int).toString) = some cA) : cA = eC E 7 := by
  have h1 : s.vm.findClass ("[" ++ (FieldType.array .int).toString) = some (eC E 7) := (hK.2 7 _ (tys_at (by omega))).2
  exact Option.some.inj (h.symm.trans h1)
theorem vS_push {H0 H H1 : Heap} {locs : List Loc} (hS : va_S (eA E) H0 H locs) (z : H.size ≤ H1.size) (o : ∀ q, q < H.size → H1[q]? = H[q]?) : va_S (eA E) H0 H1 locs :=
  ⟨Nat.le_trans hS.1 z, fun x h1 h2 => (o x (Nat.lt_of_lt_of_le h1 hS.1)).trans (hS.2.1 x h1 h2), hS.2.2⟩
theorem dfl_ok {x : Nat} (hx : dfB x = true) {j : Nat} (hj : j < nf x) : cvc E (defaultValue (clTy x j)) = defaultValue (clTy x j) := by
  have h1 := List.all_eq_true.mp hx j (List.mem_range.mpr hj)
  cases hv : defaultValue (clTy x j) with
  | ref a => rw [hv] at h1; cases h1
  | _ => rfl
theorem okV_n {ty : FieldType} {v : Value} (h : okV ty v = true) : narrow ty (cvc E v) = cvc E v ∧ fits ty (cvc E v) = true := by
  cases ty <;> cases v <;> first
    | exact ⟨rfl, rfl⟩
    | (cases h; done)
    | (simp only [okV, Bool.or_eq_true, decide_eq_true_eq] at h
       rcases h with rfl | rfl
       · exact ⟨show narrow .boolean (.int 0) = .int 0 by decide, show fits .boolean (.int 0) = true by decide⟩
       · exact ⟨show narrow .boolean (.int 1) = .int 1 by decide, show fits .boolean (.int 1) = true by decide⟩)
theorem ka_put {pc y a n ci z : Nat} {w : Value} {vs : List Value} {hp : List CC} {ls : Array Slot} {H : Heap} {locs : List Loc} {rest : List Value} {cells slots : Nat} (A : ActK E mi h p R s m args meth c) (hR : RelC E hp H) (hS : va_S (eA E) s.heap H locs) (e1 : vwCl[ci]? = some (clR ci, clT ci, nf ci)) (e2 : ∀ w ∈ u_ws (clR ci) (clT ci) (nf ci), w ∈ ALLg) (e3 : ∀ k, k < nf ci → parseFieldDescriptor ((clT ci) k).2.2.1 = some (clTy ci k)) (e4 : ∀ a, a < nf ci → ∀ b, b < nf ci → a ≠ b → ((clT ci) a).2.1 ≠ ((clT ci) b).2.1) (hy : y < nf ci) (hdecl : ((clT ci) y).1 = kOw mi ∨ ((clT ci) y).2.2.2 = false) (hmi : mi < 13) (hw : Cond.fieldLink (kOw mi) n ((clT ci) y).1 ((clT ci) y).2.1 ((clT ci) y).2.2.1 ∈ ALLg) (ha : hp[a]? = some (0, ci, z, vs)) (hlv : y < vs.length)
    (hn : narrow (clTy ci y) (cvc E w) = cvc E w) (hfit : fits (clTy ci y) (cvc E w) = true) (hd : decode (kCd mi) pc = .ok (.putfield n, 3))
    (kk : ∀ (H1 : Heap) (locs1 : List Loc), RelC E (hp.set a (0, ci, z, vs.set y w)) H1 → va_S (eA E) s.heap H1 locs1 → W p l e R s m args below meth c H1 locs1 cells slots Q (F0 m (pc + 3) ls rest)) : W p l e R s m args below meth c H locs cells slots Q (F0 m pc ls (cvc E w :: .ref (eBase E + a) :: rest)) := by
  have hts := A.2.2.2.2.1
  have hK := A.2.2.2.2.2.1
  have hap := va_apart (own := kOw mi) hts e2 (clTy ci) e3 e4 hK e1
  obtain ⟨r, h1, cell, q1, q2, q3, q4⟩ := hR.2 a _ (wsC_at ha)
  have hr : r = (clR ci, clT ci, nf ci) := Option.some.inj (h1.symm.trans e1)
  subst hr
  obtain ⟨hSl, hfc, kC, hkC, hkind⟩ := hK.1 ci _ e1
  obtain ⟨cf, kf, fi, f, hi, hsl⟩ := hSl y hy
  have hlay := hts _ (e2 _ (u_in_lay hy))
  have hst := (u_facts hfc hkC (u_lays hts e2 hy) hi).1
  have hAa : eA E (eBase E + a) := Nat.le_add_right _ _
  have fin : ∀ (H1 : Heap), H1[eBase E + a]? = some (cell.setSlot (f.slot) (cvc E w)) → H1.size = H.size → (∀ q : Nat, q ≠ eBase E + a → H1[q]? = H[q]?) → RelC E (hp.set a (0, ci, z, vs.set y w)) H1 := by
    intro H1 f1 f2 f3
    rw [hsl] at f1
    refine relC_set hR ha f2 ⟨_, e1, ?_⟩ f3
    have t1 := t_OB.to (V := updV (vp_V (vs.map (cvc E))) y (cvc E w)) (V' := vp_V ((vs.set y w).map (cvc E))) ⟨_, f1, q2, q3, t_set q4 hap hy (cvc E w)⟩ (fun j _ => by
      rw [List.map_set]
      exact vp_updV_set (by rw [List.length_map]; exact hlv) (cvc E w) j)
    exact t1
  by_cases hfin : ((clT ci) y).2.2.2 = true
  · unfold u_lay at hlay
    rw [if_pos hfin] at hlay
    have hdecl1 := hdecl.resolve_right (fun q => by rw [hfin] at q; cases q)
    have hcf : m.cls = cf := by
      obtain ⟨_, _, c', _, _, _, -, -, hf', -, -, -, hown2, -⟩ := Cond.laysFinal_spec hlay
      have e1 : c' = cf := by have := hi.symm.trans hf'; simp at this; exact this.1.symm
      rw [hdecl1] at hown2
      rw [← e1]; exact Option.some.inj (A.2.2.2.1.symm.trans hown2)
    have h6 := u_fits hfc hkC hkind (Or.inr hlay) hi (e3 y hy) hn hfit
    refine W.putFinK A.1 A.2.1 A.2.2.2.1 (hts _ hw) hi hst hcf (A.2.2.2.2.2.2.1.1 hmi) (by rw [q2]; exact h6) q1 q3 (by rw [hsl]; exact k2_hasslot (q4 y hy)) rfl rfl hd fun H1 f1 f2 f3 => ?_
    exact kk H1 _ (fin H1 f1 f2 f3) (hS.put f2 f3 hAa)
  · unfold u_lay at hlay
    rw [if_neg hfin] at hlay
    have h6 := u_store hfc hkC hkind hlay hi (e3 y hy) hn hfit
    refine W.putK A.1 A.2.1 (f := f) ⟨A.2.2.2.1, hts _ hw, ⟨_, _, _, hi⟩, hst⟩ (by rw [q2]; exact h6) q1 q3 (by rw [hsl]; exact k2_hasslot (q4 y hy)) rfl rfl hd fun H1 f1 f2 f3 => ?_
    exact kk H1 _ (fin H1 f1 f2 f3) (hS.put f2 f3 hAa)
theorem ka_ast {pc a w t n ci z : Nat} {j : Int32} {vs ws : List Value} {hp : List CC} {ls : Array Slot} {H : Heap} {locs : List Loc} {rest : List Value} {cells slots : Nat} (A : ActK E mi h p R s m args meth c) (hR : RelC E hp H) (hS : va_S (eA E) s.heap H locs) (ha : hp[a]? = some (2, t, n, vs)) (hw : hp[w]? = some (0, ci, z, ws)) (hj : ¬ j < 0 ∧ j.toNatClampNeg < n) (hc : 3 < t ∧ t < 7 ∧ ci < 13 ∧ atyp t = .object (clR ci)) (hd : decode (kCd mi) pc = .ok (.aastore, 1))
    (kk : ∀ (H1 : Heap) (locs1 : List Loc), RelC E (hp.set a (2, t, n, (List.range n).map fun i => if i = j.toNatClampNeg then Value.ref w else vs.getD i .null)) H1 → va_S (eA E) s.heap H1 locs1 → W p l e R s m args below meth c H1 locs1 cells slots Q (F0 m (pc + 1) ls rest)) : W p l e R s m args below meth c H locs cells slots Q (F0 m pc ls (.ref (eBase E + w) :: .int j :: .ref (eBase E + a) :: rest)) := by
  have hK := A.2.2.2.2.2.1
  obtain ⟨c1, c2, c3, c4⟩ := hc
  have hci := (cl_ok ci c3).1
  obtain ⟨r', hr', cellV, g1, g2, g3, -⟩ := hR.2 w _ (wsC_at hw)
  have hcls := (hK.1 ci _ hci).2
  have hra := (hK.2 t _ (tys_at (by omega))).2
  rw [c4] at hra
  obtain ⟨kA, comp, k1, k2, k3, -⟩ := hra
  have hcomp : comp = (eD E).1 ci := Option.some.inj (k3.symm.trans hcls.1)
  subst hcomp
  obtain ⟨kC, hkC, -⟩ := hcls.2
  have hcell := hR.2 a _ (wsC_at ha)
  refine W.aast A.1 A.2.1 hcell (fun q h => by cases h) (fun h => by cases h) k1 k2 rfl hkC ⟨hj.1, by show _ < (arrV _ _ _).slots.size; rw [arrV_size]; exact hj.2⟩ g1 (fun q h => by rw [g3] at h; cases h) (by rw [g2]; exact hkC) (by rw [g2]; exact va_assign hcls) rfl rfl hd fun H1 e z oq => ?_
  refine kk H1 _ (relC_set hR ha z ?_ oq) (hS.put z oq (Nat.le_add_right _ _))
  show H1[eBase E + a]? = some (vp_cell _ _)
  rw [e]
  show some (Cell.setSlot (vp_cell _ _) _ _) = _
  rw [vp_cell_q, vp_cell_q, arrV_store]
  congr 1
  refine arrV_ext (fun i hi => ?_)
  show updV _ _ _ i = va_rf (cvr E (((List.range n).map fun i => if i = j.toNatClampNeg then Value.ref w else vs.getD i .null).getD i .null))
  rw [List.getD_eq_getElem?_getD, List.getElem?_map, List.getElem?_range hi]
  by_cases hq : i = j.toNatClampNeg
  · subst hq
    simp [updV, va_rf, cvr]
  · simp [updV, hq]
theorem szL_rep (n : Nat) (x : CC) : szL (List.replicate n x) = n * szC x := by
  induction n with
  | zero => simp [szL]
  | succ n ih => rw [List.replicate_succ, szL, ih, Nat.succ_mul]; omega
theorem relC_many {hp : List CC} {H H' : Heap} {xs : List CC} (h : RelC E hp H) (hz : H'.size = H.size + xs.length) (ho : ∀ q, q < H.size → H'[q]? = H[q]?) (hn : ∀ (i : Nat) (x : CC), xs[i]? = some x → va_at (eD E) vwCl (eBase E + hp.length + i, eltC E x) H') : RelC E (hp ++ xs) H' := by
  refine ⟨by rw [hz, h.1, List.length_append]; omega, fun k q hk => ?_⟩
  obtain ⟨y, hy, rfl⟩ := wsC_of hk
  rcases Nat.lt_or_ge k hp.length with hl | hl
  · rw [List.getElem?_append_left hl] at hy
    exact (h.2 k _ (wsC_at hy)).kept (ho _ (by show eBase E + k < H.size; rw [h.1]; omega))
  · rw [List.getElem?_append_right hl] at hy
    have h2 := hn _ _ hy
    rw [show eBase E + hp.length + (k - hp.length) = eBase E + k by omega] at h2
    exact h2
theorem outerC_eq (c : ClassId) (N h0 : Nat) : ∀ i : Nat, Jvm.Free.Multi.outerC c N h0 i = arrV c N (fun j => if j < i then .ref (h0 + 1 + j) else .null)
  | 0 => by
    show ({ cls := c, slots := Array.replicate N .null, vm := .none } : Cell) = _
    rw [arrV_new]
    exact arrV_ext (fun j _ => by simp)
  | i + 1 => by
    show (Jvm.Free.Multi.outerC c N h0 i).setSlot i (.ref (h0 + 1 + i)) = _
    rw [outerC_eq c N h0 i, arrV_store]
    refine arrV_ext (fun j _ => ?_)
    by_cases e : j = i
    · subst e
      simp [updV]
    · by_cases h : j < i
      · simp [updV, e, h, show j < i + 1 by omega]
      · simp [updV, e, h, show ¬ j < i + 1 by omega]
theorem ka_mna {pc idx : Nat} {n k : Int32} {hp : List CC} {ls : Array Slot} {H : Heap} {locs : List Loc} {rest : List Value} {cells slots : Nat} (A : ActK E mi h p R s m args meth c) (hR : RelC E hp H) (hS : va_S (eA E) s.heap H locs) (w1 : Cond.classLink (kOw mi) idx ("[" ++ (FieldType.array .int).toString) ∈ ALLg) (w2 : Cond.arrayOver (.array .int) ∈ tables_1) (w3 : Cond.arrayClass .int ∈ ALLg) (hn : ¬ n < 0 ∧ n.toNatClampNeg ≤ 1000) (hk : ¬ k < 0 ∧ k.toNatClampNeg ≤ 1000)
    (hcells : cells + (1 + n.toNatClampNeg) ≤ R.cells) (hslots : slots + (n.toNatClampNeg + n.toNatClampNeg * k.toNatClampNeg) ≤ R.slots) (hd : decode (kCd mi) pc = .ok (.multianewarray idx 2, 4))
    (kk : ∀ H1 : Heap, RelC E (hp ++ ((2, 7, n.toNatClampNeg, (List.range n.toNatClampNeg).map fun i => .ref (hp.length + 1 + i)) :: List.replicate n.toNatClampNeg (1, 0, k.toNatClampNeg, []))) H1 → va_S (eA E) s.heap H1 locs → W p l e R s m args below meth c H1 locs (cells + 1 + n.toNatClampNeg) (slots + n.toNatClampNeg + n.toNatClampNeg * k.toNatClampNeg) Q (F0 m (pc + 4) ls (.ref (eBase E + hp.length) :: rest))) : W p l e R s m args below meth c H locs cells slots Q (F0 m pc ls (.int k :: .int n :: rest)) := by
  intro T hT Xs
  have hK := A.2.2.2.2.2.1
  obtain ⟨vm₁, cA, comp, -, fA, fC, hO, -, X', step⟩ := Xs.multianewarray2F A.1 A.2.2.2.1 (A.2.2.2.2.1 _ w1) (mna_same rfl (A.2.2.2.2.2.2.1.2.2 _ w2)) (A.2.2.2.2.1 _ w3) (g := F0 m pc ls (.int k :: .int n :: rest)) rfl (by rw [A.2.1]; exact hd) rfl hn.1 hk.1 (by omega) (by show k.toNatClampNeg * 4 ≤ _; omega) (by omega) rfl rfl hcells hslots
  have hcA := ty_a hK fA
  subst hcA
  have hcC := ty_p hK (t := 0) (by omega) (cA := comp) fC
  subst hcC
  generalize hF : Jvm.Free.Multi.fill (T.setVm vm₁) (eC E 7) (eC E 0) n.toNatClampNeg k.toNatClampNeg (defaultValue .int) n.toNatClampNeg = F at X' step
  have hTh : (T.setVm vm₁).heap = H := hT
  obtain ⟨f1, f2, -, -⟩ := Jvm.Free.Multi.fill_facts (T.setVm vm₁) (eC E 7) (eC E 0) n.toNatClampNeg k.toNatClampNeg (defaultValue .int) n.toNatClampNeg
  rw [hF, hTh] at f1 f2
  have hold : ∀ x : Nat, x < H.size → F.heap[x]? = H[x]? := fun x hx => by
    have := Jvm.Free.Multi.fill_old (T.setVm vm₁) (eC E 7) (eC E 0) n.toNatClampNeg k.toNatClampNeg (defaultValue .int) (a := x) (by rw [hTh]; exact hx) n.toNatClampNeg
    rw [hF, hTh] at this
    exact this
  have hrow : ∀ j : Nat, j < n.toNatClampNeg → F.heap[H.size + 1 + j]? = some (arrV (eC E 0) k.toNatClampNeg (fun _ => .int 0)) := fun j hj => by
    have := Jvm.Free.Multi.fill_inner (T.setVm vm₁) (eC E 7) (eC E 0) n.toNatClampNeg k.toNatClampNeg (defaultValue .int) n.toNatClampNeg j hj
    rw [hF, hTh] at this
    rw [this, ← arrV_new]
    rfl
  rw [outerC_eq] at f2
  have hRn : RelC E (hp ++ ((2, 7, n.toNatClampNeg, (List.range n.toNatClampNeg).map fun i => .ref (hp.length + 1 + i)) :: List.replicate n.toNatClampNeg (1, 0, k.toNatClampNeg, []))) F.heap := by
    refine relC_many hR (by rw [f1, List.length_cons, List.length_replicate]; omega) hold (fun i x hx => ?_)
    cases i with
    | zero =>
      cases hx
      show F.heap[eBase E + hp.length + 0]? = some (vp_cell _ _)
      rw [Nat.add_zero, ← hR.1, f2, vp_cell_q]
      congr 1
      refine arrV_ext (fun j hj => ?_)
      have hg : ((List.range n.toNatClampNeg).map fun i => Value.ref (hp.length + 1 + i)).getD j .null = .ref (hp.length + 1 + j) := by
        rw [List.getD_eq_getElem?_getD, List.getElem?_map, List.getElem?_range hj]
        rfl
      have hsz := hR.1
      show (if j < n.toNatClampNeg then Value.ref (H.size + 1 + j) else .null) = va_rf (cvr E (((List.range n.toNatClampNeg).map fun i => Value.ref (hp.length + 1 + i)).getD j .null))
      rw [hg, if_pos hj]
      show Value.ref (H.size + 1 + j) = Value.ref (eBase E + (hp.length + 1 + j))
      rw [show H.size + 1 + j = eBase E + (hp.length + 1 + j) by omega]
    | succ i =>
      rw [List.getElem?_cons_succ] at hx
      have hi : i < n.toNatClampNeg := by
        have := (List.getElem?_eq_some_iff.mp hx).1
        rwa [List.length_replicate] at this
      rw [List.getElem?_replicate, if_pos hi] at hx
      cases hx
      show F.heap[eBase E + hp.length + (i + 1)]? = some (vp_cell _ _)
      rw [show eBase E + hp.length + (i + 1) = H.size + 1 + i by rw [hR.1]; omega, hrow i hi]
      rfl
  obtain ⟨t, a1, b1⟩ := kk F.heap hRn (vS_push hS (by omega) hold) F rfl X'
  refine ⟨t, step t ?_, b1⟩
  rw [show T.heap.size = eBase E + hp.length by rw [hT, hR.1]]
  exact a1
theorem kst_snd (A : ActK E mi h p R s m args meth c) (q : Ent) (hd : decode (kCd mi) q.1 = .ok (q.2.1, q.2.2.1)) (hb : okK mi q = true) (hw : okKW mi q) {lv lv' : LVs} {st st' : List AV} {hp hp' : List CC} {pc' : Nat} (hk : kst q lv st hp = some (pc', lv', st', hp')) :
    (hp.length ≤ hp'.length ∧ szL hp ≤ szL hp') ∧ (WC E mi p l e R s m args below meth c n0 s0 Q pc' lv' st' hp' → hp'.length - n0 ≤ R.cells → szL hp' - s0 ≤ R.slots → WC E mi p l e R s m args below meth c n0 s0 Q q.1 lv st hp) := by
  obtain ⟨pc, i, len, x, y, z, v, w⟩ := q
  dsimp only at hd ⊢
  cases i
  case aload_n k =>
    dsimp only [okK] at hb
    obtain rfl : len = 1 := Nat.eq_of_beq_eq_true hb
    dsimp only [kst] at hk
    split at hk
    · rename_i a n hn
      cases hk
      refine ⟨⟨Nat.le_refl _, Nat.le_refl _⟩, fun kk _ _ h1 h2 H locs ls hR hS hlo => ?_⟩
      have hkk := kk h1 h2 H locs ls hR hS hlo
      have hx := hlo.2.2.2 _ _ hn
      change W p l e R s m args below meth c H locs (hp.length - n0) (szL hp - s0) Q (F0 m _ ls (conc E (.ref a, n) :: st.map (conc E))) at hkk
      rcases conc_rf E a n with ⟨q, hq⟩ | hq
      · rw [hq] at hkk hx
        exact lv_aload_n A.1 A.2.1 hd rfl hx hkk
      · rw [hq] at hkk hx
        exact lv_aload_nN A.1 A.2.1 hd rfl hx hkk
    · cases hk
  case iload_n k =>
    dsimp only [okK] at hb
    obtain rfl : len = 1 := Nat.eq_of_beq_eq_true hb
    dsimp only [kst] at hk
    split at hk
    · rename_i a n hn
      cases hk
      refine ⟨⟨Nat.le_refl _, Nat.le_refl _⟩, fun kk _ _ h1 h2 H locs ls hR hS hlo => ?_⟩
      exact lv_iload_n A.1 A.2.1 hd rfl (hlo.2.2.2 _ _ hn) (kk h1 h2 H locs ls hR hS hlo)
    · cases hk
  case iconst k =>
    dsimp only [okK] at hb
    try simp only [Bool.and_eq_true] at hb
    obtain ⟨hlen, hb⟩ := hb
    obtain rfl : len = 1 := Nat.eq_of_beq_eq_true hlen
    dsimp only [kst] at hk
    cases hk
    refine ⟨⟨Nat.le_refl _, Nat.le_refl _⟩, fun kk _ _ h1 h2 H locs ls hR hS hlo => ?_⟩
    exact lv_iconst A.1 A.2.1 hd (of_decide_eq_true hb) (kk h1 h2 H locs ls hR hS hlo)
  case bipush k =>
    dsimp only [okK] at hb
    try simp only [Bool.and_eq_true] at hb
    obtain ⟨hlen, hb⟩ := hb
    obtain rfl : len = 2 := Nat.eq_of_beq_eq_true hlen
    dsimp only [kst] at hk
    cases hk
    refine ⟨⟨Nat.le_refl _, Nat.le_refl _⟩, fun kk _ _ h1 h2 H locs ls hR hS hlo => ?_⟩
    exact lv_bipush A.1 A.2.1 hd (of_decide_eq_true hb) (kk h1 h2 H locs ls hR hS hlo)
  case sipush k =>
    dsimp only [okK] at hb
    try simp only [Bool.and_eq_true] at hb
    obtain ⟨hlen, hb⟩ := hb
    obtain rfl : len = 3 := Nat.eq_of_beq_eq_true hlen
    dsimp only [kst] at hk
    cases hk
    refine ⟨⟨Nat.le_refl _, Nat.le_refl _⟩, fun kk _ _ h1 h2 H locs ls hR hS hlo => ?_⟩
    exact lv_sipush A.1 A.2.1 hd (of_decide_eq_true hb) (kk h1 h2 H locs ls hR hS hlo)
  case aconst_null =>
    dsimp only [okK] at hb
    obtain rfl : len = 1 := Nat.eq_of_beq_eq_true hb
    dsimp only [kst] at hk
    cases hk
    refine ⟨⟨Nat.le_refl _, Nat.le_refl _⟩, fun kk _ _ h1 h2 H locs ls hR hS hlo => ?_⟩
    exact lv_null A.1 A.2.1 hd (kk h1 h2 H locs ls hR hS hlo)
  case istore_n k =>
    dsimp only [okK] at hb
    try simp only [Bool.and_eq_true] at hb
    obtain ⟨hlen, hb⟩ := hb
    obtain rfl : len = 1 := Nat.eq_of_beq_eq_true hlen
    dsimp only [kst] at hk
    split at hk
    · cases hk
      refine ⟨⟨Nat.le_refl _, Nat.le_refl _⟩, fun kk _ _ h1 h2 H locs ls hR hS hlo => ?_⟩
      exact lv_istore_n A.1 A.2.1 hd rfl (lok_has hlo) (Nat.blt_eq.mp hb) rfl (fun ls' h' => kk h1 h2 H locs ls' hR hS (lok_set (a := (.int _, 0)) hlo rfl h'))
    · cases hk
  case astore_n k =>
    dsimp only [okK] at hb
    try simp only [Bool.and_eq_true] at hb
    obtain ⟨hlen, hb⟩ := hb
    obtain rfl : len = 1 := Nat.eq_of_beq_eq_true hlen
    dsimp only [kst] at hk
    split at hk
    · rename_i a n st2
      cases hk
      refine ⟨⟨Nat.le_refl _, Nat.le_refl _⟩, fun kk _ _ h1 h2 H locs ls hR hS hlo => ?_⟩
      have k2 := fun (ls' : Array Slot) (h' : lv_has ls' (kML mi) ((k.val, conc E (.ref a, n)) :: (flat E 0 lv).filter (fun q => !(q.1 == k.val) && !(q.1 + 1 == k.val && q.2.category == 2)))) => kk h1 h2 H locs ls' hR hS (lok_set (a := (.ref a, n)) hlo rfl h')
      change W p l e R s m args below meth c H locs (hp.length - n0) (szL hp - s0) Q (F0 m pc ls (conc E (.ref a, n) :: st'.map (conc E)))
      rcases conc_rf E a n with ⟨q, hq⟩ | hq
      · rw [hq] at k2 ⊢
        exact lv_astore_n A.1 A.2.1 hd rfl (lok_has hlo) (Nat.blt_eq.mp hb) rfl k2
      · rw [hq] at k2 ⊢
        exact lv_astore_nN A.1 A.2.1 hd rfl (lok_has hlo) (Nat.blt_eq.mp hb) rfl k2
    · cases hk
  case iinc k n =>
    dsimp only [okK] at hb
    try simp only [Bool.and_eq_true] at hb
    obtain ⟨hlen, hb⟩ := hb
    obtain rfl : len = 3 := Nat.eq_of_beq_eq_true hlen
    dsimp only [kst] at hk
    try simp only [Bool.and_eq_true, decide_eq_true_eq] at hb
    split at hk
    · rename_i a na hn
      cases hk
      refine ⟨⟨Nat.le_refl _, Nat.le_refl _⟩, fun kk _ _ h1 h2 H locs ls hR hS hlo => ?_⟩
      have hv := hb.1
      subst hv
      obtain ⟨j, hj⟩ := lok_iinc hlo hn
      exact lv_iinc A.1 A.2.1 hd (lok_has hlo) hj rfl (Nat.blt_eq.mp hb.2) rfl (fun ls' h' => kk h1 h2 H locs ls' hR hS (lok_set (a := (.int _, 0)) hlo rfl h'))
    · cases hk
  case dup =>
    dsimp only [okK] at hb
    obtain rfl : len = 1 := Nat.eq_of_beq_eq_true hb
    dsimp only [kst] at hk
    split at hk
    · cases hk
      refine ⟨⟨Nat.le_refl _, Nat.le_refl _⟩, fun kk _ _ h1 h2 H locs ls hR hS hlo => ?_⟩
      exact lv_dup A.1 A.2.1 hd (conc_cat E (.ref _, _)) (kk h1 h2 H locs ls hR hS hlo)
    · cases hk
  case goto o =>
    dsimp only [okK] at hb
    try simp only [Bool.and_eq_true] at hb
    obtain ⟨hlen, hb⟩ := hb
    obtain rfl : len = 3 := Nat.eq_of_beq_eq_true hlen
    dsimp only [kst] at hk
    cases hk
    refine ⟨⟨Nat.le_refl _, Nat.le_refl _⟩, fun kk _ _ h1 h2 H locs ls hR hS hlo => ?_⟩
    exact lv_goto A.1 A.2.1 hd (of_decide_eq_true hb) (kk h1 h2 H locs ls hR hS hlo)
  case if_icmp k o =>
    dsimp only [okK] at hb
    try simp only [Bool.and_eq_true] at hb
    obtain ⟨hlen, hb⟩ := hb
    obtain rfl : len = 3 := Nat.eq_of_beq_eq_true hlen
    dsimp only [kst] at hk
    have ht := of_decide_eq_true hb
    split at hk
    · split at hk
      · rename_i hc
        cases hk
        refine ⟨⟨Nat.le_refl _, Nat.le_refl _⟩, fun kk _ _ h1 h2 H locs ls hR hS hlo => ?_⟩
        exact lv_icmp_ge A.1 A.2.1 hd ht (fun _ => kk h1 h2 H locs ls hR hS hlo) (fun q => absurd hc q)
      · rename_i hc
        cases hk
        refine ⟨⟨Nat.le_refl _, Nat.le_refl _⟩, fun kk _ _ h1 h2 H locs ls hR hS hlo => ?_⟩
        exact lv_icmp_ge A.1 A.2.1 hd ht (fun q => absurd q hc) (fun _ => kk h1 h2 H locs ls hR hS hlo)
    · split at hk
      · rename_i hc
        cases hk
        refine ⟨⟨Nat.le_refl _, Nat.le_refl _⟩, fun kk _ _ h1 h2 H locs ls hR hS hlo => ?_⟩
        exact lv_icmp_gt A.1 A.2.1 hd ht (fun _ => kk h1 h2 H locs ls hR hS hlo) (fun q => absurd hc q)
      · rename_i hc
        cases hk
        refine ⟨⟨Nat.le_refl _, Nat.le_refl _⟩, fun kk _ _ h1 h2 H locs ls hR hS hlo => ?_⟩
        exact lv_icmp_gt A.1 A.2.1 hd ht (fun q => absurd q hc) (fun _ => kk h1 h2 H locs ls hR hS hlo)
    · cases hk
  case new n =>
    dsimp only [okK] at hb
    try simp only [Bool.and_eq_true] at hb
    obtain ⟨hlen, hb⟩ := hb
    obtain rfl : len = 3 := Nat.eq_of_beq_eq_true hlen
    dsimp only [kst] at hk
    have hx := Nat.blt_eq.mp hb
    cases hdf : dfB x with
    | false => rw [hdf] at hk; cases hk
    | true =>
      rw [hdf] at hk
      cases hk
      have hlen : (hp ++ [((0, x, 0, dfl x) : CC)]).length = hp.length + 1 := by rw [List.length_append]; rfl
      have hsz : szL (hp ++ [((0, x, 0, dfl x) : CC)]) = szL hp + nf x := by rw [szL_app]; rfl
      refine ⟨⟨by omega, by omega⟩, fun kk hc1 hc2 h1 h2 H locs ls hR hS hlo => ?_⟩
      obtain ⟨w1, w2, w3⟩ := hw
      obtain ⟨e1, e2, e3, e4, e5⟩ := cl_ok x hx
      have hKn := A.2.2.2.2.2.1.1 x _ e1
      refine W.newcK A.1 A.2.1 A.2.2.2.1 (A.2.2.2.2.1 _ w1) (A.2.2.2.2.1 _ w2) (A.2.2.2.2.1 _ w3) rfl hd (by omega) (by omega) hKn.2.1 hR.1 fun H1 kC hkC f1 z1 o1 => ?_
      have hRn : RelC E (hp ++ [(0, x, 0, dfl x)]) H1 := by
        refine relC_push hR (by rw [z1, hR.1]) ⟨_, e1, ?_⟩ (fun q hq => o1 q (by rw [← hR.1]; exact hq))
        refine (u_born (clTy x) A.2.2.2.2.1 e2 hKn hkC f1 e3).to (fun j hj => ?_)
        show _ = vp_V ((dfl x).map (cvc E)) j
        unfold vp_V dfl
        rw [List.getD_eq_getElem?_getD, List.getElem?_map, List.getElem?_map, List.getElem?_range hj]
        exact (dfl_ok hdf hj).symm
      have k2 := kk (by omega) (by omega) H1 locs ls hRn (vS_push hS (by rw [z1, hR.1]; omega) (fun q hq => o1 q (by rw [← hR.1]; exact hq))) hlo
      exact W.cs (by omega) (by omega) k2
  case newarray t =>
    dsimp only [okK] at hb
    try simp only [Bool.and_eq_true] at hb
    obtain ⟨hlen, hb⟩ := hb
    obtain rfl : len = 2 := Nat.eq_of_beq_eq_true hlen
    dsimp only [kst] at hk
    try simp only [Bool.and_eq_true, decide_eq_true_eq] at hb
    have hx := Nat.blt_eq.mp hb.1
    have hty := hb.2
    split at hk
    · rename_i n kn st2
      split at hk
      · rename_i hn
        cases hk
        have hlen : (hp ++ [((1, x, n.toNatClampNeg, []) : CC)]).length = hp.length + 1 := by rw [List.length_append]; rfl
        have hsz : szL (hp ++ [((1, x, n.toNatClampNeg, []) : CC)]) = szL hp + n.toNatClampNeg := by rw [szL_app]; rfl
        refine ⟨⟨by omega, by omega⟩, fun kk hc1 hc2 h1 h2 H locs ls hR hS hlo => ?_⟩
        have hbytes : n.toNatClampNeg * componentBytes (newarray.typeOf t) ≤ 536870912 := by
          have : componentBytes (newarray.typeOf t) ≤ 8 := by cases t <;> decide
          have := Nat.mul_le_mul hn.2 this
          omega
        refine W.newa A.1 A.2.1 (A.2.2.2.2.1 _ hw) rfl hd rfl hn.1 hbytes (by omega) (by omega) fun cA kA comp g1 g2 g3 => ?_
        rw [hty] at g1
        have hcA := ty_p A.2.2.2.2.2.1 hx g1
        subst hcA
        generalize hH1 : H.push ({ cls := eC E x, slots := Array.replicate n.toNatClampNeg (defaultValue (newarray.typeOf t)), vm := .none } : Cell) = H1
        have z1 : H1.size = H.size + 1 := by rw [← hH1, Array.size_push]
        have o1 : ∀ q : Nat, q < H.size → H1[q]? = H[q]? := fun q hq => by rw [← hH1, Array.getElem?_push, if_neg (Nat.ne_of_lt hq)]
        have hRn : RelC E (hp ++ [(1, x, n.toNatClampNeg, [])]) H1 := by
          refine relC_push hR z1 ?_ o1
          have e1 : H1[H.size]? = some (arrV (eC E x) n.toNatClampNeg (fun _ => defaultValue (newarray.typeOf t))) := by rw [← hH1, Array.getElem?_push_size, ← arrV_new]
          rw [hty] at e1
          rw [← hR.1]
          rw [show eltC E (1, x, n.toNatClampNeg, []) = if x = 3 then .inl (eC E x, n.toNatClampNeg, .inr (.inl fun _ => 0)) else .inl (eC E x, n.toNatClampNeg, .inl fun _ => 0) from rfl]
          by_cases h3 : x = 3
          · rw [if_pos h3]
            subst h3
            exact e1
          · rw [if_neg h3]
            match x, hx, h3, e1 with
            | 0, _, _, e1 => exact e1
            | 1, _, _, e1 => exact e1
            | 2, _, _, e1 => exact e1
            | 3, _, h3, _ => exact absurd rfl h3
            | n + 4, hx, _, _ => omega
        have k2 := kk (by omega) (by omega) H1 locs ls hRn (vS_push hS (by omega) o1) hlo
        have k3 := W.cs (cells := hp.length - n0 + 1) (slots := szL hp - s0 + n.toNatClampNeg) (by omega) (by omega) k2
        rw [hR.1]
        exact k3
      · cases hk
    · cases hk
  case anewarray t =>
    dsimp only [okK] at hb
    try simp only [Bool.and_eq_true] at hb
    obtain ⟨hlen, hb⟩ := hb
    obtain rfl : len = 3 := Nat.eq_of_beq_eq_true hlen
    dsimp only [kst] at hk
    try simp only [Bool.and_eq_true] at hb
    have hx1 := Nat.blt_eq.mp hb.1
    have hx2 := Nat.blt_eq.mp hb.2
    obtain ⟨C, hC, w1, w2⟩ := hw
    split at hk
    · rename_i n kn st2
      split at hk
      · rename_i hn
        cases hk
        have hlen : (hp ++ [((2, x, n.toNatClampNeg, []) : CC)]).length = hp.length + 1 := by rw [List.length_append]; rfl
        have hsz : szL (hp ++ [((2, x, n.toNatClampNeg, []) : CC)]) = szL hp + n.toNatClampNeg := by rw [szL_app]; rfl
        refine ⟨⟨by omega, by omega⟩, fun kk hc1 hc2 h1 h2 H locs ls hR hS hlo => ?_⟩
        refine W.anew A.1 A.2.1 A.2.2.2.1 (A.2.2.2.2.1 _ w1) (mna_same rfl (A.2.2.2.2.2.2.1.2.2 _ w2)) rfl hd rfl hn.1 (by omega) (by omega) (by omega) fun cA kA comp g1 g2 g3 g4 => ?_
        have hcA := ty_o A.2.2.2.2.2.1 (by omega) hC g1
        subst hcA
        generalize hH1 : H.push ({ cls := eC E x, slots := Array.replicate n.toNatClampNeg .null, vm := .none } : Cell) = H1
        have z1 : H1.size = H.size + 1 := by rw [← hH1, Array.size_push]
        have o1 : ∀ q : Nat, q < H.size → H1[q]? = H[q]? := fun q hq => by rw [← hH1, Array.getElem?_push, if_neg (Nat.ne_of_lt hq)]
        have hRn : RelC E (hp ++ [(2, x, n.toNatClampNeg, [])]) H1 := by
          refine relC_push hR z1 ?_ o1
          have e1 : H1[H.size]? = some (arrV (eC E x) n.toNatClampNeg (fun _ => .null)) := by rw [← hH1, Array.getElem?_push_size, ← arrV_new]
          rw [← hR.1]
          show H1[H.size]? = some (vp_cell _ _)
          rw [e1, vp_cell_q]
          rfl
        have k2 := kk (by omega) (by omega) H1 locs ls hRn (vS_push hS (by omega) o1) hlo
        have k3 := W.cs (cells := hp.length - n0 + 1) (slots := szL hp - s0 + n.toNatClampNeg) (by omega) (by omega) k2
        rw [hR.1]
        exact k3
      · cases hk
    · cases hk
  case multianewarray t d =>
    dsimp only [okK] at hb
    try simp only [Bool.and_eq_true] at hb
    obtain ⟨hlen, hb⟩ := hb
    obtain rfl : len = 4 := Nat.eq_of_beq_eq_true hlen
    dsimp only [kst] at hk
    try simp only [Bool.and_eq_true] at hb
    obtain rfl := Nat.eq_of_beq_eq_true hb.2
    obtain ⟨w1, w2, w3⟩ := hw
    split at hk
    · rename_i k kk0 n kn st2
      split at hk
      · rename_i hn
        have hE := Option.some.inj hk
        simp only [Prod.mk.injEq] at hE
        obtain ⟨e1, e2, e3, e4⟩ := hE
        subst e1
        subst e2
        subst e3
        obtain rfl := Nat.eq_of_beq_eq_true hb.1
        have hlen : hp'.length = hp.length + 1 + n.toNatClampNeg := by rw [← e4, List.length_append, List.length_cons, List.length_replicate]; omega
        have hsz : szL hp' = szL hp + n.toNatClampNeg + n.toNatClampNeg * k.toNatClampNeg := by rw [← e4, szL_app, szL, szL_rep]; simp only [szC]; omega
        refine ⟨⟨by omega, by omega⟩, fun kk hc1 hc2 h1 h2 H locs ls hR hS hlo => ?_⟩
        refine ka_mna A hR hS w1 w2 w3 hn.1 hn.2 (by omega) (by omega) hd (fun H1 q1 q2 => ?_)
        rw [e4] at q1
        have k2 := kk (by omega) (by omega) H1 locs ls q1 q2 hlo
        exact W.cs (by omega) (by omega) k2
      · cases hk
    · cases hk
  case putfield n =>
    dsimp only [okK] at hb
    try simp only [Bool.and_eq_true] at hb
    obtain ⟨hlen, hb⟩ := hb
    obtain rfl : len = 3 := Nat.eq_of_beq_eq_true hlen
    dsimp only [kst] at hk
    try simp only [Bool.and_eq_true, decide_eq_true_eq] at hb
    obtain ⟨b1, b2, b3, b4⟩ := hb
    have hx := Nat.blt_eq.mp b1
    have hy := Nat.blt_eq.mp b2
    split at hk
    · rename_i w kn a st2
      simp only [cond_eq_ite, Bool.and_eq_true] at hk
      split at hk
      · rename_i hv
        split at hk
        · rename_i ci z vs ha
          split at hk
          · rename_i hc
            cases hk
            obtain rfl := Nat.eq_of_beq_eq_true hv.1
            obtain rfl := Nat.eq_of_beq_eq_true hc.1
            refine ⟨⟨by rw [List.length_set]; exact Nat.le_refl _, by rw [szL_set (x := (0, ci, z, vs.set y w)) (old := (0, ci, z, vs)) rfl ha]; exact Nat.le_refl _⟩, fun kk _ _ h1 h2 H locs ls hR hS hlo => ?_⟩
            have hk1 : (hp.set a (0, ci, z, vs.set y w)).length = hp.length := List.length_set ..
            have hk2 : szL (hp.set a (0, ci, z, vs.set y w)) = szL hp := szL_set (x := (0, ci, z, vs.set y w)) (old := (0, ci, z, vs)) rfl ha
            have hlast : ∀ (H1 : Heap) (locs1 : List Loc), RelC E (hp.set a (0, ci, z, vs.set y w)) H1 → va_S (eA E) s.heap H1 locs1 → W p l e R s m args below meth c H1 locs1 (hp.length - n0) (szL hp - s0) Q (F0 m (pc + 3) ls (st'.map (conc E))) := fun H1 locs1 q1 q2 => W.cs (by rw [hk1]) (by rw [hk2]) (kk (by omega) (by omega) H1 locs1 ls q1 q2 hlo)
            change W p l e R s m args below meth c H locs (hp.length - n0) (szL hp - s0) Q (F0 m pc ls (conc E (w, 0) :: .ref (eBase E + a) :: st'.map (conc E)))
            rw [conc0]
            obtain ⟨e1, e2, e3, e4, e5⟩ := cl_ok ci hx
            obtain ⟨hn, hfit⟩ := okV_n (E := E) hv.2
            exact ka_put A hR hS e1 e2 e3 e4 hy b4 (Nat.blt_eq.mp b3) hw ha (by rw [Nat.blt_eq] at hc; exact hc.2) hn hfit hd hlast
          · cases hk
        · cases hk
      · cases hk
    · cases hk
  case getfield n =>
    dsimp only [okK] at hb
    try simp only [Bool.and_eq_true] at hb
    obtain ⟨hlen, hb⟩ := hb
    obtain rfl : len = 3 := Nat.eq_of_beq_eq_true hlen
    dsimp only [kst] at hk
    try simp only [Bool.and_eq_true] at hb
    have hx := Nat.blt_eq.mp hb.1
    have hy := Nat.blt_eq.mp hb.2
    split at hk
    · rename_i a st2
      split at hk
      · rename_i ci z vs ha
        simp only [cond_eq_ite] at hk
        split at hk
        · rename_i hc
          split at hk
          · rename_i w hvw
            cases hk
            obtain rfl := Nat.eq_of_beq_eq_true hc
            refine ⟨⟨Nat.le_refl _, Nat.le_refl _⟩, fun kk _ _ h1 h2 H locs ls hR hS hlo => ?_⟩
            obtain ⟨e1, e2, e3, e4, e5⟩ := cl_ok ci hx
            have hkk := kk h1 h2 H locs ls hR hS hlo
            change W p l e R s m args below meth c H locs (hp.length - n0) (szL hp - s0) Q (F0 m _ ls (conc E (w, 0) :: st2.map (conc E))) at hkk
            rw [conc0] at hkk
            exact va_get A.1 A.2.1 A.2.2.2.2.1 e2 A.2.2.2.1 A.2.2.2.2.2.1 hR.2 a (wsC_at ha) e1 y hy (A.2.2.2.2.1 _ hw) (fun _ z => z) (by rw [List.getElem?_map, hvw]; rfl) hd hkk
          · cases hk
        · cases hk
      · cases hk
    · cases hk
  case aastore =>
    dsimp only [okK] at hb
    obtain rfl : len = 1 := Nat.eq_of_beq_eq_true hb
    dsimp only [kst] at hk
    split at hk
    · rename_i w j kj a st2
      split at hk
      · rename_i t n vs ha
        split at hk
        · rename_i ci z ws hw2
          split at hk
          · rename_i hc
            cases hk
            refine ⟨⟨by rw [List.length_set]; exact Nat.le_refl _, by rw [szL_set (x := (2, t, n, (List.range n).map fun i => if i = j.toNatClampNeg then Value.ref w else vs.getD i .null)) (old := (2, t, n, vs)) rfl ha]; exact Nat.le_refl _⟩, fun kk _ _ h1 h2 H locs ls hR hS hlo => ?_⟩
            have hk1 := List.length_set (as := hp) (i := a) (a := ((2, t, n, (List.range n).map fun i => if i = j.toNatClampNeg then Value.ref w else vs.getD i .null) : CC))
            have hk2 : szL (hp.set a (2, t, n, (List.range n).map fun i => if i = j.toNatClampNeg then Value.ref w else vs.getD i .null)) = szL hp := szL_set (x := (2, t, n, (List.range n).map fun i => if i = j.toNatClampNeg then Value.ref w else vs.getD i .null)) (old := (2, t, n, vs)) rfl ha
            have hlast : ∀ (H1 : Heap) (locs1 : List Loc), RelC E (hp.set a (2, t, n, (List.range n).map fun i => if i = j.toNatClampNeg then Value.ref w else vs.getD i .null)) H1 → va_S (eA E) s.heap H1 locs1 → W p l e R s m args below meth c H1 locs1 (hp.length - n0) (szL hp - s0) Q (F0 m (pc + 1) ls (st'.map (conc E))) := fun H1 locs1 q1 q2 => W.cs (by rw [hk1]) (by rw [hk2]) (kk (by omega) (by omega) H1 locs1 ls q1 q2 hlo)
            exact ka_ast A hR hS ha hw2 hc.1 hc.2 hd hlast
          · cases hk
        · cases hk
      · cases hk
    · cases hk
  all_goals cases hk
end KS
