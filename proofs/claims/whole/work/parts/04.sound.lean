/-! SOUNDNESS, 2: the machine goes as stepP says -/
def WG (E : EnvT) (mi : Nat) (p : Program) (l : Launch) (e : Env) (R : Room) (s : State) (m : MethodId) (args : Array Value) (below : List Frame) (meth : Method) (c : Code) (cells slots : Nat) (Q : State → Prop) : GT := fun pc lv st σ =>
  wkS st → wkL lv → ∀ (H : Heap) (locs : List Loc) (ls : Array Slot), Rel E σ H → va_S (eA E) s.heap H locs → lok E ls (mML mi) lv → W p l e R s m args below meth c H locs cells slots Q (F0 m pc ls (st.map (conc E)))
def mOw (i : Nat) : String := (mNm i).cls
/-- what is fixed in a frame -/
def Act (E : EnvT) (mi h : Nat) (p : Program) (R : Room) (s : State) (m : MethodId) (args : Array Value) (c : Code) (cells slots : Nat) : Prop :=
  p.tables.exec = Jvm.exec ∧ c.code = mCd mi ∧ c.maxLocals = mML mi ∧ s.vm.findClass (mOw mi) = some m.cls ∧ (∀ w ∈ ALLg, w.before args s = true) ∧ va_K (eD E) vwCl (tysL E) s ∧ EnvOK E s s.heap ∧ h ≤ R.frames ∧ 40 * h ≤ R.locals ∧ cells ≤ R.cells ∧ slots ≤ R.slots
section SND
variable {p : Program} {l : Launch} {e : Env} {R : Room} {s : State} {m : MethodId} {args : Array Value} {below : List Frame} {meth : Method} {c : Code} {cells slots : Nat} {Q : State → Prop}
variable {E : EnvT} {mi h pc : Nat} {lv : LVs} {st : List AV} {σ : Mem}

theorem ws_iload (A : Act E mi h p R s m args c cells slots) {i : Nat} {x : Int32} {n : Nat} (hd : decode (mCd mi) pc = .ok (.iload i, 2)) (hn : nth lv i = some (.int x, n)) (k : WG E mi p l e R s m args below meth c cells slots Q (pc + 2) lv ((.int x, n) :: st) σ) : WG E mi p l e R s m args below meth c cells slots Q pc lv st σ := by
  intro hs hl H locs ls hR hS hlo
  exact lv_iload A.1 A.2.1 hd (hlo.2.2.2 _ _ hn) (k (wkS_i hs) hl H locs ls hR hS hlo)
theorem ws_iload_n (A : Act E mi h p R s m args c cells slots) {i : Fin 4} {x : Int32} {n : Nat} (hd : decode (mCd mi) pc = .ok (.iload_n i, 1)) (hn : nth lv i.val = some (.int x, n)) (k : WG E mi p l e R s m args below meth c cells slots Q (pc + 1) lv ((.int x, n) :: st) σ) : WG E mi p l e R s m args below meth c cells slots Q pc lv st σ := by
  intro hs hl H locs ls hR hS hlo
  exact lv_iload_n A.1 A.2.1 hd rfl (hlo.2.2.2 _ _ hn) (k (wkS_i hs) hl H locs ls hR hS hlo)
theorem ws_lload (A : Act E mi h p R s m args c cells slots) {i : Nat} {x : Int64} {n : Nat} (hd : decode (mCd mi) pc = .ok (.lload i, 2)) (hn : nth lv i = some (.long x, n)) (k : WG E mi p l e R s m args below meth c cells slots Q (pc + 2) lv ((.long x, n) :: st) σ) : WG E mi p l e R s m args below meth c cells slots Q pc lv st σ := by
  intro hs hl H locs ls hR hS hlo
  exact lv_lload A.1 A.2.1 hd (hlo.2.2.2 _ _ hn) (k (wkS_l hs) hl H locs ls hR hS hlo)
theorem ws_lload_n (A : Act E mi h p R s m args c cells slots) {i : Fin 4} {x : Int64} {n : Nat} (hd : decode (mCd mi) pc = .ok (.lload_n i, 1)) (hn : nth lv i.val = some (.long x, n)) (k : WG E mi p l e R s m args below meth c cells slots Q (pc + 1) lv ((.long x, n) :: st) σ) : WG E mi p l e R s m args below meth c cells slots Q pc lv st σ := by
  intro hs hl H locs ls hR hS hlo
  exact lv_lload_n A.1 A.2.1 hd rfl (hlo.2.2.2 _ _ hn) (k (wkS_l hs) hl H locs ls hR hS hlo)
theorem conc_rf (E : EnvT) (a n : Nat) : (∃ q, conc E (.ref a, n) = .ref q) ∨ conc E (.ref a, n) = .null := by
  unfold conc
  dsimp only
  split
  · exact Or.inl ⟨_, rfl⟩
  · split
    · exact Or.inl ⟨_, rfl⟩
    · split
      · exact Or.inr rfl
      · exact Or.inl ⟨_, rfl⟩
theorem ws_aload (A : Act E mi h p R s m args c cells slots) {i : Nat} {x n : Nat} (hd : decode (mCd mi) pc = .ok (.aload i, 2)) (hn : nth lv i = some (.ref x, n)) (k : WG E mi p l e R s m args below meth c cells slots Q (pc + 2) lv ((.ref x, n) :: st) σ) : WG E mi p l e R s m args below meth c cells slots Q pc lv st σ := by
  intro hs hl H locs ls hR hS hlo
  have hk := k (wkS_cons (wkL_nth hl hn) hs) hl H locs ls hR hS hlo
  have hx := hlo.2.2.2 _ _ hn
  change W p l e R s m args below meth c H locs cells slots Q (F0 m _ ls (conc E (.ref x, n) :: st.map (conc E))) at hk
  rcases conc_rf E x n with ⟨q, hq⟩ | hq
  · rw [hq] at hk hx
    exact lv_aload A.1 A.2.1 hd hx hk
  · rw [hq] at hk hx
    exact lv_aloadN A.1 A.2.1 hd hx hk
theorem ws_aload_n (A : Act E mi h p R s m args c cells slots) {i : Fin 4} {x n : Nat} (hd : decode (mCd mi) pc = .ok (.aload_n i, 1)) (hn : nth lv i.val = some (.ref x, n)) (k : WG E mi p l e R s m args below meth c cells slots Q (pc + 1) lv ((.ref x, n) :: st) σ) : WG E mi p l e R s m args below meth c cells slots Q pc lv st σ := by
  intro hs hl H locs ls hR hS hlo
  have hk := k (wkS_cons (wkL_nth hl hn) hs) hl H locs ls hR hS hlo
  have hx := hlo.2.2.2 _ _ hn
  change W p l e R s m args below meth c H locs cells slots Q (F0 m _ ls (conc E (.ref x, n) :: st.map (conc E))) at hk
  rcases conc_rf E x n with ⟨q, hq⟩ | hq
  · rw [hq] at hk hx
    exact lv_aload_n A.1 A.2.1 hd rfl hx hk
  · rw [hq] at hk hx
    exact lv_aload_nN A.1 A.2.1 hd rfl hx hk
theorem ws_iconst (A : Act E mi h p R s m args c cells slots) {n : Int} {v : Int32} (hd : decode (mCd mi) pc = .ok (.iconst n, 1)) (hv : Int32.ofInt n = v) (k : WG E mi p l e R s m args below meth c cells slots Q (pc + 1) lv ((.int v, 0) :: st) σ) : WG E mi p l e R s m args below meth c cells slots Q pc lv st σ := by
  intro hs hl H locs ls hR hS hlo
  exact lv_iconst A.1 A.2.1 hd hv (k (wkS_i hs) hl H locs ls hR hS hlo)
theorem ws_bipush (A : Act E mi h p R s m args c cells slots) {n : Int} {v : Int32} (hd : decode (mCd mi) pc = .ok (.bipush n, 2)) (hv : (Int8.ofInt n).toInt32 = v) (k : WG E mi p l e R s m args below meth c cells slots Q (pc + 2) lv ((.int v, 0) :: st) σ) : WG E mi p l e R s m args below meth c cells slots Q pc lv st σ := by
  intro hs hl H locs ls hR hS hlo
  exact lv_bipush A.1 A.2.1 hd hv (k (wkS_i hs) hl H locs ls hR hS hlo)
theorem ws_sipush (A : Act E mi h p R s m args c cells slots) {n : Int} {v : Int32} (hd : decode (mCd mi) pc = .ok (.sipush n, 3)) (hv : (Int16.ofInt n).toInt32 = v) (k : WG E mi p l e R s m args below meth c cells slots Q (pc + 3) lv ((.int v, 0) :: st) σ) : WG E mi p l e R s m args below meth c cells slots Q pc lv st σ := by
  intro hs hl H locs ls hR hS hlo
  exact lv_sipush A.1 A.2.1 hd hv (k (wkS_i hs) hl H locs ls hR hS hlo)
theorem ws_lconst (A : Act E mi h p R s m args c cells slots) {n : Fin 2} {w : Int64} (hd : decode (mCd mi) pc = .ok (.lconst n, 1)) (hv : Int64.ofNat (n : Nat) = w) (k : WG E mi p l e R s m args below meth c cells slots Q (pc + 1) lv ((.long w, 0) :: st) σ) : WG E mi p l e R s m args below meth c cells slots Q pc lv st σ := by
  intro hs hl H locs ls hR hS hlo
  exact lv_lconst A.1 A.2.1 hd hv (k (wkS_l hs) hl H locs ls hR hS hlo)
theorem ws_ldc (A : Act E mi h p R s m args c cells slots) {n : Nat} {v : Int32} (hd : decode (mCd mi) pc = .ok (.ldc n, 2)) (hv : Cond.constant (mOw mi) n v ∈ ALLg) (k : WG E mi p l e R s m args below meth c cells slots Q (pc + 2) lv ((.int v, 0) :: st) σ) : WG E mi p l e R s m args below meth c cells slots Q pc lv st σ := by
  intro hs hl H locs ls hR hS hlo
  exact lv_ldc A.1 A.2.1 A.2.2.2.1 (A.2.2.2.2.1 _ hv) hd (k (wkS_i hs) hl H locs ls hR hS hlo)
theorem ws_ldc_w (A : Act E mi h p R s m args c cells slots) {n : Nat} {v : Int32} (hd : decode (mCd mi) pc = .ok (.ldc_w n, 3)) (hv : Cond.constant (mOw mi) n v ∈ ALLg) (k : WG E mi p l e R s m args below meth c cells slots Q (pc + 3) lv ((.int v, 0) :: st) σ) : WG E mi p l e R s m args below meth c cells slots Q pc lv st σ := by
  intro hs hl H locs ls hR hS hlo
  exact lv_ldcw A.1 A.2.1 A.2.2.2.1 (A.2.2.2.2.1 _ hv) hd (k (wkS_i hs) hl H locs ls hR hS hlo)
theorem ws_ldc2 (A : Act E mi h p R s m args c cells slots) {n : Nat} {w : Int64} (hd : decode (mCd mi) pc = .ok (.ldc2_w n, 3)) (hv : Cond.constantLong (mOw mi) n w ∈ ALLg) (k : WG E mi p l e R s m args below meth c cells slots Q (pc + 3) lv ((.long w, 0) :: st) σ) : WG E mi p l e R s m args below meth c cells slots Q pc lv st σ := by
  intro hs hl H locs ls hR hS hlo
  exact lv_ldc2 A.1 A.2.1 A.2.2.2.1 (A.2.2.2.2.1 _ hv) hd (k (wkS_l hs) hl H locs ls hR hS hlo)
theorem ws_ldcS (A : Act E mi h p R s m args c cells slots) {n x : Nat} (hd : decode (mCd mi) pc = .ok (.ldc n, 2)) (hx : x < 7) (ho : mOw mi = sOwn x) (hi : n = sIdx x) (k : WG E mi p l e R s m args below meth c cells slots Q (pc + 2) lv ((.ref x, 61) :: st) σ) : WG E mi p l e R s m args below meth c cells slots Q pc lv st σ := by
  intro hs hl H locs ls hR hS hlo
  subst hi
  have hZ := A.2.2.2.2.2.2.1.2.2.2.2.2.1 x hx
  have hown := A.2.2.2.1
  rw [ho] at hown
  exact va_ldcS A.1 A.2.1 hown hZ hd (k (wkS_cons (Or.inr (Or.inl ⟨rfl, hx⟩)) hs) hl H locs ls hR hS hlo)
theorem ws_null (A : Act E mi h p R s m args c cells slots) (hd : decode (mCd mi) pc = .ok (.aconst_null, 1)) (k : WG E mi p l e R s m args below meth c cells slots Q (pc + 1) lv ((.ref 0, 50) :: st) σ) : WG E mi p l e R s m args below meth c cells slots Q pc lv st σ := by
  intro hs hl H locs ls hR hS hlo
  exact lv_null A.1 A.2.1 hd (k (wkS_cons (Or.inr (Or.inr (Or.inl ⟨rfl, Or.inl rfl⟩))) hs) hl H locs ls hR hS hlo)
theorem ws_istore (A : Act E mi h p R s m args c cells slots) {i : Nat} {x : Int32} {n : Nat} (hd : decode (mCd mi) pc = .ok (.istore i, 2)) (hi : i < mML mi) (k : WG E mi p l e R s m args below meth c cells slots Q (pc + 2) (lset lv i (.int x, 0)) st σ) : WG E mi p l e R s m args below meth c cells slots Q pc lv ((.int x, n) :: st) σ := by
  intro hs hl H locs ls hR hS hlo
  exact lv_istore A.1 A.2.1 hd (lok_has hlo) hi rfl (fun ls' h' => k (wkS_tl hs) (wkL_set (a := (.int x, 0)) trivial hl) H locs ls' hR hS (lok_set (a := (.int x, 0)) hlo rfl h'))
theorem ws_istore_n (A : Act E mi h p R s m args c cells slots) {i : Fin 4} {x : Int32} {n : Nat} (hd : decode (mCd mi) pc = .ok (.istore_n i, 1)) (hi : i.val < mML mi) (k : WG E mi p l e R s m args below meth c cells slots Q (pc + 1) (lset lv i.val (.int x, 0)) st σ) : WG E mi p l e R s m args below meth c cells slots Q pc lv ((.int x, n) :: st) σ := by
  intro hs hl H locs ls hR hS hlo
  exact lv_istore_n A.1 A.2.1 hd rfl (lok_has hlo) hi rfl (fun ls' h' => k (wkS_tl hs) (wkL_set (a := (.int x, 0)) trivial hl) H locs ls' hR hS (lok_set (a := (.int x, 0)) hlo rfl h'))
theorem ws_lstore (A : Act E mi h p R s m args c cells slots) {i : Nat} {x : Int64} {n : Nat} (hd : decode (mCd mi) pc = .ok (.lstore i, 2)) (hi : i + 1 < mML mi) (k : WG E mi p l e R s m args below meth c cells slots Q (pc + 2) (lnone (lset lv i (.long x, 0)) (i + 1)) st σ) : WG E mi p l e R s m args below meth c cells slots Q pc lv ((.long x, n) :: st) σ := by
  intro hs hl H locs ls hR hS hlo
  exact lv_lstore A.1 A.2.1 hd (lok_has hlo) hi rfl (fun ls' h' => k (wkS_tl hs) (wkL_none (wkL_set (a := (.long x, 0)) trivial hl)) H locs ls' hR hS (lok_set2 (a := (.long x, 0)) hlo rfl h'))
theorem ws_lstore_n (A : Act E mi h p R s m args c cells slots) {i : Fin 4} {x : Int64} {n : Nat} (hd : decode (mCd mi) pc = .ok (.lstore_n i, 1)) (hi : i.val + 1 < mML mi) (k : WG E mi p l e R s m args below meth c cells slots Q (pc + 1) (lnone (lset lv i.val (.long x, 0)) (i.val + 1)) st σ) : WG E mi p l e R s m args below meth c cells slots Q pc lv ((.long x, n) :: st) σ := by
  intro hs hl H locs ls hR hS hlo
  exact lv_lstore_n A.1 A.2.1 hd rfl (lok_has hlo) hi rfl (fun ls' h' => k (wkS_tl hs) (wkL_none (wkL_set (a := (.long x, 0)) trivial hl)) H locs ls' hR hS (lok_set2 (a := (.long x, 0)) hlo rfl h'))
theorem ws_astore (A : Act E mi h p R s m args c cells slots) {i : Nat} {x n : Nat} (hd : decode (mCd mi) pc = .ok (.astore i, 2)) (hi : i < mML mi) (k : WG E mi p l e R s m args below meth c cells slots Q (pc + 2) (lset lv i (.ref x, n)) st σ) : WG E mi p l e R s m args below meth c cells slots Q pc lv ((.ref x, n) :: st) σ := by
  intro hs hl H locs ls hR hS hlo
  have hw := wkL_set (k := i) (wkS_hd hs) hl
  have kk := fun (ls' : Array Slot) (h' : lv_has ls' (mML mi) ((i, conc E (.ref x, n)) :: (flat E 0 lv).filter (fun q => !(q.1 == i) && !(q.1 + 1 == i && q.2.category == 2)))) => k (wkS_tl hs) hw H locs ls' hR hS (lok_set (a := (.ref x, n)) hlo rfl h')
  change W p l e R s m args below meth c H locs cells slots Q (F0 m pc ls (conc E (.ref x, n) :: st.map (conc E)))
  rcases conc_rf E x n with ⟨q, hq⟩ | hq
  · rw [hq] at kk ⊢
    exact lv_astore A.1 A.2.1 hd (lok_has hlo) hi rfl kk
  · rw [hq] at kk ⊢
    exact lv_astoreN A.1 A.2.1 hd (lok_has hlo) hi rfl kk
theorem ws_astore_n (A : Act E mi h p R s m args c cells slots) {i : Fin 4} {x n : Nat} (hd : decode (mCd mi) pc = .ok (.astore_n i, 1)) (hi : i.val < mML mi) (k : WG E mi p l e R s m args below meth c cells slots Q (pc + 1) (lset lv i.val (.ref x, n)) st σ) : WG E mi p l e R s m args below meth c cells slots Q pc lv ((.ref x, n) :: st) σ := by
  intro hs hl H locs ls hR hS hlo
  have hw := wkL_set (k := i.val) (wkS_hd hs) hl
  have kk := fun (ls' : Array Slot) (h' : lv_has ls' (mML mi) ((i.val, conc E (.ref x, n)) :: (flat E 0 lv).filter (fun q => !(q.1 == i.val) && !(q.1 + 1 == i.val && q.2.category == 2)))) => k (wkS_tl hs) hw H locs ls' hR hS (lok_set (a := (.ref x, n)) hlo rfl h')
  change W p l e R s m args below meth c H locs cells slots Q (F0 m pc ls (conc E (.ref x, n) :: st.map (conc E)))
  rcases conc_rf E x n with ⟨q, hq⟩ | hq
  · rw [hq] at kk ⊢
    exact lv_astore_n A.1 A.2.1 hd rfl (lok_has hlo) hi rfl kk
  · rw [hq] at kk ⊢
    exact lv_astore_nN A.1 A.2.1 hd rfl (lok_has hlo) hi rfl kk
theorem ws_iinc (A : Act E mi h p R s m args c cells slots) {i n : Nat} {z : Int} {x v : Int32} (hd : decode (mCd mi) pc = .ok (.iinc i z, 3)) (hn : nth lv i = some (.int x, n)) (hv : Int32.ofInt z = v) (hi : i < mML mi) (k : WG E mi p l e R s m args below meth c cells slots Q (pc + 3) (lset lv i (.int (x + v), 0)) st σ) : WG E mi p l e R s m args below meth c cells slots Q pc lv st σ := by
  intro hs hl H locs ls hR hS hlo
  subst hv
  obtain ⟨j, hj⟩ := lok_iinc hlo hn
  exact lv_iinc A.1 A.2.1 hd (lok_has hlo) hj rfl hi rfl (fun ls' h' => k hs (wkL_set (a := (.int _, 0)) trivial hl) H locs ls' hR hS (lok_set (a := (.int (x + Int32.ofInt z), 0)) hlo rfl h'))
theorem ws_iadd (A : Act E mi h p R s m args c cells slots) {x y : Int32} {i j : Nat} (hd : decode (mCd mi) pc = .ok (.iadd, 1)) (k : WG E mi p l e R s m args below meth c cells slots Q (pc + 1) lv ((.int (x + y), 0) :: st) σ) : WG E mi p l e R s m args below meth c cells slots Q pc lv ((.int y, j) :: (.int x, i) :: st) σ := by
  intro hs hl H locs ls hR hS hlo
  exact lv_iadd A.1 A.2.1 hd (k (wkS_i (wkS_tl (wkS_tl hs))) hl H locs ls hR hS hlo)
theorem ws_isub (A : Act E mi h p R s m args c cells slots) {x y : Int32} {i j : Nat} (hd : decode (mCd mi) pc = .ok (.isub, 1)) (k : WG E mi p l e R s m args below meth c cells slots Q (pc + 1) lv ((.int (x - y), 0) :: st) σ) : WG E mi p l e R s m args below meth c cells slots Q pc lv ((.int y, j) :: (.int x, i) :: st) σ := by
  intro hs hl H locs ls hR hS hlo
  exact lv_isub A.1 A.2.1 hd (k (wkS_i (wkS_tl (wkS_tl hs))) hl H locs ls hR hS hlo)
theorem ws_imul (A : Act E mi h p R s m args c cells slots) {x y : Int32} {i j : Nat} (hd : decode (mCd mi) pc = .ok (.imul, 1)) (k : WG E mi p l e R s m args below meth c cells slots Q (pc + 1) lv ((.int (x * y), 0) :: st) σ) : WG E mi p l e R s m args below meth c cells slots Q pc lv ((.int y, j) :: (.int x, i) :: st) σ := by
  intro hs hl H locs ls hR hS hlo
  exact lv_imul A.1 A.2.1 hd (k (wkS_i (wkS_tl (wkS_tl hs))) hl H locs ls hR hS hlo)
theorem ws_iand (A : Act E mi h p R s m args c cells slots) {x y : Int32} {i j : Nat} (hd : decode (mCd mi) pc = .ok (.iand, 1)) (k : WG E mi p l e R s m args below meth c cells slots Q (pc + 1) lv ((.int (x &&& y), 0) :: st) σ) : WG E mi p l e R s m args below meth c cells slots Q pc lv ((.int y, j) :: (.int x, i) :: st) σ := by
  intro hs hl H locs ls hR hS hlo
  exact lv_iand A.1 A.2.1 hd (k (wkS_i (wkS_tl (wkS_tl hs))) hl H locs ls hR hS hlo)
theorem ws_ior (A : Act E mi h p R s m args c cells slots) {x y : Int32} {i j : Nat} (hd : decode (mCd mi) pc = .ok (.ior, 1)) (k : WG E mi p l e R s m args below meth c cells slots Q (pc + 1) lv ((.int (x ||| y), 0) :: st) σ) : WG E mi p l e R s m args below meth c cells slots Q pc lv ((.int y, j) :: (.int x, i) :: st) σ := by
  intro hs hl H locs ls hR hS hlo
  exact lv_ior A.1 A.2.1 hd (k (wkS_i (wkS_tl (wkS_tl hs))) hl H locs ls hR hS hlo)
theorem ws_ixor (A : Act E mi h p R s m args c cells slots) {x y : Int32} {i j : Nat} (hd : decode (mCd mi) pc = .ok (.ixor, 1)) (k : WG E mi p l e R s m args below meth c cells slots Q (pc + 1) lv ((.int (x ^^^ y), 0) :: st) σ) : WG E mi p l e R s m args below meth c cells slots Q pc lv ((.int y, j) :: (.int x, i) :: st) σ := by
  intro hs hl H locs ls hR hS hlo
  exact lv_ixor A.1 A.2.1 hd (k (wkS_i (wkS_tl (wkS_tl hs))) hl H locs ls hR hS hlo)
theorem ws_ishl (A : Act E mi h p R s m args c cells slots) {x y : Int32} {i j : Nat} (hd : decode (mCd mi) pc = .ok (.ishl, 1)) (k : WG E mi p l e R s m args below meth c cells slots Q (pc + 1) lv ((.int (x <<< (y &&& 31)), 0) :: st) σ) : WG E mi p l e R s m args below meth c cells slots Q pc lv ((.int y, j) :: (.int x, i) :: st) σ := by
  intro hs hl H locs ls hR hS hlo
  exact lv_ishl A.1 A.2.1 hd (k (wkS_i (wkS_tl (wkS_tl hs))) hl H locs ls hR hS hlo)
theorem ws_ishr (A : Act E mi h p R s m args c cells slots) {x y : Int32} {i j : Nat} (hd : decode (mCd mi) pc = .ok (.ishr, 1)) (k : WG E mi p l e R s m args below meth c cells slots Q (pc + 1) lv ((.int (x >>> (y &&& 31)), 0) :: st) σ) : WG E mi p l e R s m args below meth c cells slots Q pc lv ((.int y, j) :: (.int x, i) :: st) σ := by
  intro hs hl H locs ls hR hS hlo
  exact lv_ishr A.1 A.2.1 hd (k (wkS_i (wkS_tl (wkS_tl hs))) hl H locs ls hR hS hlo)
theorem ws_iushr (A : Act E mi h p R s m args c cells slots) {x y : Int32} {i j : Nat} (hd : decode (mCd mi) pc = .ok (.iushr, 1)) (k : WG E mi p l e R s m args below meth c cells slots Q (pc + 1) lv ((.int (usI x y), 0) :: st) σ) : WG E mi p l e R s m args below meth c cells slots Q pc lv ((.int y, j) :: (.int x, i) :: st) σ := by
  intro hs hl H locs ls hR hS hlo
  exact lv_iushr A.1 A.2.1 hd rfl (k (wkS_i (wkS_tl (wkS_tl hs))) hl H locs ls hR hS hlo)
theorem ws_idiv (A : Act E mi h p R s m args c cells slots) {x y : Int32} {i j : Nat} (hd : decode (mCd mi) pc = .ok (.idiv, 1)) (hy : ¬ y = 0) (k : WG E mi p l e R s m args below meth c cells slots Q (pc + 1) lv ((.int (x / y), 0) :: st) σ) : WG E mi p l e R s m args below meth c cells slots Q pc lv ((.int y, j) :: (.int x, i) :: st) σ := by
  intro hs hl H locs ls hR hS hlo
  exact lv_idiv A.1 A.2.1 hd hy (k (wkS_i (wkS_tl (wkS_tl hs))) hl H locs ls hR hS hlo)
theorem ws_irem (A : Act E mi h p R s m args c cells slots) {x y : Int32} {i j : Nat} (hd : decode (mCd mi) pc = .ok (.irem, 1)) (hy : ¬ y = 0) (k : WG E mi p l e R s m args below meth c cells slots Q (pc + 1) lv ((.int (remI x y), 0) :: st) σ) : WG E mi p l e R s m args below meth c cells slots Q pc lv ((.int y, j) :: (.int x, i) :: st) σ := by
  intro hs hl H locs ls hR hS hlo
  exact lv_irem A.1 A.2.1 hd hy (k (wkS_i (wkS_tl (wkS_tl hs))) hl H locs ls hR hS hlo)
theorem ws_ladd (A : Act E mi h p R s m args c cells slots) {x y : Int64} {i j : Nat} (hd : decode (mCd mi) pc = .ok (.ladd, 1)) (k : WG E mi p l e R s m args below meth c cells slots Q (pc + 1) lv ((.long (x + y), 0) :: st) σ) : WG E mi p l e R s m args below meth c cells slots Q pc lv ((.long y, j) :: (.long x, i) :: st) σ := by
  intro hs hl H locs ls hR hS hlo
  exact lv_ladd A.1 A.2.1 hd (k (wkS_l (wkS_tl (wkS_tl hs))) hl H locs ls hR hS hlo)
theorem ws_lsub (A : Act E mi h p R s m args c cells slots) {x y : Int64} {i j : Nat} (hd : decode (mCd mi) pc = .ok (.lsub, 1)) (k : WG E mi p l e R s m args below meth c cells slots Q (pc + 1) lv ((.long (x - y), 0) :: st) σ) : WG E mi p l e R s m args below meth c cells slots Q pc lv ((.long y, j) :: (.long x, i) :: st) σ := by
  intro hs hl H locs ls hR hS hlo
  exact lv_lsub A.1 A.2.1 hd (k (wkS_l (wkS_tl (wkS_tl hs))) hl H locs ls hR hS hlo)
theorem ws_lmul (A : Act E mi h p R s m args c cells slots) {x y : Int64} {i j : Nat} (hd : decode (mCd mi) pc = .ok (.lmul, 1)) (k : WG E mi p l e R s m args below meth c cells slots Q (pc + 1) lv ((.long (x * y), 0) :: st) σ) : WG E mi p l e R s m args below meth c cells slots Q pc lv ((.long y, j) :: (.long x, i) :: st) σ := by
  intro hs hl H locs ls hR hS hlo
  exact lv_lmul A.1 A.2.1 hd (k (wkS_l (wkS_tl (wkS_tl hs))) hl H locs ls hR hS hlo)
theorem ws_land (A : Act E mi h p R s m args c cells slots) {x y : Int64} {i j : Nat} (hd : decode (mCd mi) pc = .ok (.land, 1)) (k : WG E mi p l e R s m args below meth c cells slots Q (pc + 1) lv ((.long (x &&& y), 0) :: st) σ) : WG E mi p l e R s m args below meth c cells slots Q pc lv ((.long y, j) :: (.long x, i) :: st) σ := by
  intro hs hl H locs ls hR hS hlo
  exact lv_land A.1 A.2.1 hd (k (wkS_l (wkS_tl (wkS_tl hs))) hl H locs ls hR hS hlo)
theorem ws_lor (A : Act E mi h p R s m args c cells slots) {x y : Int64} {i j : Nat} (hd : decode (mCd mi) pc = .ok (.lor, 1)) (k : WG E mi p l e R s m args below meth c cells slots Q (pc + 1) lv ((.long (x ||| y), 0) :: st) σ) : WG E mi p l e R s m args below meth c cells slots Q pc lv ((.long y, j) :: (.long x, i) :: st) σ := by
  intro hs hl H locs ls hR hS hlo
  exact lv_lor A.1 A.2.1 hd (k (wkS_l (wkS_tl (wkS_tl hs))) hl H locs ls hR hS hlo)
theorem ws_ldiv (A : Act E mi h p R s m args c cells slots) {x y : Int64} {i j : Nat} (hd : decode (mCd mi) pc = .ok (.ldiv, 1)) (hy : ¬ y = 0) (k : WG E mi p l e R s m args below meth c cells slots Q (pc + 1) lv ((.long (x / y), 0) :: st) σ) : WG E mi p l e R s m args below meth c cells slots Q pc lv ((.long y, j) :: (.long x, i) :: st) σ := by
  intro hs hl H locs ls hR hS hlo
  exact lv_ldiv A.1 A.2.1 hd hy (k (wkS_l (wkS_tl (wkS_tl hs))) hl H locs ls hR hS hlo)
theorem ws_lrem (A : Act E mi h p R s m args c cells slots) {x y : Int64} {i j : Nat} (hd : decode (mCd mi) pc = .ok (.lrem, 1)) (hy : ¬ y = 0) (k : WG E mi p l e R s m args below meth c cells slots Q (pc + 1) lv ((.long (remL x y), 0) :: st) σ) : WG E mi p l e R s m args below meth c cells slots Q pc lv ((.long y, j) :: (.long x, i) :: st) σ := by
  intro hs hl H locs ls hR hS hlo
  exact lv_lrem A.1 A.2.1 hd hy (k (wkS_l (wkS_tl (wkS_tl hs))) hl H locs ls hR hS hlo)
theorem ws_lshl (A : Act E mi h p R s m args c cells slots) {x : Int64} {y : Int32} {i j : Nat} (hd : decode (mCd mi) pc = .ok (.lshl, 1)) (k : WG E mi p l e R s m args below meth c cells slots Q (pc + 1) lv ((.long (x <<< (y.toInt64 &&& 63)), 0) :: st) σ) : WG E mi p l e R s m args below meth c cells slots Q pc lv ((.int y, j) :: (.long x, i) :: st) σ := by
  intro hs hl H locs ls hR hS hlo
  exact lv_lshl A.1 A.2.1 hd rfl (k (wkS_l (wkS_tl (wkS_tl hs))) hl H locs ls hR hS hlo)
theorem ws_lcmp (A : Act E mi h p R s m args c cells slots) {x y : Int64} {i j : Nat} (hd : decode (mCd mi) pc = .ok (.lcmp, 1)) (k : WG E mi p l e R s m args below meth c cells slots Q (pc + 1) lv ((.int (lg_cmp x y), 0) :: st) σ) : WG E mi p l e R s m args below meth c cells slots Q pc lv ((.long y, j) :: (.long x, i) :: st) σ := by
  intro hs hl H locs ls hR hS hlo
  exact W.lcmp A.1 A.2.1 hd (k (wkS_i (wkS_tl (wkS_tl hs))) hl H locs ls hR hS hlo)
theorem ws_i2l (A : Act E mi h p R s m args c cells slots) {x : Int32} {i : Nat} (hd : decode (mCd mi) pc = .ok (.i2l, 1)) (k : WG E mi p l e R s m args below meth c cells slots Q (pc + 1) lv ((.long x.toInt64, 0) :: st) σ) : WG E mi p l e R s m args below meth c cells slots Q pc lv ((.int x, i) :: st) σ := by
  intro hs hl H locs ls hR hS hlo
  exact lv_i2l A.1 A.2.1 hd rfl (k (wkS_l (wkS_tl hs)) hl H locs ls hR hS hlo)
theorem ws_i2b (A : Act E mi h p R s m args c cells slots) {x : Int32} {i : Nat} (hd : decode (mCd mi) pc = .ok (.i2b, 1)) (k : WG E mi p l e R s m args below meth c cells slots Q (pc + 1) lv ((.int x.toInt8.toInt32, 0) :: st) σ) : WG E mi p l e R s m args below meth c cells slots Q pc lv ((.int x, i) :: st) σ := by
  intro hs hl H locs ls hR hS hlo
  exact lv_i2b A.1 A.2.1 hd rfl (k (wkS_i (wkS_tl hs)) hl H locs ls hR hS hlo)
theorem ws_l2i (A : Act E mi h p R s m args c cells slots) {x : Int64} {i : Nat} (hd : decode (mCd mi) pc = .ok (.l2i, 1)) (k : WG E mi p l e R s m args below meth c cells slots Q (pc + 1) lv ((.int x.toInt32, 0) :: st) σ) : WG E mi p l e R s m args below meth c cells slots Q pc lv ((.long x, i) :: st) σ := by
  intro hs hl H locs ls hR hS hlo
  exact lv_l2i A.1 A.2.1 hd rfl (k (wkS_i (wkS_tl hs)) hl H locs ls hR hS hlo)
theorem ws_goto (A : Act E mi h p R s m args c cells slots) {o : Int} {t : Nat} (hd : decode (mCd mi) pc = .ok (.goto o, 3)) (ht : (pc : Int) + o = (t : Int)) (k : WG E mi p l e R s m args below meth c cells slots Q t lv st σ) : WG E mi p l e R s m args below meth c cells slots Q pc lv st σ := by
  intro hs hl H locs ls hR hS hlo
  exact lv_goto A.1 A.2.1 hd ht (k hs hl H locs ls hR hS hlo)
theorem ws_if_eq (A : Act E mi h p R s m args c cells slots) {o : Int} {t i : Nat} {x : Int32} (hd : decode (mCd mi) pc = .ok (.ifCond .eq o, 3)) (ht : (pc : Int) + o = (t : Int)) (k : brP (WG E mi p l e R s m args below meth c cells slots Q) (x = 0) t (pc + 3) lv st σ) : WG E mi p l e R s m args below meth c cells slots Q pc lv ((.int x, i) :: st) σ := by
  intro hs hl H locs ls hR hS hlo
  exact lv_if_eq A.1 A.2.1 hd ht (fun z => k.1 z (wkS_tl hs) hl H locs ls hR hS hlo) (fun z => k.2 z (wkS_tl hs) hl H locs ls hR hS hlo)
theorem ws_if_ne (A : Act E mi h p R s m args c cells slots) {o : Int} {t i : Nat} {x : Int32} (hd : decode (mCd mi) pc = .ok (.ifCond .ne o, 3)) (ht : (pc : Int) + o = (t : Int)) (k : brP (WG E mi p l e R s m args below meth c cells slots Q) (x = 0) (pc + 3) t lv st σ) : WG E mi p l e R s m args below meth c cells slots Q pc lv ((.int x, i) :: st) σ := by
  intro hs hl H locs ls hR hS hlo
  exact lv_if_ne A.1 A.2.1 hd ht (fun z => k.2 z (wkS_tl hs) hl H locs ls hR hS hlo) (fun z => k.1 z (wkS_tl hs) hl H locs ls hR hS hlo)
theorem ws_if_lt (A : Act E mi h p R s m args c cells slots) {o : Int} {t i : Nat} {x : Int32} (hd : decode (mCd mi) pc = .ok (.ifCond .lt o, 3)) (ht : (pc : Int) + o = (t : Int)) (k : brP (WG E mi p l e R s m args below meth c cells slots Q) (x < 0) t (pc + 3) lv st σ) : WG E mi p l e R s m args below meth c cells slots Q pc lv ((.int x, i) :: st) σ := by
  intro hs hl H locs ls hR hS hlo
  exact lv_if_lt A.1 A.2.1 hd ht (fun z => k.1 z (wkS_tl hs) hl H locs ls hR hS hlo) (fun z => k.2 z (wkS_tl hs) hl H locs ls hR hS hlo)
theorem ws_if_ge (A : Act E mi h p R s m args c cells slots) {o : Int} {t i : Nat} {x : Int32} (hd : decode (mCd mi) pc = .ok (.ifCond .ge o, 3)) (ht : (pc : Int) + o = (t : Int)) (k : brP (WG E mi p l e R s m args below meth c cells slots Q) (0 ≤ x) t (pc + 3) lv st σ) : WG E mi p l e R s m args below meth c cells slots Q pc lv ((.int x, i) :: st) σ := by
  intro hs hl H locs ls hR hS hlo
  exact lv_if_ge A.1 A.2.1 hd ht (fun z => k.1 z (wkS_tl hs) hl H locs ls hR hS hlo) (fun z => k.2 z (wkS_tl hs) hl H locs ls hR hS hlo)
theorem ws_if_gt (A : Act E mi h p R s m args c cells slots) {o : Int} {t i : Nat} {x : Int32} (hd : decode (mCd mi) pc = .ok (.ifCond .gt o, 3)) (ht : (pc : Int) + o = (t : Int)) (k : brP (WG E mi p l e R s m args below meth c cells slots Q) (0 < x) t (pc + 3) lv st σ) : WG E mi p l e R s m args below meth c cells slots Q pc lv ((.int x, i) :: st) σ := by
  intro hs hl H locs ls hR hS hlo
  exact lv_if_gt A.1 A.2.1 hd ht (fun z => k.1 z (wkS_tl hs) hl H locs ls hR hS hlo) (fun z => k.2 z (wkS_tl hs) hl H locs ls hR hS hlo)
theorem ws_if_le (A : Act E mi h p R s m args c cells slots) {o : Int} {t i : Nat} {x : Int32} (hd : decode (mCd mi) pc = .ok (.ifCond .le o, 3)) (ht : (pc : Int) + o = (t : Int)) (k : brP (WG E mi p l e R s m args below meth c cells slots Q) (x ≤ 0) t (pc + 3) lv st σ) : WG E mi p l e R s m args below meth c cells slots Q pc lv ((.int x, i) :: st) σ := by
  intro hs hl H locs ls hR hS hlo
  exact lv_if_le A.1 A.2.1 hd ht (fun z => k.1 z (wkS_tl hs) hl H locs ls hR hS hlo) (fun z => k.2 z (wkS_tl hs) hl H locs ls hR hS hlo)
theorem ws_ic_eq (A : Act E mi h p R s m args c cells slots) {o : Int} {t i j : Nat} {x y : Int32} (hd : decode (mCd mi) pc = .ok (.if_icmp .eq o, 3)) (ht : (pc : Int) + o = (t : Int)) (k : brP (WG E mi p l e R s m args below meth c cells slots Q) (x = y) t (pc + 3) lv st σ) : WG E mi p l e R s m args below meth c cells slots Q pc lv ((.int y, j) :: (.int x, i) :: st) σ := by
  intro hs hl H locs ls hR hS hlo
  exact lv_icmp_eq A.1 A.2.1 hd ht (fun z => k.1 z (wkS_tl (wkS_tl hs)) hl H locs ls hR hS hlo) (fun z => k.2 z (wkS_tl (wkS_tl hs)) hl H locs ls hR hS hlo)
theorem ws_ic_ne (A : Act E mi h p R s m args c cells slots) {o : Int} {t i j : Nat} {x y : Int32} (hd : decode (mCd mi) pc = .ok (.if_icmp .ne o, 3)) (ht : (pc : Int) + o = (t : Int)) (k : brP (WG E mi p l e R s m args below meth c cells slots Q) (x = y) (pc + 3) t lv st σ) : WG E mi p l e R s m args below meth c cells slots Q pc lv ((.int y, j) :: (.int x, i) :: st) σ := by
  intro hs hl H locs ls hR hS hlo
  exact lv_icmp_ne A.1 A.2.1 hd ht (fun z => k.2 z (wkS_tl (wkS_tl hs)) hl H locs ls hR hS hlo) (fun z => k.1 z (wkS_tl (wkS_tl hs)) hl H locs ls hR hS hlo)
theorem ws_ic_lt (A : Act E mi h p R s m args c cells slots) {o : Int} {t i j : Nat} {x y : Int32} (hd : decode (mCd mi) pc = .ok (.if_icmp .lt o, 3)) (ht : (pc : Int) + o = (t : Int)) (k : brP (WG E mi p l e R s m args below meth c cells slots Q) (x < y) t (pc + 3) lv st σ) : WG E mi p l e R s m args below meth c cells slots Q pc lv ((.int y, j) :: (.int x, i) :: st) σ := by
  intro hs hl H locs ls hR hS hlo
  exact lv_icmp_lt A.1 A.2.1 hd ht (fun z => k.1 z (wkS_tl (wkS_tl hs)) hl H locs ls hR hS hlo) (fun z => k.2 z (wkS_tl (wkS_tl hs)) hl H locs ls hR hS hlo)
theorem ws_ic_ge (A : Act E mi h p R s m args c cells slots) {o : Int} {t i j : Nat} {x y : Int32} (hd : decode (mCd mi) pc = .ok (.if_icmp .ge o, 3)) (ht : (pc : Int) + o = (t : Int)) (k : brP (WG E mi p l e R s m args below meth c cells slots Q) (y ≤ x) t (pc + 3) lv st σ) : WG E mi p l e R s m args below meth c cells slots Q pc lv ((.int y, j) :: (.int x, i) :: st) σ := by
  intro hs hl H locs ls hR hS hlo
  exact lv_icmp_ge A.1 A.2.1 hd ht (fun z => k.1 z (wkS_tl (wkS_tl hs)) hl H locs ls hR hS hlo) (fun z => k.2 z (wkS_tl (wkS_tl hs)) hl H locs ls hR hS hlo)
theorem ws_ic_gt (A : Act E mi h p R s m args c cells slots) {o : Int} {t i j : Nat} {x y : Int32} (hd : decode (mCd mi) pc = .ok (.if_icmp .gt o, 3)) (ht : (pc : Int) + o = (t : Int)) (k : brP (WG E mi p l e R s m args below meth c cells slots Q) (y < x) t (pc + 3) lv st σ) : WG E mi p l e R s m args below meth c cells slots Q pc lv ((.int y, j) :: (.int x, i) :: st) σ := by
  intro hs hl H locs ls hR hS hlo
  exact lv_icmp_gt A.1 A.2.1 hd ht (fun z => k.1 z (wkS_tl (wkS_tl hs)) hl H locs ls hR hS hlo) (fun z => k.2 z (wkS_tl (wkS_tl hs)) hl H locs ls hR hS hlo)
theorem ws_ic_le (A : Act E mi h p R s m args c cells slots) {o : Int} {t i j : Nat} {x y : Int32} (hd : decode (mCd mi) pc = .ok (.if_icmp .le o, 3)) (ht : (pc : Int) + o = (t : Int)) (k : brP (WG E mi p l e R s m args below meth c cells slots Q) (x ≤ y) t (pc + 3) lv st σ) : WG E mi p l e R s m args below meth c cells slots Q pc lv ((.int y, j) :: (.int x, i) :: st) σ := by
  intro hs hl H locs ls hR hS hlo
  exact lv_icmp_le A.1 A.2.1 hd ht (fun z => k.1 z (wkS_tl (wkS_tl hs)) hl H locs ls hR hS hlo) (fun z => k.2 z (wkS_tl (wkS_tl hs)) hl H locs ls hR hS hlo)
theorem conc_50 (E : EnvT) (x : Nat) : conc E (.ref x, 50) = if x = 0 then .null else .ref (eBase E + x) := by
  unfold conc
  dsimp only
  rw [if_neg (by decide), if_neg (by decide)]
  by_cases hx : x = 0
  · rw [if_pos ⟨rfl, hx⟩, if_pos hx]
  · rw [if_neg (fun q => hx q.2), if_neg hx]
theorem conc_o (E : EnvT) {x k : Nat} (h0 : k ≠ 60) (h1 : k ≠ 61) (h2 : k ≠ 50 ∨ x ≠ 0) : conc E (.ref x, k) = .ref (eBase E + x) := by
  unfold conc
  dsimp only
  rw [if_neg h0, if_neg h1, if_neg (fun q => h2.elim (fun z => z q.1) (fun z => z q.2))]
theorem ws_ifnn (A : Act E mi h p R s m args c cells slots) {o : Int} {t x : Nat} (hd : decode (mCd mi) pc = .ok (.ifnonnull o, 3)) (ht : (pc : Int) + o = (t : Int)) (k : brP (WG E mi p l e R s m args below meth c cells slots Q) (x = 0) (pc + 3) t lv st σ) : WG E mi p l e R s m args below meth c cells slots Q pc lv ((.ref x, 50) :: st) σ := by
  intro hs hl H locs ls hR hS hlo
  change W p l e R s m args below meth c H locs cells slots Q (F0 m pc ls (conc E (.ref x, 50) :: st.map (conc E)))
  rw [conc_50]
  by_cases hx : x = 0
  · rw [if_pos hx]
    exact lv_ifnonnullN A.1 A.2.1 hd (k.1 hx (wkS_tl hs) hl H locs ls hR hS hlo)
  · rw [if_neg hx]
    exact lv_ifnonnull A.1 A.2.1 hd ht (k.2 hx (wkS_tl hs) hl H locs ls hR hS hlo)
theorem ws_dup_i (A : Act E mi h p R s m args c cells slots) {x : Int32} {i : Nat} (hd : decode (mCd mi) pc = .ok (.dup, 1)) (k : WG E mi p l e R s m args below meth c cells slots Q (pc + 1) lv ((.int x, i) :: (.int x, i) :: st) σ) : WG E mi p l e R s m args below meth c cells slots Q pc lv ((.int x, i) :: st) σ := by
  intro hs hl H locs ls hR hS hlo
  exact lv_dup A.1 A.2.1 hd rfl (k (wkS_i hs) hl H locs ls hR hS hlo)
theorem ws_dup_r (A : Act E mi h p R s m args c cells slots) {x : Nat} {i : Nat} (hd : decode (mCd mi) pc = .ok (.dup, 1)) (k : WG E mi p l e R s m args below meth c cells slots Q (pc + 1) lv ((.ref x, i) :: (.ref x, i) :: st) σ) : WG E mi p l e R s m args below meth c cells slots Q pc lv ((.ref x, i) :: st) σ := by
  intro hs hl H locs ls hR hS hlo
  exact lv_dup A.1 A.2.1 hd (conc_cat E (.ref x, i)) (k (wkS_cons (wkS_hd hs) hs) hl H locs ls hR hS hlo)
theorem ws_dup2 (A : Act E mi h p R s m args c cells slots) {x : Int32} {y i j : Nat} (hd : decode (mCd mi) pc = .ok (.dup2, 1)) (k : WG E mi p l e R s m args below meth c cells slots Q (pc + 1) lv ((.int x, i) :: (.ref y, j) :: (.int x, i) :: (.ref y, j) :: st) σ) : WG E mi p l e R s m args below meth c cells slots Q pc lv ((.int x, i) :: (.ref y, j) :: st) σ := by
  intro hs hl H locs ls hR hS hlo
  exact lv_dup2_11 A.1 A.2.1 hd rfl (conc_cat E (.ref y, j)) (k (wkS_i (wkS_cons (wkS_hd (wkS_tl hs)) hs)) hl H locs ls hR hS hlo)
theorem ws_pop (A : Act E mi h p R s m args c cells slots) {x : Int32} {i : Nat} (hd : decode (mCd mi) pc = .ok (.pop, 1)) (k : WG E mi p l e R s m args below meth c cells slots Q (pc + 1) lv st σ) : WG E mi p l e R s m args below meth c cells slots Q pc lv ((.int x, i) :: st) σ := by
  intro hs hl H locs ls hR hS hlo
  exact lv_pop A.1 A.2.1 hd rfl (k (wkS_tl hs) hl H locs ls hR hS hlo)
theorem ws_switch (A : Act E mi h p R s m args c cells slots) {d lo hi : Int} {os : Array Int} {len t : Nat} {x : Int32} {i : Nat} (hd : decode (mCd mi) pc = .ok (.tableswitch d lo hi os, len)) (hn : hi - lo + 1 = (os.size : Int)) (hdt : (pc : Int) + d = (t : Int)) (ht : ∀ j, j < os.size → ∃ o, os[j]? = some o ∧ (pc : Int) + o = (((swL mi pc).getD j (0, 0)).2 : Nat) ∧ ((swL mi pc).getD j (0, 0)).1.toInt = lo + j) (hsz : (swL mi pc).length = os.size)
    (k : swP (WG E mi p l e R s m args below meth c cells slots Q) lv st σ x t (swL mi pc)) : WG E mi p l e R s m args below meth c cells slots Q pc lv ((.int x, i) :: st) σ := by
  intro hs hl H locs ls hR hS hlo
  have key : ∀ (ts : List (Int32 × Nat)) (n : Nat), (∀ j, j < ts.length → (swL mi pc).getD (n + j) (0, 0) = ts.getD j (0, 0)) → n + ts.length = os.size → (x.toInt < lo ∨ lo + n ≤ x.toInt) → swP (WG E mi p l e R s m args below meth c cells slots Q) lv st σ x t ts → W p l e R s m args below meth c H locs cells slots Q (F0 m pc ls (((.int x, i) :: st).map (conc E))) := by
    intro ts
    induction ts with
    | nil =>
      intro n _ h2 h4 h5
      simp only [List.length_nil, Nat.add_zero] at h2
      exact lv_tableOut A.1 A.2.1 hd (by omega) hdt (h5 (wkS_tl hs) hl H locs ls hR hS hlo)
    | cons a ts ih =>
      intro n h1 h2 h4 h5
      obtain ⟨v', a⟩ := a
      simp only [List.length_cons] at h2
      obtain ⟨o, ho1, ho2, h3⟩ := ht n (by omega)
      have e0 := h1 0 (by simp)
      simp only [Nat.add_zero, List.getD_cons_zero] at e0
      rw [e0] at ho2 h3
      dsimp only at ho2 h3
      by_cases hx : x = v'
      · refine lv_tableIn (off := o) (tgt := a) A.1 A.2.1 hd (by rw [hx, h3]; omega) (by rw [hx, h3]; omega) ?_ ho2 (h5.1 hx (wkS_tl hs) hl H locs ls hR hS hlo)
        rw [hx, h3, show lo + (n : Int) - lo = (n : Int) by omega]
        exact ho1
      · have hne : x.toInt ≠ v'.toInt := fun q => hx (Int32.toInt_inj.mp q)
        refine ih (n + 1) (fun j hj => ?_) (by omega) (by omega) (h5.2 hx)
        have := h1 (j + 1) (by simp; omega)
        simp only [List.getD_cons_succ] at this
        rw [← this]
        congr 1
        omega
  exact key (swL mi pc) 0 (fun j _ => by rw [Nat.zero_add]) (by omega) (by omega) k
end SND
