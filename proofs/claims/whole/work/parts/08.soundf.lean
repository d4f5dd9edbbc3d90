/-! SOUNDNESS, 3: stretches, and a method's contract out of them -/
/-- G holds at every state from which stepP leads into G -/
def Cl (E : EnvT) (m h : Nat) (tb : List Ent) (G : GT) (RP : Option AV → Mem → Prop) : Prop :=
  ∀ G' : GT, (∀ pc lv st σ, G' pc lv st σ → G pc lv st σ) → ∀ q, q ∈ tb → ∀ lv st σ, stepP E m h G' RP q lv st σ → G q.1 lv st σ
theorem seek_sub {tb : List Ent} {pc : Nat} {q : Ent} (h : q ∈ seek tb pc) : q ∈ tb := (List.dropWhile_sublist _).subset h
theorem seek_hd {tb : List Ent} {pc : Nat} {q : Ent} {is : List Ent} (h : seek tb pc = q :: is) : q.1 = pc := by
  unfold seek at h
  induction tb with
  | nil => cases h
  | cons a t ih =>
    rw [List.dropWhile_cons] at h
    cases hb : Nat.beq a.1 pc with
    | true =>
      rw [hb] at h
      simp only [Bool.not_true] at h
      cases h
      exact Nat.eq_of_beq_eq_true hb
    | false =>
      rw [hb] at h
      exact ih h
theorem go_sub {tb is : List Ent} {pc : Nat} {q : Ent} (hi : ∀ q ∈ is, q ∈ tb) (h : q ∈ go tb is pc) : q ∈ tb := by
  unfold go at h
  split at h
  · rename_i a t
    cases hb : Nat.beq a.1 pc with
    | true => rw [hb] at h; exact hi q h
    | false => rw [hb] at h; exact seek_sub h
  · exact seek_sub h
theorem go_hd {tb is is' : List Ent} {pc : Nat} {q : Ent} (h : go tb is pc = q :: is') : q.1 = pc := by
  unfold go at h
  split at h
  · rename_i a t
    cases hb : Nat.beq a.1 pc with
    | true =>
      rw [hb] at h
      cases h
      exact Nat.eq_of_beq_eq_true hb
    | false => rw [hb] at h; exact seek_hd h
  · exact seek_hd h
theorem wpB_snd {E : EnvT} {m h : Nat} {tb : List Ent} {cut : List Nat} {G : GT} {RP : Option AV → Mem → Prop} (hG : Cl E m h tb G RP) : ∀ (b : Nat) (is : List Ent), (∀ q ∈ is, q ∈ tb) → ∀ lv st σ, wpB E m h tb cut G RP b is lv st σ → ∃ q is', is = q :: is' ∧ G q.1 lv st σ
  | 0, _, _, _, _, _, h => h.elim
  | _ + 1, [], _, _, _, _, h => h.elim
  | b + 1, q :: is, hi, lv, st, σ, hw => by
    refine ⟨q, is, rfl, ?_⟩
    refine hG _ (fun pc lv st σ hx => ?_) q (hi q List.mem_cons_self) lv st σ hw
    cases hc : cut.any (Nat.beq pc) with
    | true => rw [hc] at hx; exact hx
    | false =>
      rw [hc] at hx
      obtain ⟨q', is', e, hg⟩ := wpB_snd hG b (go tb is pc) (fun q h => go_sub (fun q h => hi q (List.mem_cons_of_mem _ h)) h) lv st σ hx
      rw [go_hd e] at hg
      exact hg
/-- from a place on: what a stretch shows -/
theorem bk {E : EnvT} {m h : Nat} {tb : List Ent} {cut : List Nat} {G : GT} {RP : Option AV → Mem → Prop} (hG : Cl E m h tb G RP) {pc : Nat} {lv : LVs} {st : List AV} {σ : Mem} (b : Nat) (w : wpB E m h tb cut G RP b (seek tb pc) lv st σ) : G pc lv st σ := by
  obtain ⟨q, is', e, hg⟩ := wpB_snd hG b _ (fun q h => seek_sub h) lv st σ w
  rw [seek_hd e] at hg
  exact hg
/-- a method's table holds -/
def TbOk (mi : Nat) (tb : List Ent) : Prop := ∀ q ∈ tb, decode (mCd mi) q.1 = .ok (q.2.1, q.2.2.1) ∧ okB mi q = true
theorem WG_Cl {p : Program} {l : Launch} {e : Env} {R : Room} {s : State} {m : MethodId} {args : Array Value} {below : List Frame} {meth : Method} {c : Code} {cells slots : Nat} {Q : State → Prop} {E : EnvT} {mi h : Nat} {tb : List Ent} {RP : Option AV → Mem → Prop}
    (A : Act E mi h p R s m args c cells slots) (hmi : mi < 231) (ht : TbOk mi tb)
    (hret : ∀ (a : Option AV) (σ : Mem), RP a σ → (∀ b, a = some b → wk b) → ∀ (pc : Nat) (i : Instr), decode (mCd mi) pc = .ok (i, 1) → retOK mi i a → ∀ (H : Heap) (locs : List Loc) (ls : Array Slot), Rel E σ H → va_S (eA E) s.heap H locs → W p l e R s m args below meth c H locs cells slots Q (F0 m pc ls (a.toList.map (conc E)))) :
    Cl E mi h tb (WG E mi p l e R s m args below meth c cells slots Q) RP := fun G' hk q hq lv st σ hst => snd A hmi hk hret q (ht q hq).1 (ht q hq).2 lv st σ hst
/-- the locals at a method's entry -/
def entL : List AV → LVs
  | [] => []
  | (.long x, k) :: t => some (.long x, k) :: none :: entL t
  | (.double x, k) :: t => some (.double x, k) :: none :: entL t
  | a :: t => some a :: entL t
def padL (n : Nat) (l : LVs) : LVs := l ++ List.replicate (n - l.length) none
theorem nth_pad {l : LVs} {a : AV} : ∀ {n i : Nat}, nth (l ++ List.replicate n none) i = some a → nth l i = some a := by
  induction l with
  | nil =>
    intro n i h
    induction n generalizing i with
    | zero => exact h
    | succ n ih =>
      cases i with
      | zero => cases h
      | succ i => cases ih (i := i) h
  | cons o t ih =>
    intro n i h
    cases i with
    | zero => exact h
    | succ i => exact ih (n := n) h
theorem entL_mem {E : EnvT} : ∀ {as : List AV} {n i : Nat} {a : AV}, nth (entL as) i = some a → (n + i, conc E a) ∈ lv_args n (as.map (conc E))
  | [], _, _, _, h => by cases h
  | (v, k) :: t, n, i, a, h => by
    have one : entL ((v, k) :: t) = some (v, k) :: entL t → v.category = 1 → (n + i, conc E a) ∈ lv_args n (((v, k) :: t).map (conc E)) := by
      intro he hc
      rw [he] at h
      show _ ∈ (n, conc E (v, k)) :: lv_args (if (conc E (v, k)).category = 2 then n + 2 else n + 1) (t.map (conc E))
      cases i with
      | zero =>
        cases (show some (v, k) = some a from h)
        exact List.mem_cons_self
      | succ i =>
        rw [conc_cat, if_neg (by show ¬ v.category = 2; omega)]
        have := entL_mem (E := E) (as := t) (n := n + 1) (i := i) h
        rw [show n + 1 + i = n + (i + 1) by omega] at this
        exact List.mem_cons_of_mem _ this
    have two : entL ((v, k) :: t) = some (v, k) :: none :: entL t → v.category = 2 → (n + i, conc E a) ∈ lv_args n (((v, k) :: t).map (conc E)) := by
      intro he hc
      rw [he] at h
      show _ ∈ (n, conc E (v, k)) :: lv_args (if (conc E (v, k)).category = 2 then n + 2 else n + 1) (t.map (conc E))
      match i, h with
      | 0, h =>
        cases (show some (v, k) = some a from h)
        exact List.mem_cons_self
      | 1, h => cases h
      | i + 2, h =>
        rw [conc_cat, if_pos (show v.category = 2 from hc)]
        have := entL_mem (E := E) (as := t) (n := n + 2) (i := i) h
        rw [show n + 2 + i = n + (i + 2) by omega] at this
        exact List.mem_cons_of_mem _ this
    cases v with
    | long x => exact two rfl rfl
    | double x => exact two rfl rfl
    | _ => exact one rfl rfl
theorem wkE_ent {a : AV} : ∀ {as : List AV}, wkS as → some a ∈ entL as → wk a
  | [], _, ha => by cases ha
  | (v, k) :: t, h, ha => by
    have ih := wkE_ent (a := a) (as := t) (fun b hb => h b (List.mem_cons_of_mem _ hb))
    have one : entL ((v, k) :: t) = some (v, k) :: entL t → wk a := fun he => by
      rw [he] at ha
      rcases List.mem_cons.mp ha with e | hb
      · cases e; exact h _ List.mem_cons_self
      · exact ih hb
    have two : entL ((v, k) :: t) = some (v, k) :: none :: entL t → wk a := fun he => by
      rw [he] at ha
      rcases List.mem_cons.mp ha with e | hb
      · cases e; exact h _ List.mem_cons_self
      · rcases List.mem_cons.mp hb with e | hb
        · cases e
        · exact ih hb
    cases v with
    | long x => exact two rfl
    | double x => exact two rfl
    | _ => exact one rfl
theorem wkL_ent {as : List AV} {n : Nat} (h : wkS as) : wkL (padL n (entL as)) := fun a ha =>
  wkE_ent h ((List.mem_append.mp ha).resolve_right (fun q => by have := List.eq_of_mem_replicate q; cases this))
theorem lg_len {E : EnvT} : ∀ (as : List AV), (lg_sl (as.map (conc E))).length = (entL as).length
  | [] => rfl
  | (v, k) :: t => by
    have h := lg_len (E := E) t
    have e1 : lg_sl (((v, k) :: t).map (conc E)) = (if (conc E (v, k)).category = 2 then [Slot.val (conc E (v, k)), .second] else [.val (conc E (v, k))]) ++ lg_sl (t.map (conc E)) := rfl
    rw [e1, conc_cat]
    cases v <;> simp [entL, Value.category, h]
theorem lok_ent {E : EnvT} {as : List AV} {n : Nat} (h : (entL as).length ≤ n) : lok E ((lg_sl (as.map (conc E)) ++ List.replicate (n - (lg_sl (as.map (conc E))).length) Slot.unset).toArray) n (padL n (entL as)) := by
  have h1 := lv_entry (as.map (conc E)) (n := n) (by rw [lg_len]; exact h)
  refine ⟨by unfold padL; rw [List.length_append, List.length_replicate]; omega, h1.1, h1.2.1, fun i a hi => ?_⟩
  have := entL_mem (E := E) (n := 0) (nth_pad hi)
  rw [Nat.zero_add] at this
  exact h1.2.2 _ this
/-- THE CONTRACT out of the stretches -/
theorem MetAt_of {E : EnvT} {h mi : Nat} {tb : List Ent} {as : List AV} {σ : Mem} {v : Option AV} {σ' : Mem} (hmi : mi < 230) (ht : TbOk mi tb) (hlen : (entL as).length ≤ mML mi) (hv : ∀ a, v = some a → wk a)
    (body : ∀ G : GT, Cl E mi h tb G (fun a τ => a.map (conc E) = v.map (conc E) ∧ τ = σ') → G 0 (padL (mML mi) (entL as)) [] σ) : MetAt E h mi as σ v σ' := by
  intro hw
  refine ⟨hv, fun l => ?_⟩
  have hmb := mB mi hmi
  unfold mBB at hmb
  simp only [Bool.and_eq_true] at hmb
  refine Met.ofW (cc := mCd mi) (maxL := mML mi) (ret := mRt mi) hmb.1.1.1 rfl ?_
  intro p e s m args below meth c s₁ B hml hpc
  obtain ⟨rfl, hR, hK, hE⟩ := hpc
  have hts0 := atoms_spec (ws := mWs mi) B.pre
  have A : Act E mi h p (headSpec (mWs mi) (rmH h)).room s m (as.map (conc E)).toArray c 0 0 := ⟨B.exec, B.bytes, hml, findClass_of_methodNamed B.named, fun w hw => hts0 w (List.mem_cons_of_mem _ hw), hK, hE, Nat.le_refl _, Nat.le_refl _, Nat.zero_le _, Nat.zero_le _⟩
  rw [lg_entry_eq]
  have hlocks := B.notSynchronized
  have hr := B.returns
  refine body _ (WG_Cl A (Nat.lt_succ_of_lt hmi) ht ?_) (fun a ha => by cases ha) (wkL_ent hw) s.heap [] _ hR va_S.rf (lok_ent hlen)
  intro a τ hrp hwa pc i hd hro H locs ls hRl hS
  obtain ⟨hav, rfl⟩ := hrp
  have hq : ∀ t : State, t.heap = H → (va_F (eA E) s t) := fun t ht => hS.F ht
  rcases hro with ⟨rfl, rfl, h3⟩ | ⟨rfl, n, k, rfl, h3⟩ | ⟨rfl, n, k, rfl, h3⟩ | ⟨rfl, b, k, t, rfl, h3⟩
  · exact W.vret A.1 A.2.1 (hr.trans h3) (fun t ht _ => ⟨by rw [← hav]; rfl, by rw [ht]; exact hRl, hq t ht⟩) hS.2.2 hd hlocks
  · rcases h3 with h3 | ⟨h3, h4⟩
    · exact W.iret A.1 A.2.1 (hr.trans h3) (fun t ht _ => ⟨by rw [← hav]; rfl, by rw [ht]; exact hRl, hq t ht⟩) hS.2.2 hd hlocks
    · exact W.zret A.1 A.2.1 (hr.trans h3) (by rcases h4 with z | z <;> subst z <;> decide) (fun t ht _ => ⟨by rw [← hav]; rfl, by rw [ht]; exact hRl, hq t ht⟩) hS.2.2 hd hlocks
  · exact W.lret A.1 A.2.1 (hr.trans h3) (fun t ht _ => ⟨by rw [← hav]; rfl, by rw [ht]; exact hRl, hq t ht⟩) hS.2.2 hd hlocks
  · exact W.aret (v := conc E (.ref b, k)) A.1 A.2.1 (hr.trans h3) (Or.inl ⟨t, rfl⟩) ((conc_rf E b k).symm) (fun t ht _ => ⟨by rw [← hav]; rfl, by rw [ht]; exact hRl, hq t ht⟩) hS.2.2 hd hlocks
