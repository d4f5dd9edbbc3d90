def R_law : String := "OneAnvilLaw"
def lw_P (b : Addr) (xs : List Int32) (args : Array Value) (s : State) : Prop := args = #[.ref b] ∧ s.IntsAt b xs ∧ xs.length ≤ 3072 ∧ (Jvm.Cond.and given_1 narrow_1).before args s = true
def lw_Q (_ : Array Value) (s : State) (o : Outcome) (t : State) : Prop := o = .returned (some (.int 1)) ∧ Framed s o t [] 600000 7302250
def lw_Z (below : List Frame) (a : Array Value) (s : State) : State → Prop := fun t => ∃ o, t.status = .running ∧ Ended t below o ∧ lw_Q a s o t
/-- the law's own end, with 1 on the stack, nothing written that was there before, its room as the claim has it -/
theorem lw_ret {p : Program} {l : Launch} {e : Env} {s : State} {m : MethodId} {below : List Frame} {meth : Method} {c : Code} {b : Nat} (hx : p.tables.exec = Jvm.exec) (hb : c.code = code) (hr : meth.sig.returnType = ret) (hlocks : meth.locks = false) {pc : Nat} {H : Heap} {ls : Array Slot} (hdg : decode code pc = .ok (.ireturn, 1)) : W p l e room_1 s m #[Value.ref b] below meth c H [] 600000 7302250 (lw_Z below #[Value.ref b] s) (F0 m pc ls [.int 1]) := by
  intro T hT X
  obtain ⟨fs, hret, hrun, hended, hW, hframe⟩ := X.leave (v := some (.int 1)) (hlocks := hlocks) (fun h => by rw [hr] at h; cases h)
  have hmeth' : T.vm.method? m = some meth := X.method'
  refine ⟨T.setFrames fs, ?_, .returned (some (.int 1)), hrun, hended, rfl, ⟨_, rfl⟩, hW, hframe⟩
  jvm_step X.here [X.here.top, hx, hb, hdg, hmeth', hr, ret, narrow_b1]
  (try refine ⟨rfl, ?_⟩); (try refine ⟨rfl, ?_⟩)
  first | (intro acts; rw [hret _ acts rfl rfl rfl]) | rw [hret _ _ rfl rfl rfl]
  exact Steps.refl _
/-- what holds at the law's entry: the machine, the code, the tables' words (any of lw_tbl by 'hts w (by decide +kernel)'), the script of L ints xs at the cell b, what the Statement gives of the start (any of its parts by flat_of_before) -/
def lw_At (p : Program) (s : State) (m : MethodId) (meth : Method) (c : Code) (b L : Nat) (xs : Nat → Int32) : Prop :=
  p.tables.exec = Jvm.exec ∧ c.code = code ∧ meth.sig.returnType = ret ∧ c.maxLocals = 4 ∧ s.vm.findClass R_law = some m.cls ∧ (∀ w ∈ lw_tbl, w.before #[Value.ref b] s = true) ∧ va_X b L xs s s.heap ∧ b < s.heap.size ∧ meth.locks = false ∧ (Jvm.Cond.and given_1 narrow_1).before #[Value.ref b] s = true
/-! THE LAW FROM ITS ENTRY -/
def E0 (D : va_G) (C : Nat → ClassId) (z b : Nat) (kK kV : Nat → Nat) (L : Nat) (xs : Nat → Int32) : EnvT := (D, C, z, b, kK, kV, L, xs)
theorem szL_nil : szL [] = 0 := rfl
theorem kd_hp {hp : List CC} (h : chAll hp = true) : hp.length = kdL.length := by
  unfold chAll at h
  rw [Bool.and_eq_true] at h
  exact Nat.eq_of_beq_eq_true h.1
theorem lv_gen (lv : LVs) (h : (match lv with
    | [some (.ref 0, 60), some (.ref 0, 0), some (.ref a, 0), none] => Nat.beq a 483
    | _ => false) = true) : lv = [some (.ref 0, 60), some (.ref 0, 0), some (.ref 483, 0), none] := by
  split at h
  · rename_i a
    cases Nat.eq_of_beq_eq_true h
    rfl
  · cases h
theorem cx_gen (o : Option (Nat × List CC × LVs)) (h : (match o with
  | some (_, hp, lv) => forceL hp.reverse (fun hp => chAll hp && decide (szL hp ≤ 7000000)) && (match lv with
    | [some (.ref 0, 60), some (.ref 0, 0), some (.ref a, 0), none] => Nat.beq a 483
    | _ => false)
  | none => false) = true) : ∃ (u : Nat) (hp : List CC), o = some (u, hp, [some (.ref 0, 60), some (.ref 0, 0), some (.ref 483, 0), none]) ∧ chAll hp.reverse = true ∧ szL hp.reverse ≤ 7000000 := by
  match o, h with
  | none, h => cases h
  | some (u, hp, lv), h =>
    have h1 := (Bool.and_eq_true_iff.mp h).1
    have h2 := lv_gen lv (Bool.and_eq_true_iff.mp h).2
    rw [forceL_eq, Bool.and_eq_true] at h1
    exact ⟨u, hp, by rw [h2], h1.1, of_decide_eq_true h1.2⟩
theorem cx_out : ∃ (hp : List CC), cxB 3000 13 0 lvLaw [] [] = some (hp, [some (.ref 0, 60), some (.ref 0, 0), some (.ref 483, 0), none]) ∧ chAll hp = true ∧ szL hp ≤ 7000000 := by
  have h := cx_run
  generalize hq : cxR 3000 13 0 lvLaw [] 0 [] = r at h
  obtain ⟨u, hp, h1, h2, h3⟩ := cx_gen r h
  exact ⟨hp.reverse, (cxR_ok 3000 13 0 lvLaw [] [] hp u _ (hq.trans h1)).2, h2, h3⟩
theorem code_230 : code = mCd 230 := rfl
theorem code_k13 : code = kCd 13 := rfl
theorem ml_230 : 4 = mML 230 := by decide +kernel
theorem ml_k13 : 4 = kML 13 := by decide +kernel
theorem ow_230 : R_law = mOw 230 := by decide +kernel
theorem ow_k13 : R_law = kOw 13 := by decide +kernel
theorem relC_nil {E : EnvT} {H : Heap} (h : H.size = eBase E) : RelC E [] H := ⟨h, fun k q hk => by cases hk⟩
theorem lok_law {E : EnvT} {ls : Array Slot} (h : lok E ls 4 [some (.ref 0, 60), some (.ref 0, 0), some (.ref 483, 0), none]) : lok E ls 4 [some (.ref 0, 60), some (.ref 0, 11), some (.ref 483, 12), none] := by
  refine ⟨rfl, h.2.1, h.2.2.1, fun i a hi => ?_⟩
  match i, hi with
  | 0, hi => exact h.2.2.2 0 a hi
  | 1, hi => cases hi; exact h.2.2.2 1 (.ref 0, 0) rfl
  | 2, hi => cases hi; exact h.2.2.2 2 (.ref 483, 0) rfl
  | 3, hi => cases hi
  | n + 4, hi => cases hi
theorem law_dec : decode (mCd 230) 16 = .ok (.iconst 0, 1) := by decide +kernel
theorem law_dec17 : decode (mCd 230) 17 = .ok (.istore_n 3, 1) := by decide +kernel
set_option maxHeartbeats 4000000 in
theorem start_law {p : Program} {e : Env} {s : State} {m : MethodId} {below : List Frame} {meth : Method} {c : Code} (l : Launch) {b L : Nat} {xs : Nat → Int32} (hL : L ≤ 3072) (C0 : lw_At p s m meth c b L xs) (F : Nat) (σ' : Mem) (hone : mLaw F L xs σ0 = some (1, σ')) : W p l e room_1 s m #[Value.ref b] below meth c s.heap [] 0 0 (lw_Z below #[Value.ref b] s) (entryFrame m ([Value.ref b] : List Value).toArray 4) := by
  obtain ⟨hexec, hcode, hret, hml, hown, hts, hX, hbl, hlocks, hgv⟩ := C0
  obtain ⟨D, C, hK⟩ := va_K_start hts
  obtain ⟨kK, kV, hE⟩ := EnvOK_start hts hX hbl hL hgv D C
  have hcl : ∀ E : EnvT, eBase E = s.heap.size → eScr E = b → eL E = L → eX E = xs → va_K (eD E) vwCl (tysL E) s → EnvOK E s s.heap → W p l e room_1 s m #[Value.ref b] below meth c s.heap [] 0 0 (lw_Z below #[Value.ref b] s) (entryFrame m ([Value.ref b] : List Value).toArray 4) := by
    intro E e1 e2 e3 e4 hK hE
    have A : ActK E 13 (kHt 13) p room_1 s m #[Value.ref b] meth c := ⟨hexec, hcode.trans code_k13, hml.trans ml_k13, ow_k13 ▸ hown, fun w hw => hts w (of_ALLg hw), hK, ⟨fun h => absurd h (by decide), NestOK_start hts⟩, Nat.le_of_ble_eq_true rfl, Nat.le_of_ble_eq_true rfl⟩
    obtain ⟨hp, hb, hch, hsz⟩ := cx_out
    have hlen := kd_hp hch
    have hlen2 : kdL.length = 510 := by decide +kernel
    have hcells : hp.length ≤ 600000 := by rw [hlen, hlen2]; exact Nat.le_of_ble_eq_true rfl
    have hw := cx_snd 3000 13 0 lvLaw [] [] hp _ (by decide) hb (Q := lw_Z below #[Value.ref b] s) (below := below) (l := l) (e := e) 0 0 A hcells (Nat.le_trans hsz (Nat.le_of_ble_eq_true rfl)) ?_
    · have hargs : ([Value.ref b] : List Value) = [((.ref 0, 60) : AV)].map (conc E) := by rw [← e2]; rfl
      have h0 := hw (Nat.zero_le _) (Nat.zero_le _) s.heap [] _ (relC_nil e1.symm) va_S.rf (lok_ent (E := E) (as := [((.ref 0, 60) : AV)]) (n := 4) (Nat.le_of_ble_eq_true rfl))
      have h1 : entryFrame m ([Value.ref b] : List Value).toArray 4 = F0 m 0 (lg_sl ([((.ref 0, 60) : AV)].map (conc E)) ++ List.replicate (4 - (lg_sl ([((.ref 0, 60) : AV)].map (conc E))).length) Slot.unset).toArray [] := by
        rw [hargs, lg_entry_eq]
      rw [h1]
      exact h0
    · intro pc H locs ls hpc hR hS hlo
      rcases hpc with ⟨-, rfl⟩ | ⟨hlt, -⟩
      · have hRel : Rel E σ0 H := Rel_of hR hch
        have hA : Act E 230 2047 p room_1 s m #[Value.ref b] c (hp.length - 0) (szL hp - 0) := ⟨hexec, hcode.trans code_230, hml.trans ml_230, ow_230 ▸ hown, fun w hw => hts w (of_ALLg hw), hK, hE, Nat.le_of_ble_eq_true rfl, Nat.le_of_ble_eq_true rfl, hcells, Nat.le_trans hsz (Nat.le_of_ble_eq_true rfl)⟩
        have hG : Cl E 230 2047 tb_230 (WG E 230 p l e room_1 s m #[Value.ref b] below meth c (hp.length - 0) (szL hp - 0) (lw_Z below #[Value.ref b] s)) (fun a _ => a = some (.int 1, 0)) := WG_Cl hA (by decide) tbok_230 (by
          intro a σ hrp _ pc i hd hro H locs ls hRl hS
          cases hrp
          rcases hro with ⟨rfl, h2, h3⟩ | ⟨rfl, n, k, h2, h3⟩ | ⟨rfl, n, k, h2, h3⟩ | ⟨rfl, b, k, t, h2, h3⟩
          · cases h2
          · refine va_forget (fun q hq => hS.2.2 q hq |> fun z => by rw [← e1]; exact z) ?_
            refine W.widen (k := 600000) (n := 7302250) hcells (Nat.le_trans hsz (Nat.le_of_ble_eq_true rfl)) ?_
            exact lw_ret hexec hcode hret hlocks (by rw [code_230]; exact hd)
          · cases h2
          · cases h2)
        have hlaw : WG E 230 p l e room_1 s m #[Value.ref b] below meth c (hp.length - 0) (szL hp - 0) (lw_Z below #[Value.ref b] s) 18 [some (.ref 0, 60), some (.ref 0, 11), some (.ref 483, 12), some (.int 0, 0)] [] σ0 :=
          wLaw_18 hG (r := (1, σ')) rfl F F 0 σ0 (by rw [e3, e4]; exact hone)
        have h17 := ws_istore_n hA (i := 3) (n := 0) law_dec17 (by decide +kernel) (lv := [some (.ref 0, 60), some (.ref 0, 11), some (.ref 483, 12), none]) (st := []) (x := 0) (σ := σ0) hlaw
        have h16 := ws_iconst hA (n := 0) (v := 0) law_dec rfl (lv := [some (.ref 0, 60), some (.ref 0, 11), some (.ref 483, 12), none]) (st := []) (σ := σ0) h17
        exact h16 (fun a ha => by cases ha) (fun a ha => by
          rcases List.mem_cons.mp ha with h | ha
          · cases h; exact Or.inl rfl
          rcases List.mem_cons.mp ha with h | ha
          · cases h; exact Or.inr (Or.inr (Or.inr ⟨by decide, by decide, by decide, by decide +kernel⟩))
          rcases List.mem_cons.mp ha with h | ha
          · cases h; exact Or.inr (Or.inr (Or.inr ⟨by decide, by decide, by decide, by decide +kernel⟩))
          rcases List.mem_cons.mp ha with h | ha
          · cases h
          · cases ha) H locs ls hRel hS (lok_law hlo)
      · exact absurd hlt (by decide)
  exact hcl (D, C, s.heap.size, b, kK, kV, L, xs) rfl rfl rfl rfl hK hE
