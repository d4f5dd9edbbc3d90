theorem dj_len_0 : decode cJ0_length_8abf5 0 = .ok (.aload_n 0, 1) := by decide +kernel
theorem dj_len_1 : decode cJ0_length_8abf5 1 = .ok (.getfield 9, 3) := by decide +kernel
theorem dj_len_4 : decode cJ0_length_8abf5 4 = .ok (.arraylength, 1) := by decide +kernel
theorem dj_len_5 : decode cJ0_length_8abf5 5 = .ok (.aload_n 0, 1) := by decide +kernel
theorem dj_len_6 : decode cJ0_length_8abf5 6 = .ok (.invokevirtual 335, 3) := by decide +kernel
theorem dj_len_9 : decode cJ0_length_8abf5 9 = .ok (.ishr, 1) := by decide +kernel
theorem dj_len_10 : decode cJ0_length_8abf5 10 = .ok (.ireturn, 1) := by decide +kernel
theorem dj_cod_0 : decode cJ0_coder_7d493 0 = .ok (.getstatic 38, 3) := by decide +kernel
theorem dj_cod_3 : decode cJ0_coder_7d493 3 = .ok (.ifCond .eq 10, 3) := by decide +kernel
theorem dj_cod_6 : decode cJ0_coder_7d493 6 = .ok (.aload_n 0, 1) := by decide +kernel
theorem dj_cod_7 : decode cJ0_coder_7d493 7 = .ok (.getfield 15, 3) := by decide +kernel
theorem dj_cod_10 : decode cJ0_coder_7d493 10 = .ok (.goto 4, 3) := by decide +kernel
theorem dj_cod_13 : decode cJ0_coder_7d493 13 = .ok (.iconst 1, 1) := by decide +kernel
theorem dj_cod_14 : decode cJ0_coder_7d493 14 = .ok (.ireturn, 1) := by decide +kernel
theorem dj_lat_0 : decode cJ0_isLatin1_aae02 0 = .ok (.getstatic 38, 3) := by decide +kernel
theorem dj_lat_3 : decode cJ0_isLatin1_aae02 3 = .ok (.ifCond .eq 14, 3) := by decide +kernel
theorem dj_lat_6 : decode cJ0_isLatin1_aae02 6 = .ok (.aload_n 0, 1) := by decide +kernel
theorem dj_lat_7 : decode cJ0_isLatin1_aae02 7 = .ok (.getfield 15, 3) := by decide +kernel
theorem dj_lat_10 : decode cJ0_isLatin1_aae02 10 = .ok (.ifCond .ne 7, 3) := by decide +kernel
theorem dj_lat_13 : decode cJ0_isLatin1_aae02 13 = .ok (.iconst 1, 1) := by decide +kernel
theorem dj_lat_14 : decode cJ0_isLatin1_aae02 14 = .ok (.goto 4, 3) := by decide +kernel
theorem dj_lat_17 : decode cJ0_isLatin1_aae02 17 = .ok (.iconst 0, 1) := by decide +kernel
theorem dj_lat_18 : decode cJ0_isLatin1_aae02 18 = .ok (.ireturn, 1) := by decide +kernel
theorem dj_chr_0 : decode cJ0_charAt_5068e 0 = .ok (.aload_n 0, 1) := by decide +kernel
theorem dj_chr_1 : decode cJ0_charAt_5068e 1 = .ok (.invokevirtual 492, 3) := by decide +kernel
theorem dj_chr_4 : decode cJ0_charAt_5068e 4 = .ok (.ifCond .eq 12, 3) := by decide +kernel
theorem dj_chr_7 : decode cJ0_charAt_5068e 7 = .ok (.aload_n 0, 1) := by decide +kernel
theorem dj_chr_8 : decode cJ0_charAt_5068e 8 = .ok (.getfield 9, 3) := by decide +kernel
theorem dj_chr_11 : decode cJ0_charAt_5068e 11 = .ok (.iload_n 1, 1) := by decide +kernel
theorem dj_chr_12 : decode cJ0_charAt_5068e 12 = .ok (.invokestatic 495, 3) := by decide +kernel
theorem dj_chr_15 : decode cJ0_charAt_5068e 15 = .ok (.ireturn, 1) := by decide +kernel
theorem dj_chr_16 : decode cJ0_charAt_5068e 16 = .ok (.aload_n 0, 1) := by decide +kernel
theorem dj_chr_17 : decode cJ0_charAt_5068e 17 = .ok (.getfield 9, 3) := by decide +kernel
theorem dj_chr_20 : decode cJ0_charAt_5068e 20 = .ok (.iload_n 1, 1) := by decide +kernel
theorem dj_chr_21 : decode cJ0_charAt_5068e 21 = .ok (.invokestatic 498, 3) := by decide +kernel
theorem dj_chr_24 : decode cJ0_charAt_5068e 24 = .ok (.ireturn, 1) := by decide +kernel
theorem dj_chr1_0 : decode cJ1_charAt_3b067 0 = .ok (.iload_n 1, 1) := by decide +kernel
theorem dj_chr1_1 : decode cJ1_charAt_3b067 1 = .ok (.aload_n 0, 1) := by decide +kernel
theorem dj_chr1_2 : decode cJ1_charAt_3b067 2 = .ok (.arraylength, 1) := by decide +kernel
theorem dj_chr1_3 : decode cJ1_charAt_3b067 3 = .ok (.invokestatic 9, 3) := by decide +kernel
theorem dj_chr1_6 : decode cJ1_charAt_3b067 6 = .ok (.aload_n 0, 1) := by decide +kernel
theorem dj_chr1_7 : decode cJ1_charAt_3b067 7 = .ok (.iload_n 1, 1) := by decide +kernel
theorem dj_chr1_8 : decode cJ1_charAt_3b067 8 = .ok (.baload, 1) := by decide +kernel
theorem dj_chr1_9 : decode cJ1_charAt_3b067 9 = .ok (.sipush 255, 3) := by decide +kernel
theorem dj_chr1_12 : decode cJ1_charAt_3b067 12 = .ok (.iand, 1) := by decide +kernel
theorem dj_chr1_13 : decode cJ1_charAt_3b067 13 = .ok (.i2c, 1) := by decide +kernel
theorem dj_chr1_14 : decode cJ1_charAt_3b067 14 = .ok (.ireturn, 1) := by decide +kernel
theorem dj_chk_0 : decode cJ0_checkIndex_df160 0 = .ok (.iload_n 0, 1) := by decide +kernel
theorem dj_chk_1 : decode cJ0_checkIndex_df160 1 = .ok (.iload_n 1, 1) := by decide +kernel
theorem dj_chk_2 : decode cJ0_checkIndex_df160 2 = .ok (.getstatic 1053, 3) := by decide +kernel
theorem dj_chk_5 : decode cJ0_checkIndex_df160 5 = .ok (.invokestatic 1059, 3) := by decide +kernel
theorem dj_chk_8 : decode cJ0_checkIndex_df160 8 = .ok (.pop, 1) := by decide +kernel
theorem dj_chk_9 : decode cJ0_checkIndex_df160 9 = .ok (.return_, 1) := by decide +kernel
theorem dj_chk3_0 : decode cJ3_checkIndex_8e157 0 = .ok (.iload_n 0, 1) := by decide +kernel
theorem dj_chk3_1 : decode cJ3_checkIndex_8e157 1 = .ok (.ifCond .lt 8, 3) := by decide +kernel
theorem dj_chk3_4 : decode cJ3_checkIndex_8e157 4 = .ok (.iload_n 0, 1) := by decide +kernel
theorem dj_chk3_5 : decode cJ3_checkIndex_8e157 5 = .ok (.iload_n 1, 1) := by decide +kernel
theorem dj_chk3_6 : decode cJ3_checkIndex_8e157 6 = .ok (.if_icmp .lt 10, 3) := by decide +kernel
theorem dj_chk3_9 : decode cJ3_checkIndex_8e157 9 = .ok (.aload_n 2, 1) := by decide +kernel
theorem dj_chk3_10 : decode cJ3_checkIndex_8e157 10 = .ok (.iload_n 0, 1) := by decide +kernel
theorem dj_chk3_11 : decode cJ3_checkIndex_8e157 11 = .ok (.iload_n 1, 1) := by decide +kernel
theorem dj_chk3_12 : decode cJ3_checkIndex_8e157 12 = .ok (.invokestatic 95, 3) := by decide +kernel
theorem dj_chk3_15 : decode cJ3_checkIndex_8e157 15 = .ok (.athrow, 1) := by decide +kernel
theorem dj_chk3_16 : decode cJ3_checkIndex_8e157 16 = .ok (.iload_n 0, 1) := by decide +kernel
theorem dj_chk3_17 : decode cJ3_checkIndex_8e157 17 = .ok (.ireturn, 1) := by decide +kernel
/-- the JDK's own methods over the literals: a contract at one start, nothing changed -/
def MetJ (E : EnvT) (h : Nat) (y : MethodName) (cd : ByteArray) (n : Nat) (ret : Option FieldType) (vs : List Value) (σ : Mem) (v : Option Value) : Prop := ∀ l : Launch, Met l y (.code y cd n ret :: ALLg) (rmH h) (va_Pc vs (fun U => Rel E σ U.heap ∧ va_K (eD E) vwCl (tysL E) U ∧ EnvOK E U U.heap)) (fun _ st oc t => oc = .returned v ∧ Rel E σ t.heap ∧ va_F (eA E) st t) 0 0 (eA E)
def ActJ (E : EnvT) (own : String) (cc : ByteArray) (nL h : Nat) (p : Program) (R : Room) (s : State) (m : MethodId) (args : Array Value) (c : Code) (cells slots : Nat) : Prop :=
  p.tables.exec = Jvm.exec ∧ c.code = cc ∧ c.maxLocals = nL ∧ s.vm.findClass own = some m.cls ∧ (∀ w ∈ ALLg, w.before args s = true) ∧ va_K (eD E) vwCl (tysL E) s ∧ EnvOK E s s.heap ∧ h ≤ R.frames ∧ 40 * h ≤ R.locals ∧ cells ≤ R.cells ∧ slots ≤ R.slots
section JD
variable {p : Program} {l : Launch} {e : Env} {R : Room} {s : State} {m : MethodId} {args : Array Value} {below : List Frame} {meth : Method} {c : Code} {cells slots : Nat} {Q : State → Prop} {H : Heap} {locs : List Loc}
variable {E : EnvT} {h pc : Nat} {σ : Mem} {own : String} {cc : ByteArray} {nL : Nat} {ls : Array Slot}
theorem jcallV {y : MethodName} {cd : ByteArray} {n nn h' idx b : Nat} {ret : Option FieldType} {As rest : List Value} {v : Option Value} (A : ActJ E own cc nL h p R s m args c cells slots) (hR : Rel E σ H) (hS : va_S (eA E) s.heap H locs) (hls : ls.size = nL) (hM : MetJ E h' y cd n ret (.ref b :: As) σ v) (hrecv : ∃ cellB : Cell, H[b]? = some cellB ∧ cellB.vm.isStatics = false ∧ s.vm.findClass y.cls = some cellB.cls)
    (hw : Cond.methodLink own idx y ∈ ALLg) (w1 : Cond.code y cd n ret ∈ ALLg) (w2 : Cond.initialized y.cls ∈ ALLg) (w3 : Cond.instanceMethod y ∈ ALLg) (w4 : Cond.selects y.cls y y ∈ ALLg) (hy : y.cls ≠ "java/lang/invoke/MethodHandle" ∧ y.cls ≠ "java/lang/invoke/VarHandle" ∧ (parseMethodDescriptor y.desc).map (fun d => d.parameters.length) = some nn) (hn : As.length = nn) (hnL : n ≤ 21) (hh : h' + 1 ≤ h) (hcat : (rest.map fun v => v.category).sum ≤ 8) (hd : decode cc pc = .ok (.invokevirtual idx, 3))
    (kk : ∀ (H1 : Heap) (locs1 : List Loc), Rel E σ H1 → va_S (eA E) s.heap H1 locs1 → W p l e R s m args below meth c H1 locs1 cells slots Q (F0 m (pc + 3) ls (v.toList ++ rest))) : W p l e R s m args below meth c H locs cells slots Q (F0 m pc ls (As.reverse ++ .ref b :: rest)) := by
  have h1 := A.2.2.2.2.2.2.2.1
  have h2 := A.2.2.2.2.2.2.2.2.1
  refine my_call (va_runV (C := y.cls) (n := nn) ⟨A.1, A.2.1, A.2.2.1, A.2.2.2.1, A.2.2.2.2.1⟩ (hM l) (cwV nn A.2.2.2.2.1 (GoodIn_all ?_) rfl rfl rfl ⟨rfl, hy.1, hy.2.1, hy.2.2⟩ ⟨by show h' + 1 ≤ R.frames; omega, by show 8 + (n + 11) + 40 * h' ≤ R.locals; omega⟩) ⟨pc_blind, hrecv, ?_⟩ rfl hn hls rfl (lv_room hcat) hd ⟨A.2.2.2.2.2.2.2.2.2.1, A.2.2.2.2.2.2.2.2.2.2⟩) hS kk
  · intro w hw1
    unfold wsV at hw1
    rcases List.mem_append.mp hw1 with q | q
    · simp only [List.mem_cons, List.not_mem_nil, or_false] at q
      rcases q with rfl | rfl | rfl | rfl
      · exact hw
      · exact w3
      · exact w4
      · exact w2
    · rcases List.mem_cons.mp q with rfl | q
      · exact w1
      · exact q
  · intro U hU hW
    exact ⟨rfl, by rw [hU]; exact hR, va_K.moved hW.alike A.2.2.2.2.2.1, by rw [hU]; exact ((A.2.2.2.2.2.2.1.kp hS).mv hW.alike (fun _ _ _ _ => vk_R.warm hW))⟩
theorem jcallS {y : MethodName} {cd : ByteArray} {n nn h' idx : Nat} {ret : Option FieldType} {As rest : List Value} {v : Option Value} (A : ActJ E own cc nL h p R s m args c cells slots) (hR : Rel E σ H) (hS : va_S (eA E) s.heap H locs) (hls : ls.size = nL) (hM : MetJ E h' y cd n ret As σ v)
    (hw : Cond.methodLink own idx y ∈ ALLg) (w1 : Cond.code y cd n ret ∈ ALLg) (w2 : Cond.initialized y.cls ∈ ALLg) (w3 : Cond.static y ∈ ALLg) (hy : y.cls ≠ "java/lang/invoke/MethodHandle" ∧ y.cls ≠ "java/lang/invoke/VarHandle" ∧ (parseMethodDescriptor y.desc).map (fun d => d.parameters.length) = some nn) (hn : As.length = nn) (hnL : n ≤ 21) (hh : h' + 1 ≤ h) (hcat : (rest.map fun v => v.category).sum ≤ 8) (hd : decode cc pc = .ok (.invokestatic idx, 3))
    (kk : ∀ (H1 : Heap) (locs1 : List Loc), Rel E σ H1 → va_S (eA E) s.heap H1 locs1 → W p l e R s m args below meth c H1 locs1 cells slots Q (F0 m (pc + 3) ls (v.toList ++ rest))) : W p l e R s m args below meth c H locs cells slots Q (F0 m pc ls (As.reverse ++ rest)) := by
  have h1 := A.2.2.2.2.2.2.2.1
  have h2 := A.2.2.2.2.2.2.2.2.1
  refine my_call (va_runS (n := nn) ⟨A.1, A.2.1, A.2.2.1, A.2.2.2.1, A.2.2.2.2.1⟩ (hM l) (va_cwS nn A.2.2.2.2.1 (GoodIn_all ?_) rfl rfl rfl ⟨hy.1, hy.2.1, hy.2.2⟩ ⟨by show h' + 1 ≤ R.frames; omega, by show 8 + (n + 11) + 40 * h' ≤ R.locals; omega⟩) ⟨pc_blind, ?_⟩ rfl hn hls rfl (lv_room hcat) hd ⟨A.2.2.2.2.2.2.2.2.2.1, A.2.2.2.2.2.2.2.2.2.2⟩) hS kk
  · intro w hw1
    unfold va_wsS at hw1
    rcases List.mem_append.mp hw1 with q | q
    · simp only [List.mem_cons, List.not_mem_nil, or_false] at q
      rcases q with rfl | rfl | rfl
      · exact hw
      · exact w3
      · exact w2
    · rcases List.mem_cons.mp q with rfl | q
      · exact w1
      · exact q
  · intro U hU hW
    exact ⟨rfl, by rw [hU]; exact hR, va_K.moved hW.alike A.2.2.2.2.2.1, by rw [hU]; exact ((A.2.2.2.2.2.2.1.kp hS).mv hW.alike (fun _ _ _ _ => vk_R.warm hW))⟩
end JD
theorem cj_cod {E : EnvT} {σ : Mem} {i : Nat} (hi : i < 7) : MetJ E 1 yJ0_coder_7d493 cJ0_coder_7d493 1 (some .byte) [.ref (eK E i)] σ (some (.int 0)) := by
  intro l
  refine Met.ofW (cc := cJ0_coder_7d493) (maxL := 1) (ret := (some .byte)) (by decide +kernel) rfl ?_
  intro p e s m args below meth c s₁ B hml hpc
  obtain ⟨rfl, hR, hK, hE⟩ := hpc
  have hts0 := atoms_spec (ws := Cond.code yJ0_coder_7d493 cJ0_coder_7d493 1 (some .byte) :: ALLg) B.pre
  have A : ActJ E (yJ0_coder_7d493).cls cJ0_coder_7d493 1 1 p (headSpec (Cond.code yJ0_coder_7d493 cJ0_coder_7d493 1 (some .byte) :: ALLg) (rmH 1)).room s m ([.ref (eK E i)] : List Value).toArray c 0 0 := ⟨B.exec, B.bytes, hml, findClass_of_methodNamed B.named, fun w hw => hts0 w (List.mem_cons_of_mem _ hw), hK, hE, Nat.le_refl _, Nat.le_refl _, Nat.zero_le _, Nat.zero_le _⟩
  have hlocks := B.notSynchronized
  have hr := B.returns
  have hx := A.1
  have hb := A.2.1
  have hts := A.2.2.2.2.1
  have hown : s.vm.findClass "java/lang/String" = some m.cls := A.2.2.2.1
  have hl := lv_entry [.ref (eK E i)] (n := 1) (Nat.le_of_ble_eq_true rfl)
  rw [lg_entry_eq]
  generalize (lg_sl [.ref (eK E i)] ++ List.replicate (1 - (lg_sl [.ref (eK E i)]).length) Slot.unset).toArray = ls at hl ⊢
  have hS : va_S (eA E) s.heap s.heap [] := va_S.rf
  refine va_gets hx hb hE.2.2.2.2.2.2.1 hS hown (hts _ (ch3 93 rfl rfl)) (fun _ z => z) dj_cod_0 ?_
  refine lv_if_eq (tgt := 13) hx hb dj_cod_3 (by decide) (fun q => absurd q (by decide)) (fun _ => ?_)
  refine lv_aload_n hx hb dj_cod_6 rfl (lv_at hl 0 rfl) ?_
  refine vk_getf hx hb (hE.2.2.2.2.1.1 i hi).2.1 hS hown (hts _ (ch8 61 rfl rfl)) (fun _ z => z) dj_cod_7 ?_
  refine lv_goto (tgt := 14) hx hb dj_cod_10 (by decide) ?_
  exact W.zret hx hb hr (by decide) (fun t ht _ => ⟨rfl, by rw [ht]; exact hR, hS.F ht⟩) hS.2.2 dj_cod_14 hlocks
theorem cj_lat {E : EnvT} {σ : Mem} {i : Nat} (hi : i < 7) : MetJ E 1 yJ0_isLatin1_aae02 cJ0_isLatin1_aae02 1 (some .boolean) [.ref (eK E i)] σ (some (.int 1)) := by
  intro l
  refine Met.ofW (cc := cJ0_isLatin1_aae02) (maxL := 1) (ret := (some .boolean)) (by decide +kernel) rfl ?_
  intro p e s m args below meth c s₁ B hml hpc
  obtain ⟨rfl, hR, hK, hE⟩ := hpc
  have hts0 := atoms_spec (ws := Cond.code yJ0_isLatin1_aae02 cJ0_isLatin1_aae02 1 (some .boolean) :: ALLg) B.pre
  have A : ActJ E (yJ0_isLatin1_aae02).cls cJ0_isLatin1_aae02 1 1 p (headSpec (Cond.code yJ0_isLatin1_aae02 cJ0_isLatin1_aae02 1 (some .boolean) :: ALLg) (rmH 1)).room s m ([.ref (eK E i)] : List Value).toArray c 0 0 := ⟨B.exec, B.bytes, hml, findClass_of_methodNamed B.named, fun w hw => hts0 w (List.mem_cons_of_mem _ hw), hK, hE, Nat.le_refl _, Nat.le_refl _, Nat.zero_le _, Nat.zero_le _⟩
  have hlocks := B.notSynchronized
  have hr := B.returns
  have hx := A.1
  have hb := A.2.1
  have hts := A.2.2.2.2.1
  have hown : s.vm.findClass "java/lang/String" = some m.cls := A.2.2.2.1
  have hl := lv_entry [.ref (eK E i)] (n := 1) (Nat.le_of_ble_eq_true rfl)
  rw [lg_entry_eq]
  generalize (lg_sl [.ref (eK E i)] ++ List.replicate (1 - (lg_sl [.ref (eK E i)]).length) Slot.unset).toArray = ls at hl ⊢
  have hS : va_S (eA E) s.heap s.heap [] := va_S.rf
  refine va_gets hx hb hE.2.2.2.2.2.2.1 hS hown (hts _ (ch3 93 rfl rfl)) (fun _ z => z) dj_lat_0 ?_
  refine lv_if_eq (tgt := 17) hx hb dj_lat_3 (by decide) (fun q => absurd q (by decide)) (fun _ => ?_)
  refine lv_aload_n hx hb dj_lat_6 rfl (lv_at hl 0 rfl) ?_
  refine vk_getf hx hb (hE.2.2.2.2.1.1 i hi).2.1 hS hown (hts _ (ch8 61 rfl rfl)) (fun _ z => z) dj_lat_7 ?_
  refine lv_if_ne (tgt := 17) hx hb dj_lat_10 (by decide) (fun q => absurd rfl q) (fun _ => ?_)
  refine lv_iconst (v := 1) hx hb dj_lat_13 (by decide) ?_
  refine lv_goto (tgt := 18) hx hb dj_lat_14 (by decide) ?_
  exact W.zret hx hb hr (by decide) (fun t ht _ => ⟨rfl, by rw [ht]; exact hR, hS.F ht⟩) hS.2.2 dj_lat_18 hlocks
theorem len_ok : ∀ i, i < 7 → lenS.getD i 0 < 100 ∧ nI (lenS.getD i 0) >>> ((0 : Int32) &&& 31) = nI (lenS.getD i 0) := by decide +kernel
theorem byt_ok : ∀ i, i < 7 → ∀ j, j < lenS.getD i 0 → narrow .char (.int ((bytS.getD i []).getD j 0)) = .int ((bytS.getD i []).getD j 0) ∧ ((((bytS.getD i []).getD j 0) &&& 255).toUInt32.toUInt16.toUInt32.toInt32) = (bytS.getD i []).getD j 0 := by decide +kernel
theorem cj_len {E : EnvT} {σ : Mem} {i : Nat} (hi : i < 7) : MetJ E 2 yJ0_length_8abf5 cJ0_length_8abf5 1 (some .int) [.ref (eK E i)] σ (some (.int (nI (lenS.getD i 0)))) := by
  intro l
  refine Met.ofW (cc := cJ0_length_8abf5) (maxL := 1) (ret := (some .int)) (by decide +kernel) rfl ?_
  intro p e s m args below meth c s₁ B hml hpc
  obtain ⟨rfl, hR, hK, hE⟩ := hpc
  have hts0 := atoms_spec (ws := Cond.code yJ0_length_8abf5 cJ0_length_8abf5 1 (some .int) :: ALLg) B.pre
  have A : ActJ E (yJ0_length_8abf5).cls cJ0_length_8abf5 1 2 p (headSpec (Cond.code yJ0_length_8abf5 cJ0_length_8abf5 1 (some .int) :: ALLg) (rmH 2)).room s m ([.ref (eK E i)] : List Value).toArray c 0 0 := ⟨B.exec, B.bytes, hml, findClass_of_methodNamed B.named, fun w hw => hts0 w (List.mem_cons_of_mem _ hw), hK, hE, Nat.le_refl _, Nat.le_refl _, Nat.zero_le _, Nat.zero_le _⟩
  have hlocks := B.notSynchronized
  have hr := B.returns
  have hx := A.1
  have hb := A.2.1
  have hts := A.2.2.2.2.1
  have hown : s.vm.findClass "java/lang/String" = some m.cls := A.2.2.2.1
  have hl := lv_entry [.ref (eK E i)] (n := 1) (Nat.le_of_ble_eq_true rfl)
  rw [lg_entry_eq]
  generalize (lg_sl [.ref (eK E i)] ++ List.replicate (1 - (lg_sl [.ref (eK E i)]).length) Slot.unset).toArray = ls at hl ⊢
  have hS : va_S (eA E) s.heap s.heap [] := va_S.rf
  refine lv_aload_n hx hb dj_len_0 rfl (lv_at hl 0 rfl) ?_
  refine vk_getf hx hb (hE.2.2.2.2.1.1 i hi).2.2.1 hS hown (hts _ (ch8 60 rfl rfl)) (fun _ z => z) dj_len_1 ?_
  refine va_tlen hx hb (hE.2.2.2.2.1.1 i hi).2.2.2 hS rfl dj_len_4 ?_
  refine lv_aload_n hx hb dj_len_5 rfl (lv_at hl 0 rfl) ?_
  refine jcallV (As := []) (rest := [.int (Int32.ofNat (lenS.getD i 0))]) (nn := 0) A hR hS hl.1 (cj_cod hi) (vk_recv hE.2.2.2.2.1 hi hS) (ch3 89 rfl rfl) (ch3 92 rfl rfl) (ch1 14 rfl rfl) (ch3 90 rfl rfl) (ch3 91 rfl rfl) ⟨by decide +kernel, by decide +kernel, by decide +kernel⟩ rfl (by decide) (by decide) (Nat.le_of_ble_eq_true rfl) dj_len_6 (fun H1 locs1 hR hS => ?_)
  refine lv_ishr hx hb dj_len_9 ?_
  have e := (len_ok i hi).2
  unfold nI at e
  rw [e]
  exact W.iret hx hb hr (fun t ht _ => ⟨rfl, by rw [ht]; exact hR, hS.F ht⟩) hS.2.2 dj_len_10 hlocks
theorem lg3 {j n : Int32} {q : Value} (hq : q.category = 1) : (lg_sl [Value.int j, Value.int n, q]).length ≤ 3 := by
  have e1 : (Value.int j).category = 1 := rfl
  have e2 : (Value.int n).category = 1 := rfl
  simp [lg_sl, e1, e2, hq]
theorem cj_chk3 {E : EnvT} {σ : Mem} {j n : Int32} {q : Value} (hq : q.category = 1) (h0 : ¬ j < 0) (h1 : j < n) : MetJ E 0 yJ3_checkIndex_8e157 cJ3_checkIndex_8e157 3 (some .int) [.int j, .int n, q] σ (some (.int j)) := by
  intro l
  refine Met.ofW (cc := cJ3_checkIndex_8e157) (maxL := 3) (ret := (some .int)) (by decide +kernel) rfl ?_
  intro p e s m args below meth c s₁ B hml hpc
  obtain ⟨rfl, hR, hK, hE⟩ := hpc
  have hts0 := atoms_spec (ws := Cond.code yJ3_checkIndex_8e157 cJ3_checkIndex_8e157 3 (some .int) :: ALLg) B.pre
  have A : ActJ E (yJ3_checkIndex_8e157).cls cJ3_checkIndex_8e157 3 0 p (headSpec (Cond.code yJ3_checkIndex_8e157 cJ3_checkIndex_8e157 3 (some .int) :: ALLg) (rmH 0)).room s m ([.int j, .int n, q] : List Value).toArray c 0 0 := ⟨B.exec, B.bytes, hml, findClass_of_methodNamed B.named, fun w hw => hts0 w (List.mem_cons_of_mem _ hw), hK, hE, Nat.le_refl _, Nat.le_refl _, Nat.zero_le _, Nat.zero_le _⟩
  have hlocks := B.notSynchronized
  have hr := B.returns
  have hx := A.1
  have hb := A.2.1
  have hts := A.2.2.2.2.1
  have hown : s.vm.findClass "jdk/internal/util/Preconditions" = some m.cls := A.2.2.2.1
  have hl := lv_entry [.int j, .int n, q] (n := 3) (lg3 hq)
  rw [lg_entry_eq]
  generalize (lg_sl [.int j, .int n, q] ++ List.replicate (3 - (lg_sl [.int j, .int n, q]).length) Slot.unset).toArray = ls at hl ⊢
  have hS : va_S (eA E) s.heap s.heap [] := va_S.rf
  refine lv_iload_n hx hb dj_chk3_0 rfl (lv_at hl 0 rfl) ?_
  refine lv_if_lt (tgt := 9) hx hb dj_chk3_1 (by decide) (fun q => absurd q h0) (fun _ => ?_)
  refine lv_iload_n hx hb dj_chk3_4 rfl (lv_at hl 0 rfl) ?_
  refine lv_iload_n hx hb dj_chk3_5 rfl (lv_at hl 1 rfl) ?_
  refine lv_icmp_lt (tgt := 16) hx hb dj_chk3_6 (by decide) (fun _ => ?_) (fun q => absurd h1 q)
  refine lv_iload_n hx hb dj_chk3_16 rfl (lv_at hl 0 rfl) ?_
  exact W.iret hx hb hr (fun t ht _ => ⟨rfl, by rw [ht]; exact hR, hS.F ht⟩) hS.2.2 dj_chk3_17 hlocks
theorem cj_chk {E : EnvT} {σ : Mem} {j n : Int32} (h0 : ¬ j < 0) (h1 : j < n) : MetJ E 1 yJ0_checkIndex_df160 cJ0_checkIndex_df160 2 none [.int j, .int n] σ none := by
  intro l
  refine Met.ofW (cc := cJ0_checkIndex_df160) (maxL := 2) (ret := none) (by decide +kernel) rfl ?_
  intro p e s m args below meth c s₁ B hml hpc
  obtain ⟨rfl, hR, hK, hE⟩ := hpc
  have hts0 := atoms_spec (ws := Cond.code yJ0_checkIndex_df160 cJ0_checkIndex_df160 2 none :: ALLg) B.pre
  have A : ActJ E (yJ0_checkIndex_df160).cls cJ0_checkIndex_df160 2 1 p (headSpec (Cond.code yJ0_checkIndex_df160 cJ0_checkIndex_df160 2 none :: ALLg) (rmH 1)).room s m ([.int j, .int n] : List Value).toArray c 0 0 := ⟨B.exec, B.bytes, hml, findClass_of_methodNamed B.named, fun w hw => hts0 w (List.mem_cons_of_mem _ hw), hK, hE, Nat.le_refl _, Nat.le_refl _, Nat.zero_le _, Nat.zero_le _⟩
  have hlocks := B.notSynchronized
  have hr := B.returns
  have hx := A.1
  have hb := A.2.1
  have hts := A.2.2.2.2.1
  have hown : s.vm.findClass "java/lang/String" = some m.cls := A.2.2.2.1
  have hl := lv_entry [.int j, .int n] (n := 2) (Nat.le_of_ble_eq_true rfl)
  rw [lg_entry_eq]
  generalize (lg_sl [.int j, .int n] ++ List.replicate (2 - (lg_sl [.int j, .int n]).length) Slot.unset).toArray = ls at hl ⊢
  have hS : va_S (eA E) s.heap s.heap [] := va_S.rf
  refine lv_iload_n hx hb dj_chk_0 rfl (lv_at hl 0 rfl) ?_
  refine lv_iload_n hx hb dj_chk_1 rfl (lv_at hl 1 rfl) ?_
  have goal : ∀ q : Value, q.category = 1 → (lg_sl [Value.int j, .int n, q]).length ≤ 3 → W p l e (headSpec (Cond.code yJ0_checkIndex_df160 cJ0_checkIndex_df160 2 none :: ALLg) (rmH 1)).room s m ([.int j, .int n] : List Value).toArray below meth c s.heap [] 0 0 (MQ below (fun _ st oc t => oc = .returned none ∧ Rel E σ t.heap ∧ va_F (eA E) st t) ([.int j, .int n] : List Value).toArray s 0 0 (eA E)) (F0 m 5 ls [q, .int n, .int j]) := by
    intro q hq1 hq2
    refine jcallS (As := [.int j, .int n, q]) (rest := []) (nn := 3) A hR hS hl.1 (cj_chk3 (q := q) hq1 h0 h1) (ch3 111 rfl rfl) (ch3 113 rfl rfl) (ch1 16 rfl rfl) (ch3 112 rfl rfl) ⟨by decide +kernel, by decide +kernel, by decide +kernel⟩ rfl (by decide) (by decide) (Nat.le_of_ble_eq_true rfl) dj_chk_5 (fun H1 locs1 hR hS => ?_)
    refine lv_pop hx hb dj_chk_8 rfl ?_
    exact W.vret hx hb hr (fun t ht _ => ⟨rfl, by rw [ht]; exact hR, hS.F ht⟩) hS.2.2 dj_chk_9 hlocks
  rcases hE.2.2.2.2.2.2.2 with hZ | ⟨t, hZ⟩
  · exact va_gets hx hb hZ hS hown (hts _ (ch3 109 rfl rfl)) (fun _ z => z) dj_chk_2 (goal .null rfl (Nat.le_of_ble_eq_true rfl))
  · exact va_gets hx hb hZ hS hown (hts _ (ch3 109 rfl rfl)) (fun _ z => z) dj_chk_2 (goal (.ref t) rfl (Nat.le_of_ble_eq_true rfl))
theorem cj_chr1 {E : EnvT} {σ : Mem} {i : Nat} {j : Int32} (hi : i < 7) (hj : vp_in j (lenS.getD i 0)) : MetJ E 2 yJ1_charAt_3b067 cJ1_charAt_3b067 2 (some .char) [.ref (eV E i), .int j] σ (some (.int ((bytS.getD i []).getD j.toNatClampNeg 0))) := by
  intro l
  refine Met.ofW (cc := cJ1_charAt_3b067) (maxL := 2) (ret := (some .char)) (by decide +kernel) rfl ?_
  intro p e s m args below meth c s₁ B hml hpc
  obtain ⟨rfl, hR, hK, hE⟩ := hpc
  have hts0 := atoms_spec (ws := Cond.code yJ1_charAt_3b067 cJ1_charAt_3b067 2 (some .char) :: ALLg) B.pre
  have A : ActJ E (yJ1_charAt_3b067).cls cJ1_charAt_3b067 2 2 p (headSpec (Cond.code yJ1_charAt_3b067 cJ1_charAt_3b067 2 (some .char) :: ALLg) (rmH 2)).room s m ([.ref (eV E i), .int j] : List Value).toArray c 0 0 := ⟨B.exec, B.bytes, hml, findClass_of_methodNamed B.named, fun w hw => hts0 w (List.mem_cons_of_mem _ hw), hK, hE, Nat.le_refl _, Nat.le_refl _, Nat.zero_le _, Nat.zero_le _⟩
  have hlocks := B.notSynchronized
  have hr := B.returns
  have hx := A.1
  have hb := A.2.1
  have hts := A.2.2.2.2.1
  have hown : s.vm.findClass "java/lang/StringLatin1" = some m.cls := A.2.2.2.1
  have hl := lv_entry [.ref (eV E i), .int j] (n := 2) (Nat.le_of_ble_eq_true rfl)
  rw [lg_entry_eq]
  generalize (lg_sl [.ref (eV E i), .int j] ++ List.replicate (2 - (lg_sl [.ref (eV E i), .int j]).length) Slot.unset).toArray = ls at hl ⊢
  have hS : va_S (eA E) s.heap s.heap [] := va_S.rf
  have hlt : j.toNatClampNeg < lenS.getD i 0 := Nat.not_le.mp fun q => hj (Or.inr q)
  have h100 := (len_ok i hi).1
  have h0 : ¬ j < 0 := fun q => hj (Or.inl q)
  have h1 : j < Int32.ofNat (lenS.getD i 0) := by
    obtain ⟨k, hk, rfl⟩ := vp_in_of hj (by omega)
    exact nI_lt hk (by omega)
  refine lv_iload_n hx hb dj_chr1_0 rfl (lv_at hl 1 rfl) ?_
  refine lv_aload_n hx hb dj_chr1_1 rfl (lv_at hl 0 rfl) ?_
  refine va_tlen hx hb (hE.2.2.2.2.1.1 i hi).2.2.2 hS rfl dj_chr1_2 ?_
  refine jcallS (As := [.int j, .int (Int32.ofNat (lenS.getD i 0))]) (rest := []) (nn := 2) A hR hS hl.1 (cj_chk h0 h1) (ch3 106 rfl rfl) (ch3 108 rfl rfl) (ch1 14 rfl rfl) (ch3 107 rfl rfl) ⟨by decide +kernel, by decide +kernel, by decide +kernel⟩ rfl (by decide) (by decide) (Nat.le_of_ble_eq_true rfl) dj_chr1_3 (fun H1 locs1 hR hS => ?_)
  refine lv_aload_n hx hb dj_chr1_6 rfl (lv_at hl 0 rfl) ?_
  refine lv_iload_n hx hb dj_chr1_7 rfl (lv_at hl 1 rfl) ?_
  refine va_tb hx hb (hE.2.2.2.2.1.1 i hi).2.2.2 hS hj rfl dj_chr1_8 ?_
  refine lv_sipush (v := 255) hx hb dj_chr1_9 (by decide) ?_
  refine lv_iand hx hb dj_chr1_12 ?_
  have hbo := byt_ok i hi _ hlt
  refine lv_i2c hx hb dj_chr1_13 hbo.2 ?_
  exact W.zret hx hb hr hbo.1 (fun t ht _ => ⟨rfl, by rw [ht]; exact hR, hS.F ht⟩) hS.2.2 dj_chr1_14 hlocks
theorem cj_chr {E : EnvT} {σ : Mem} {i : Nat} {j : Int32} (hi : i < 7) (hj : vp_in j (lenS.getD i 0)) : MetJ E 3 yJ0_charAt_5068e cJ0_charAt_5068e 2 (some .char) [.ref (eK E i), .int j] σ (some (.int ((bytS.getD i []).getD j.toNatClampNeg 0))) := by
  intro l
  refine Met.ofW (cc := cJ0_charAt_5068e) (maxL := 2) (ret := (some .char)) (by decide +kernel) rfl ?_
  intro p e s m args below meth c s₁ B hml hpc
  obtain ⟨rfl, hR, hK, hE⟩ := hpc
  have hts0 := atoms_spec (ws := Cond.code yJ0_charAt_5068e cJ0_charAt_5068e 2 (some .char) :: ALLg) B.pre
  have A : ActJ E (yJ0_charAt_5068e).cls cJ0_charAt_5068e 2 3 p (headSpec (Cond.code yJ0_charAt_5068e cJ0_charAt_5068e 2 (some .char) :: ALLg) (rmH 3)).room s m ([.ref (eK E i), .int j] : List Value).toArray c 0 0 := ⟨B.exec, B.bytes, hml, findClass_of_methodNamed B.named, fun w hw => hts0 w (List.mem_cons_of_mem _ hw), hK, hE, Nat.le_refl _, Nat.le_refl _, Nat.zero_le _, Nat.zero_le _⟩
  have hlocks := B.notSynchronized
  have hr := B.returns
  have hx := A.1
  have hb := A.2.1
  have hts := A.2.2.2.2.1
  have hown : s.vm.findClass "java/lang/String" = some m.cls := A.2.2.2.1
  have hl := lv_entry [.ref (eK E i), .int j] (n := 2) (Nat.le_of_ble_eq_true rfl)
  rw [lg_entry_eq]
  generalize (lg_sl [.ref (eK E i), .int j] ++ List.replicate (2 - (lg_sl [.ref (eK E i), .int j]).length) Slot.unset).toArray = ls at hl ⊢
  have hS : va_S (eA E) s.heap s.heap [] := va_S.rf
  have hlt : j.toNatClampNeg < lenS.getD i 0 := Nat.not_le.mp fun q => hj (Or.inr q)
  refine lv_aload_n hx hb dj_chr_0 rfl (lv_at hl 0 rfl) ?_
  refine jcallV (As := []) (rest := []) (nn := 0) A hR hS hl.1 (cj_lat hi) (vk_recv hE.2.2.2.2.1 hi hS) (ch3 99 rfl rfl) (ch3 102 rfl rfl) (ch1 14 rfl rfl) (ch3 100 rfl rfl) (ch3 101 rfl rfl) ⟨by decide +kernel, by decide +kernel, by decide +kernel⟩ rfl (by decide) (by decide) (Nat.le_of_ble_eq_true rfl) dj_chr_1 (fun H1 locs1 hR hS => ?_)
  refine lv_if_eq (tgt := 16) hx hb dj_chr_4 (by decide) (fun q => absurd q (by decide)) (fun _ => ?_)
  refine lv_aload_n hx hb dj_chr_7 rfl (lv_at hl 0 rfl) ?_
  refine vk_getf hx hb (hE.2.2.2.2.1.1 i hi).2.2.1 hS hown (hts _ (ch8 60 rfl rfl)) (fun _ z => z) dj_chr_8 ?_
  refine lv_iload_n hx hb dj_chr_11 rfl (lv_at hl 1 rfl) ?_
  refine jcallS (As := [.ref (eV E i), .int j]) (rest := []) (nn := 2) A hR hS hl.1 (cj_chr1 hi hj) (ch3 103 rfl rfl) (ch3 105 rfl rfl) (ch1 15 rfl rfl) (ch3 104 rfl rfl) ⟨by decide +kernel, by decide +kernel, by decide +kernel⟩ rfl (by decide) (by decide) (Nat.le_of_ble_eq_true rfl) dj_chr_12 (fun H1 locs1 hR hS => ?_)
  exact W.zret hx hb hr (byt_ok i hi _ hlt).1 (fun t ht _ => ⟨rfl, by rw [ht]; exact hR, hS.F ht⟩) hS.2.2 dj_chr_15 hlocks
section JE
variable {p : Program} {l : Launch} {e : Env} {R : Room} {s : State} {m : MethodId} {args : Array Value} {below : List Frame} {meth : Method} {c : Code} {cells slots : Nat} {Q : State → Prop}
variable {E : EnvT} {mi h : Nat}
theorem wk61 {a : Nat} (h : wk (.ref a, 61)) : a < 7 := by
  rcases h with q | q | q | q
  · omega
  · exact q.2
  · omega
  · exact absurd rfl q.2.2.1
theorem conc61 (a : Nat) : conc E (.ref a, 61) = .ref (eK E a) := rfl
theorem ws_strL (A : Act E mi h p R s m args c cells slots) {pc n a : Nat} {lv : LVs} {st : List AV} {σ : Mem} (hd : decode (mCd mi) pc = .ok (.invokevirtual n, 3)) (hw : Cond.methodLink (mOw mi) n yJ0_length_8abf5 ∈ ALLg) (hcat : catS st ≤ 8) (h4 : 4 ≤ h) (k : WG E mi p l e R s m args below meth c cells slots Q (pc + 3) lv ((.int (nI (lenS.getD a 0)), 0) :: st) σ) : WG E mi p l e R s m args below meth c cells slots Q pc lv ((.ref a, 61) :: st) σ := by
  intro hs hl H locs ls hR hS hlo
  have hi := wk61 (wkS_hd hs)
  have AJ : ActJ E (mOw mi) (mCd mi) (mML mi) h p R s m args c cells slots := A
  exact jcallV (As := []) (rest := st.map (conc E)) (nn := 0) (h' := 2) AJ hR hS hlo.2.1 (cj_len hi) (vk_recv A.2.2.2.2.2.2.1.2.2.2.2.1 hi hS) hw (ch3 88 rfl rfl) (ch1 14 rfl rfl) (ch3 86 rfl rfl) (ch3 87 rfl rfl) ⟨by decide +kernel, by decide +kernel, by decide +kernel⟩ rfl (by decide) (by omega) (Nat.le_trans (conc_long st) hcat) hd (fun H1 locs1 hR1 hS1 => k (wkS_i (wkS_tl hs)) hl H1 locs1 ls hR1 hS1 hlo)
theorem ws_strC (A : Act E mi h p R s m args c cells slots) {pc n a i : Nat} {j : Int32} {lv : LVs} {st : List AV} {σ : Mem} (hd : decode (mCd mi) pc = .ok (.invokevirtual n, 3)) (hw : Cond.methodLink (mOw mi) n yJ0_charAt_5068e ∈ ALLg) (hcat : catS st ≤ 8) (h4 : 4 ≤ h) (hj : vp_in j (lenS.getD a 0)) (k : WG E mi p l e R s m args below meth c cells slots Q (pc + 3) lv ((.int ((bytS.getD a []).getD j.toNatClampNeg 0), 0) :: st) σ) : WG E mi p l e R s m args below meth c cells slots Q pc lv ((.int j, i) :: (.ref a, 61) :: st) σ := by
  intro hs hl H locs ls hR hS hlo
  have hi := wk61 (wkS_hd (wkS_tl hs))
  have AJ : ActJ E (mOw mi) (mCd mi) (mML mi) h p R s m args c cells slots := A
  exact jcallV (As := [.int j]) (rest := st.map (conc E)) (nn := 1) (h' := 3) AJ hR hS hlo.2.1 (cj_chr hi hj) (vk_recv A.2.2.2.2.2.2.1.2.2.2.2.1 hi hS) hw (ch3 98 rfl rfl) (ch1 14 rfl rfl) (ch3 96 rfl rfl) (ch3 97 rfl rfl) ⟨by decide +kernel, by decide +kernel, by decide +kernel⟩ rfl (by decide) (by omega) (Nat.le_trans (conc_long st) hcat) hd (fun H1 locs1 hR1 hS1 => k (wkS_i (wkS_tl (wkS_tl hs))) hl H1 locs1 ls hR1 hS1 hlo)
end JE
