theorem goodIn_r0 {big : List Cond} (ws : List Cond) (ps : List Nat) (hp : ws = ps.filterMap (fun i => big[i]?)) : ∀ w ∈ ws, w ∈ big := by
  intro w hw
  rw [hp] at hw
  obtain ⟨i, -, hi⟩ := List.mem_filterMap.mp hw
  exact List.mem_of_getElem? hi
def clR (ci : Nat) : String := (vwCl.getD ci ("", TX0, 0)).1
def clT (ci : Nat) : u_T := (vwCl.getD ci ("", TX0, 0)).2.1
def clTy : Nat → Nat → FieldType
  | 0 => tyX0
  | 1 => tyX1
  | 2 => tyX2
  | 3 => tyX3
  | 4 => tyX4
  | 5 => tyX5
  | 6 => tyX6
  | 7 => tyX7
  | 8 => tyX8
  | 9 => tyX9
  | 10 => tyX10
  | 11 => tyX11
  | _ => tyX12
theorem ALLg_of {ws : List Cond} (ps : List Nat) (hp : ws = ps.filterMap (fun i => lw_tbl[i]?)) (h : ws.all goodWord = true) : ∀ w ∈ ws, w ∈ ALLg := fun w hw => List.mem_filter.mpr ⟨(goodIn_r0 ws ps hp) w hw, List.all_eq_true.mp h w hw⟩
theorem in_c0 : ∀ w ∈ u_ws RX0 TX0 10, w ∈ ALLg := ALLg_of [481, 483, 485, 487, 489, 491, 493, 495, 497, 499] (by decide +kernel) (by decide +kernel)
theorem in_c1 : ∀ w ∈ u_ws RX1 TX1 7, w ∈ ALLg := ALLg_of [548, 550, 552, 554, 556, 558, 560] (by decide +kernel) (by decide +kernel)
theorem in_c2 : ∀ w ∈ u_ws RX2 TX2 14, w ∈ ALLg := ALLg_of [407, 409, 411, 413, 415, 417, 419, 421, 423, 425, 427, 429, 431, 433] (by decide +kernel) (by decide +kernel)
theorem in_c3 : ∀ w ∈ u_ws RX3 TX3 4, w ∈ ALLg := ALLg_of [341, 343, 345, 347] (by decide +kernel) (by decide +kernel)
theorem in_c4 : ∀ w ∈ u_ws RX4 TX4 14, w ∈ ALLg := ALLg_of [221, 223, 225, 227, 229, 231, 233, 235, 237, 239, 241, 243, 245, 247] (by decide +kernel) (by decide +kernel)
theorem in_c5 : ∀ w ∈ u_ws RX5 TX5 8, w ∈ ALLg := ALLg_of [576, 578, 580, 582, 584, 586, 588, 590] (by decide +kernel) (by decide +kernel)
theorem in_c6 : ∀ w ∈ u_ws RX6 TX6 5, w ∈ ALLg := ALLg_of [452, 454, 456, 458, 460] (by decide +kernel) (by decide +kernel)
theorem in_c7 : ∀ w ∈ u_ws RX7 TX7 10, w ∈ ALLg := ALLg_of [308, 310, 312, 314, 316, 318, 320, 322, 324, 326] (by decide +kernel) (by decide +kernel)
theorem in_c8 : ∀ w ∈ u_ws RX8 TX8 4, w ∈ ALLg := ALLg_of [161, 163, 165, 167] (by decide +kernel) (by decide +kernel)
theorem in_c9 : ∀ w ∈ u_ws RX9 TX9 6, w ∈ ALLg := ALLg_of [516, 518, 520, 522, 524, 526] (by decide +kernel) (by decide +kernel)
theorem in_c10 : ∀ w ∈ u_ws RX10 TX10 5, w ∈ ALLg := ALLg_of [362, 364, 366, 368, 370] (by decide +kernel) (by decide +kernel)
theorem in_c11 : ∀ w ∈ u_ws RX11 TX11 15, w ∈ ALLg := ALLg_of [609, 611, 613, 615, 617, 619, 621, 623, 625, 627, 629, 631, 633, 635, 637] (by decide +kernel) (by decide +kernel)
theorem in_c12 : ∀ w ∈ u_ws RX12 TX12 50, w ∈ ALLg := ALLg_of [1248, 1250, 1252, 1254, 1256, 1258, 1260, 1262, 1264, 1266, 1268, 1270, 1272, 1274, 1276, 1278, 1280, 1282, 1284, 1286, 1288, 1290, 1292, 1294, 1296, 1298, 1300, 1302, 1304, 1306, 1308, 1310, 1312, 1314, 1316, 1318, 1320, 1322, 1324, 1326, 1328, 1330, 1332, 1334, 1336, 1338, 1340, 1342, 1344, 1346] (by decide +kernel) (by decide +kernel)
def tagOk (t : Nat × Nat × Nat) (ty : FieldType) : Bool := match t with
  | (0, 0, _) => decide (ty = .int)
  | (0, 1, _) => decide (ty = .boolean)
  | (1, _, _) => decide (ty = .long)
  | (4, _, _) => decide (ty = .object "OneAnvil$Program")
  | _ => true
theorem tag_c0 : ∀ k, k < nf 0 → tagOk (fk 0 k) (tyX0 k) = true := by decide +kernel
theorem tag_c1 : ∀ k, k < nf 1 → tagOk (fk 1 k) (tyX1 k) = true := by decide +kernel
theorem tag_c2 : ∀ k, k < nf 2 → tagOk (fk 2 k) (tyX2 k) = true := by decide +kernel
theorem tag_c3 : ∀ k, k < nf 3 → tagOk (fk 3 k) (tyX3 k) = true := by decide +kernel
theorem tag_c4 : ∀ k, k < nf 4 → tagOk (fk 4 k) (tyX4 k) = true := by decide +kernel
theorem tag_c5 : ∀ k, k < nf 5 → tagOk (fk 5 k) (tyX5 k) = true := by decide +kernel
theorem tag_c6 : ∀ k, k < nf 6 → tagOk (fk 6 k) (tyX6 k) = true := by decide +kernel
theorem tag_c7 : ∀ k, k < nf 7 → tagOk (fk 7 k) (tyX7 k) = true := by decide +kernel
theorem tag_c8 : ∀ k, k < nf 8 → tagOk (fk 8 k) (tyX8 k) = true := by decide +kernel
theorem tag_c9 : ∀ k, k < nf 9 → tagOk (fk 9 k) (tyX9 k) = true := by decide +kernel
theorem tag_c10 : ∀ k, k < nf 10 → tagOk (fk 10 k) (tyX10 k) = true := by decide +kernel
theorem tag_c11 : ∀ k, k < nf 11 → tagOk (fk 11 k) (tyX11 k) = true := by decide +kernel
theorem tag_c12 : ∀ k, k < nf 12 → tagOk (fk 12 k) (tyX12 k) = true := by decide +kernel
theorem cl_ok : ∀ ci, ci < 13 → vwCl[ci]? = some (clR ci, clT ci, nf ci) ∧ (∀ w ∈ u_ws (clR ci) (clT ci) (nf ci), w ∈ ALLg) ∧ (∀ k, k < nf ci → parseFieldDescriptor ((clT ci) k).2.2.1 = some (clTy ci k)) ∧ (∀ a, a < nf ci → ∀ b, b < nf ci → a ≠ b → ((clT ci) a).2.1 ≠ ((clT ci) b).2.1) ∧ (∀ k, k < nf ci → tagOk (fk ci k) (clTy ci k) = true) := by
  intro ci hci
  match ci, hci with
  | 0, _ => exact ⟨rfl, in_c0, tyX0_ok, nmX0, tag_c0⟩
  | 1, _ => exact ⟨rfl, in_c1, tyX1_ok, nmX1, tag_c1⟩
  | 2, _ => exact ⟨rfl, in_c2, tyX2_ok, nmX2, tag_c2⟩
  | 3, _ => exact ⟨rfl, in_c3, tyX3_ok, nmX3, tag_c3⟩
  | 4, _ => exact ⟨rfl, in_c4, tyX4_ok, nmX4, tag_c4⟩
  | 5, _ => exact ⟨rfl, in_c5, tyX5_ok, nmX5, tag_c5⟩
  | 6, _ => exact ⟨rfl, in_c6, tyX6_ok, nmX6, tag_c6⟩
  | 7, _ => exact ⟨rfl, in_c7, tyX7_ok, nmX7, tag_c7⟩
  | 8, _ => exact ⟨rfl, in_c8, tyX8_ok, nmX8, tag_c8⟩
  | 9, _ => exact ⟨rfl, in_c9, tyX9_ok, nmX9, tag_c9⟩
  | 10, _ => exact ⟨rfl, in_c10, tyX10_ok, nmX10, tag_c10⟩
  | 11, _ => exact ⟨rfl, in_c11, tyX11_ok, nmX11, tag_c11⟩
  | 12, _ => exact ⟨rfl, in_c12, tyX12_ok, nmX12, tag_c12⟩
  | n + 13, h => omega
def wkB : Nat → Nat → Bool := fun c k => Nat.beq k 60 || (Nat.beq k 61 && Nat.blt c 7) || (Nat.beq k 50 && (Nat.beq c 0 || Nat.beq (kd c) 5)) || (!(Nat.beq k 50) && !(Nat.beq k 60) && !(Nat.beq k 61) && Nat.beq (kd c) k)
theorem wk_of {c k : Nat} (h : wkB c k = true) : wk (.ref c, k) := by
  have hb : ∀ a b : Nat, Nat.beq a b = (a == b) := fun a b => by rw [Bool.eq_iff_iff]; simp
  simp only [wkB, hb, Bool.or_eq_true, Bool.and_eq_true, Bool.not_eq_true', beq_iff_eq, beq_eq_false_iff_ne, Nat.blt_eq] at h
  rcases h with ((h | h) | h) | h
  · exact Or.inl h
  · exact Or.inr (Or.inl h)
  · exact Or.inr (Or.inr (Or.inl h))
  · exact Or.inr (Or.inr (Or.inr ⟨h.1.1.1, h.1.1.2, h.1.2, h.2⟩))
theorem Nat_beq_iff {a b : Nat} : Nat.beq a b = true ↔ a = b := by simp
def fldOkB (c : Nat) : Bool := if kd c < 13 then (List.range (nf (kd c))).all fun j => match fk (kd c) j with
    | (2, d, k) => wkB (c + d) k
    | (3, a, k) => wkB a k
    | _ => true
  else match ak (kd c) with
    | (t, n, f, s, e) => if 3 < t then (List.range n).all (fun i => wkB (f + s * i) e) && Nat.blt t 8 else Nat.blt t 4
theorem lay_ok : ∀ c, c < kdL.length → fldOkB c = true := by decide +kernel
theorem forge_one : ∀ c, c < kdL.length → kd c < 13 → (List.range (nf (kd c))).all (fun j => !(Nat.beq (fk (kd c) j).1 4) || Nat.beq c 40) = true := by decide +kernel
theorem wk_cls {c k : Nat} (h : wk (.ref c, k)) (hk : k < 13) : kd c = k := by
  rcases h with h | h | h | h
  · omega
  · omega
  · omega
  · exact h.2.2.2
theorem wk_arr {c k : Nat} (h : wk (.ref c, k)) (hk : 100 ≤ k) : kd c = k := by
  rcases h with h | h | h | h
  · omega
  · omega
  · omega
  · exact h.2.2.2
theorem ak_ge {k t n f s e : Nat} (h : ak k = (t, n, f, s, e)) (ht : t < 9) : 100 ≤ k := by
  unfold ak at h
  cases hb : Nat.ble 100 k with
  | true => exact Nat.ble_eq.mp hb
  | false =>
    rw [hb] at h
    cases h
    omega
theorem ak_lt {k t n f s e : Nat} (h : ak k = (t, n, f, s, e)) (ht : t < 9) : k < 100 + akL.length := by
  have hg := ak_ge h ht
  rcases Nat.lt_or_ge k (100 + akL.length) with q | q
  · exact q
  · unfold ak at h
    rw [show Nat.ble 100 k = true from Nat.ble_eq.mpr hg] at h
    simp only [cond_true, List.getD_eq_getElem?_getD] at h
    rw [List.getElem?_eq_none (by omega)] at h
    cases h
    omega
theorem elt_obj {E : EnvT} {σ : Mem} {c k : Nat} (h : kd c = k) (hk : k < 13) : elt E σ c = .inr (k, (List.range (nf k)).map (concF E σ c k)) := by
  unfold elt
  rw [h, if_pos hk]
theorem elt_i {E : EnvT} {σ : Mem} {c k t n f s e : Nat} (h : kd c = k) (ha : ak k = (t, n, f, s, e)) (ht : t < 3) : elt E σ c = .inl (eC E t, n, .inl (gI σ c)) := by
  have hg := ak_ge ha (by omega)
  unfold elt
  rw [h, if_neg (by omega), ha]
  dsimp only
  rw [if_pos ht]
theorem elt_l {E : EnvT} {σ : Mem} {c k n f s e : Nat} (h : kd c = k) (ha : ak k = (3, n, f, s, e)) : elt E σ c = .inl (eC E 3, n, .inr (.inl (gL σ c))) := by
  have hg := ak_ge ha (by omega)
  unfold elt
  rw [h, if_neg (by omega), ha]
  rfl
theorem elt_r {E : EnvT} {σ : Mem} {c k t n f s e : Nat} (h : kd c = k) (ha : ak k = (t, n, f, s, e)) (ht : 3 < t) (ht9 : t < 9) : elt E σ c = .inl (eC E t, n, .inr (.inr (.inr (.inr (fun i => some (eBase E + (f + s * i))))))) := by
  have hg := ak_ge ha ht9
  unfold elt
  rw [h, if_neg (by omega), ha]
  dsimp only
  rw [if_neg (by omega), if_neg (by omega)]
theorem tys_at {E : EnvT} {t : Nat} (h : t < 8) : (tysL E)[t]? = some (eC E t, atyp t) := by
  unfold tysL
  rw [List.getElem?_map, List.getElem?_range h]
  rfl
/-- what an int that is written changes -/
theorem elt_sI {E : EnvT} {σ : Mem} {c j c' : Nat} {v : Int32} (h : c' ≠ c) : elt E (sI σ c j v) c' = elt E σ c' := by
  have e1 : gI (sI σ c j v) c' = gI σ c' := by
    funext i
    exact if_neg (fun q => h q.1)
  have e2 : concF E (sI σ c j v) c' = concF E σ c' := by
    funext ci i
    unfold concF
    rw [e1]
    rfl
  unfold elt
  rw [e1, e2]
  rfl
theorem elt_sL {E : EnvT} {σ : Mem} {c j c' : Nat} {v : Int64} (h : c' ≠ c) : elt E (sL σ c j v) c' = elt E σ c' := by
  have e1 : gL (sL σ c j v) c' = gL σ c' := by
    funext i
    exact if_neg (fun q => h q.1)
  have e2 : concF E (sL σ c j v) c' = concF E σ c' := by
    funext ci i
    unfold concF
    rw [e1]
    rfl
  unfold elt
  rw [e1, e2]
  rfl
section SNDM
variable {p : Program} {l : Launch} {e : Env} {R : Room} {s : State} {m : MethodId} {args : Array Value} {below : List Frame} {meth : Method} {c : Code} {cells slots : Nat} {Q : State → Prop}
variable {E : EnvT} {mi h pc : Nat} {lv : LVs} {st : List AV} {σ : Mem}
theorem ws_getf (A : Act E mi h p R s m args c cells slots) {x y n a : Nat} {v : AV} (hd : decode (mCd mi) pc = .ok (.getfield n, 3)) (hx : x < 13) (hy : y < nf x) (hw : Cond.fieldLink (mOw mi) n ((clT x) y).1 ((clT x) y).2.1 ((clT x) y).2.2.1 ∈ ALLg) (hv : kd a = x → conc E v = concF E σ a x y) (hwk : kd a = x → wk v) (k : WG E mi p l e R s m args below meth c cells slots Q (pc + 3) lv (v :: st) σ) : WG E mi p l e R s m args below meth c cells slots Q pc lv ((.ref a, x) :: st) σ := by
  intro hs hl H locs ls hR hS hlo
  have hk := wk_cls (wkS_hd hs) hx
  obtain ⟨h1, h2, h3, h4, h5⟩ := cl_ok x hx
  have he := ws_at (E := E) (σ := σ) (c := a) (by omega)
  rw [elt_obj hk hx] at he
  have kk := k (wkS_cons (hwk hk) (wkS_tl hs)) hl H locs ls hR hS hlo
  change W p l e R s m args below meth c H locs cells slots Q (F0 m _ ls (conc E v :: st.map (conc E))) at kk
  change W p l e R s m args below meth c H locs cells slots Q (F0 m pc ls (conc E (.ref a, x) :: st.map (conc E)))
  rw [conc_o E (by omega) (by omega) (Or.inl (by omega))]
  rw [hv hk] at kk
  exact va_get A.1 A.2.1 A.2.2.2.2.1 h2 A.2.2.2.1 A.2.2.2.2.2.1 hR a he h1 y hy (A.2.2.2.2.1 _ hw) (fun _ z => z) (by rw [List.getElem?_map, List.getElem?_range hy]; rfl) hd kk
theorem map_set {α : Type} {f g : Nat → α} {n j : Nat} {v : α} (hj : g j = v) (ho : ∀ i, i ≠ j → g i = f i) : ((List.range n).map f).set j v = (List.range n).map g := by
  apply List.ext_getElem?
  intro i
  rw [List.getElem?_set]
  by_cases hi : j = i
  · subst hi
    rw [if_pos rfl]
    simp only [List.length_map, List.length_range, List.getElem?_map]
    by_cases hl : j < n
    · rw [if_pos hl, List.getElem?_range hl]
      simp [hj]
    · rw [if_neg hl, List.getElem?_eq_none (by rw [List.length_range]; omega)]
      rfl
  · rw [if_neg hi]
    simp only [List.getElem?_map]
    by_cases hl : i < n
    · rw [List.getElem?_range hl]
      simp [ho i (fun q => hi q.symm)]
    · rw [List.getElem?_eq_none (by rw [List.length_range]; omega)]
      rfl
theorem ws_putf (A : Act E mi h p R s m args c cells slots) {x y n a : Nat} {v : AV} {σ' : Mem} {ty : FieldType} (hd : decode (mCd mi) pc = .ok (.putfield n, 3)) (hx : x < 13) (hy : y < nf x) (hw : Cond.fieldLink (mOw mi) n ((clT x) y).1 ((clT x) y).2.1 ((clT x) y).2.2.1 ∈ ALLg) (hf : ((clT x) y).2.2.2 = false) (hty : clTy x y = ty) (hn : narrow ty (conc E v) = conc E v) (hfit : fits ty (conc E v) = true) (hv : kd a = x → concF E σ' a x y = conc E v) (ho : kd a = x → ∀ i, i ≠ y → concF E σ' a x i = concF E σ a x i) (ho2 : kd a = x → ∀ b, b ≠ a → elt E σ' b = elt E σ b) (k : WG E mi p l e R s m args below meth c cells slots Q (pc + 3) lv st σ') : WG E mi p l e R s m args below meth c cells slots Q pc lv (v :: (.ref a, x) :: st) σ := by
  intro hs hl H locs ls hR hS hlo
  have hk := wk_cls (wkS_hd (wkS_tl hs)) hx
  obtain ⟨h1, h2, h3, h4, h5⟩ := cl_ok x hx
  have he := ws_at (E := E) (σ := σ) (c := a) (by omega)
  rw [elt_obj hk hx] at he
  change W p l e R s m args below meth c H locs cells slots Q (F0 m pc ls (conc E v :: conc E (.ref a, x) :: st.map (conc E)))
  rw [conc_o E (by omega) (by omega) (Or.inl (by omega))]
  refine va_put A.1 A.2.1 A.2.2.2.2.1 h2 (clTy x) h3 h4 A.2.2.2.1 A.2.2.2.2.2.1 hR ws_D hS a he h1 y hy (A.2.2.2.2.1 _ hw) (fun _ z => z) hf (by rw [h3 y hy, hty]) hn hfit (by rw [List.length_map, List.length_range]; exact hy) hd (fun H1 locs1 hP1 _ hS1 => ?_)
  rw [map_set (hv hk) (ho hk), ws_set (σ' := σ') (elt_obj hk hx) (ho2 hk)] at hP1
  exact k (wkS_tl (wkS_tl hs)) hl H1 locs1 ls hP1 hS1 hlo
theorem ws_alen (A : Act E mi h p R s m args c cells slots) {a kq t n f s' e' : Nat} {v : Int32} (hd : decode (mCd mi) pc = .ok (.arraylength, 1)) (ha : ak kq = (t, n, f, s', e')) (ht : t < 8) (hv : Int32.ofNat n = v) (k : WG E mi p l e R s m args below meth c cells slots Q (pc + 1) lv ((.int v, 0) :: st) σ) : WG E mi p l e R s m args below meth c cells slots Q pc lv ((.ref a, kq) :: st) σ := by
  intro hs hl H locs ls hR hS hlo
  have hg := ak_ge ha (by omega)
  have hk := wk_arr (wkS_hd (hs)) hg
  have he := ws_at (E := E) (σ := σ) (c := a) (by have := ak_lt ha (by omega); have : akL.length = 30 := rfl; omega)
  have kk := k (wkS_i (wkS_tl hs)) hl H locs ls hR hS hlo
  change W p l e R s m args below meth c H locs cells slots Q (F0 m pc ls (conc E (.ref a, kq) :: st.map (conc E)))
  rw [conc_o E (by omega) (by omega) (Or.inl (by omega))]
  rcases Nat.lt_or_ge t 3 with h3 | h3
  · rw [elt_i hk ha h3] at he
    exact va_alen A.1 A.2.1 A.2.2.2.2.2.1 hR a t he (tys_at ht) hv hd kk
  · rcases Nat.lt_or_ge 3 t with h4 | h4
    · rw [elt_r hk ha h4 (by omega)] at he
      exact va_alen A.1 A.2.1 A.2.2.2.2.2.1 hR a t he (tys_at ht) hv hd kk
    · obtain rfl : t = 3 := by omega
      rw [elt_l hk ha] at he
      exact va_alen A.1 A.2.1 A.2.2.2.2.2.1 hR a 3 he (tys_at (by omega)) hv hd kk
theorem ws_iald (A : Act E mi h p R s m args c cells slots) {a kq n f s' e' i : Nat} {j : Int32} (hd : decode (mCd mi) pc = .ok (.iaload, 1)) (ha : ak kq = (0, n, f, s', e')) (hj : vp_in j n) (k : WG E mi p l e R s m args below meth c cells slots Q (pc + 1) lv ((.int (gI σ a j.toNatClampNeg), 0) :: st) σ) : WG E mi p l e R s m args below meth c cells slots Q pc lv ((.int j, i) :: (.ref a, kq) :: st) σ := by
  intro hs hl H locs ls hR hS hlo
  have hg := ak_ge ha (by omega)
  have hk := wk_arr (wkS_hd (wkS_tl hs)) hg
  have he := ws_at (E := E) (σ := σ) (c := a) (by have := ak_lt ha (by omega); have : akL.length = 30 := rfl; omega)
  rw [elt_i hk ha (by omega)] at he
  change W p l e R s m args below meth c H locs cells slots Q (F0 m pc ls (.int j :: conc E (.ref a, kq) :: st.map (conc E)))
  rw [conc_o E (by omega) (by omega) (Or.inl (by omega))]
  exact va_iald A.1 A.2.1 A.2.2.2.2.2.1 hR a 0 he (tys_at (by omega)) hj hd (k (wkS_i (wkS_tl (wkS_tl hs))) hl H locs ls hR hS hlo)
theorem ws_bald (A : Act E mi h p R s m args c cells slots) {a kq n f s' e' i : Nat} {j : Int32} (hd : decode (mCd mi) pc = .ok (.baload, 1)) (ha : ak kq = (1, n, f, s', e')) (hj : vp_in j n) (k : WG E mi p l e R s m args below meth c cells slots Q (pc + 1) lv ((.int (gI σ a j.toNatClampNeg), 0) :: st) σ) : WG E mi p l e R s m args below meth c cells slots Q pc lv ((.int j, i) :: (.ref a, kq) :: st) σ := by
  intro hs hl H locs ls hR hS hlo
  have hg := ak_ge ha (by omega)
  have hk := wk_arr (wkS_hd (wkS_tl hs)) hg
  have he := ws_at (E := E) (σ := σ) (c := a) (by have := ak_lt ha (by omega); have : akL.length = 30 := rfl; omega)
  rw [elt_i hk ha (by omega)] at he
  change W p l e R s m args below meth c H locs cells slots Q (F0 m pc ls (.int j :: conc E (.ref a, kq) :: st.map (conc E)))
  rw [conc_o E (by omega) (by omega) (Or.inl (by omega))]
  exact va_bald A.1 A.2.1 A.2.2.2.2.2.1 hR a 1 he (tys_at (by omega)) hj hd (k (wkS_i (wkS_tl (wkS_tl hs))) hl H locs ls hR hS hlo)
theorem ws_zald (A : Act E mi h p R s m args c cells slots) {a kq n f s' e' i : Nat} {j : Int32} (hd : decode (mCd mi) pc = .ok (.baload, 1)) (ha : ak kq = (2, n, f, s', e')) (hj : vp_in j n) (k : WG E mi p l e R s m args below meth c cells slots Q (pc + 1) lv ((.int (gI σ a j.toNatClampNeg), 0) :: st) σ) : WG E mi p l e R s m args below meth c cells slots Q pc lv ((.int j, i) :: (.ref a, kq) :: st) σ := by
  intro hs hl H locs ls hR hS hlo
  have hg := ak_ge ha (by omega)
  have hk := wk_arr (wkS_hd (wkS_tl hs)) hg
  have he := ws_at (E := E) (σ := σ) (c := a) (by have := ak_lt ha (by omega); have : akL.length = 30 := rfl; omega)
  rw [elt_i hk ha (by omega)] at he
  change W p l e R s m args below meth c H locs cells slots Q (F0 m pc ls (.int j :: conc E (.ref a, kq) :: st.map (conc E)))
  rw [conc_o E (by omega) (by omega) (Or.inl (by omega))]
  exact va_zald A.1 A.2.1 A.2.2.2.2.2.1 hR a 2 he (tys_at (by omega)) hj hd (k (wkS_i (wkS_tl (wkS_tl hs))) hl H locs ls hR hS hlo)
theorem ws_lald (A : Act E mi h p R s m args c cells slots) {a kq n f s' e' i : Nat} {j : Int32} (hd : decode (mCd mi) pc = .ok (.laload, 1)) (ha : ak kq = (3, n, f, s', e')) (hj : vp_in j n) (k : WG E mi p l e R s m args below meth c cells slots Q (pc + 1) lv ((.long (gL σ a j.toNatClampNeg), 0) :: st) σ) : WG E mi p l e R s m args below meth c cells slots Q pc lv ((.int j, i) :: (.ref a, kq) :: st) σ := by
  intro hs hl H locs ls hR hS hlo
  have hg := ak_ge ha (by omega)
  have hk := wk_arr (wkS_hd (wkS_tl hs)) hg
  have he := ws_at (E := E) (σ := σ) (c := a) (by have := ak_lt ha (by omega); have : akL.length = 30 := rfl; omega)
  rw [elt_l hk ha] at he
  change W p l e R s m args below meth c H locs cells slots Q (F0 m pc ls (.int j :: conc E (.ref a, kq) :: st.map (conc E)))
  rw [conc_o E (by omega) (by omega) (Or.inl (by omega))]
  exact va_lald A.1 A.2.1 A.2.2.2.2.2.1 hR a 3 he (tys_at (by omega)) hj hd (k (wkS_l (wkS_tl (wkS_tl hs))) hl H locs ls hR hS hlo)
theorem akRef : ∀ k, k < akL.length → (match ak (100 + k) with | (t, _, f, _, e) => decide (3 < t → 0 < f ∧ e ≠ 60 ∧ e ≠ 61)) = true := by decide +kernel
theorem atyp_ref {t : Nat} (h : 3 < t) (h8 : t < 8) : (atyp t).isReference = true := by
  match t, h, h8 with
  | 4, _, _ => rfl
  | 5, _, _ => rfl
  | 6, _, _ => rfl
  | 7, _, _ => rfl
theorem arr_el {a k t n f s e j : Nat} (hk : kd a = k) (ha : ak k = (t, n, f, s, e)) (ht : 3 < t) (hj : j < n) : wk (.ref (f + s * j), e) ∧ (f + s * j ≠ 0 ∨ e ≠ 50) ∧ e ≠ 60 ∧ e ≠ 61 := by
  by_cases h9 : t < 9
  · have hg := ak_ge ha h9
    have hl := ak_lt ha h9
    have hlen : akL.length = 30 := rfl
    have h1 := lay_ok a (kd_lt (by omega))
    unfold fldOkB at h1
    rw [hk, if_neg (by omega), ha] at h1
    dsimp only at h1
    rw [if_pos ht] at h1
    simp only [Bool.and_eq_true, List.all_eq_true, List.mem_range] at h1
    have h2 := h1.1 j hj
    have h3 := akRef (k - 100) (by omega)
    rw [show 100 + (k - 100) = k by omega, ha] at h3
    simp only [decide_eq_true_eq] at h3
    have h4 := h3 ht
    exact ⟨wk_of h2, Or.inl (by omega), h4.2.1, h4.2.2⟩
  · exfalso
    have h2 : ∀ q, q ∈ akL → q.1 < 9 := by decide +kernel
    unfold ak at ha
    cases hb : Nat.ble 100 k with
    | false =>
      rw [hb] at ha
      have hk1 := lay_ok a
      have hn100 : ¬ 100 ≤ k := fun q => by rw [Nat.ble_eq.mpr q] at hb; cases hb
      simp only [cond_false] at ha
      cases ha
      omega
    | true =>
      rw [hb] at ha
      simp only [cond_true, List.getD_eq_getElem?_getD] at ha
      cases hq : akL[k - 100]? with
      | none =>
        rw [hq] at ha
        cases ha
        omega
      | some q =>
        rw [hq] at ha
        have := h2 q (List.mem_of_getElem? hq)
        simp only [Option.getD_some] at ha
        rw [ha] at this
        exact h9 this
theorem ws_aald (A : Act E mi h p R s m args c cells slots) {a kq t n f s' e' i : Nat} {j : Int32} (hd : decode (mCd mi) pc = .ok (.aaload, 1)) (ha : ak kq = (t, n, f, s', e')) (ht : 3 < t) (ht8 : t < 8) (hj : vp_in j n) (k : WG E mi p l e R s m args below meth c cells slots Q (pc + 1) lv ((.ref (f + s' * j.toNatClampNeg), e') :: st) σ) : WG E mi p l e R s m args below meth c cells slots Q pc lv ((.int j, i) :: (.ref a, kq) :: st) σ := by
  intro hs hl H locs ls hR hS hlo
  have hg := ak_ge ha (by omega)
  have hk := wk_arr (wkS_hd (wkS_tl hs)) hg
  have he := ws_at (E := E) (σ := σ) (c := a) (by have := ak_lt ha (by omega); have : akL.length = 30 := rfl; omega)
  rw [elt_r hk ha ht (by omega)] at he
  have hjn : j.toNatClampNeg < n := Nat.not_le.mp fun q => hj (Or.inr q)
  have hw : wk (.ref (f + s' * j.toNatClampNeg), e') ∧ (f + s' * j.toNatClampNeg ≠ 0 ∨ e' ≠ 50) ∧ e' ≠ 60 ∧ e' ≠ 61 := arr_el hk ha ht hjn
  have kk := k (wkS_cons hw.1 (wkS_tl (wkS_tl hs))) hl H locs ls hR hS hlo
  change W p l e R s m args below meth c H locs cells slots Q (F0 m _ ls (conc E (.ref (f + s' * j.toNatClampNeg), e') :: st.map (conc E))) at kk
  change W p l e R s m args below meth c H locs cells slots Q (F0 m pc ls (.int j :: conc E (.ref a, kq) :: st.map (conc E)))
  rw [conc_o E (by omega) (by omega) (Or.inl (by omega))]
  rw [conc_o E hw.2.2.1 hw.2.2.2 hw.2.1.symm] at kk
  have hP := hR a _ he
  refine W.aald (v := .ref (eBase E + (f + s' * j.toNatClampNeg))) (ty := atyp t) A.1 A.2.1 hP ((A.2.2.2.2.2.1.2 t _ (tys_at ht8)).1 n (fun i => va_rf (some (eBase E + (f + s' * i))))) (atyp_ref ht ht8) (fun q => by cases q) (by show ¬ (j < 0 ∨ (arrV _ _ _).slots.size ≤ _); rw [arrV_size]; exact hj) (by show (arrV _ _ _).slots[_]? = _; rw [arrV_read _ _ hjn]; rfl) rfl rfl hd kk
theorem ws_iast (A : Act E mi h p R s m args c cells slots) {a kq n f s' e' i i2 : Nat} {j x : Int32} (hd : decode (mCd mi) pc = .ok (.iastore, 1)) (ha : ak kq = (0, n, f, s', e')) (hj : vp_in j n) (k : WG E mi p l e R s m args below meth c cells slots Q (pc + 1) lv st (sI σ a j.toNatClampNeg x)) : WG E mi p l e R s m args below meth c cells slots Q pc lv ((.int x, i2) :: (.int j, i) :: (.ref a, kq) :: st) σ := by
  intro hs hl H locs ls hR hS hlo
  have hg := ak_ge ha (by omega)
  have hk := wk_arr (wkS_hd (wkS_tl (wkS_tl hs))) hg
  have he := ws_at (E := E) (σ := σ) (c := a) (by have := ak_lt ha (by omega); have : akL.length = 30 := rfl; omega)
  rw [elt_i hk ha (by omega)] at he
  change W p l e R s m args below meth c H locs cells slots Q (F0 m pc ls (.int x :: .int j :: conc E (.ref a, kq) :: st.map (conc E)))
  rw [conc_o E (by omega) (by omega) (Or.inl (by omega))]
  refine va_iast A.1 A.2.1 A.2.2.2.2.2.1 hR ws_D hS a 0 he (tys_at (by omega)) hj hd (fun H1 locs1 hP1 _ hS1 => ?_)
  have e1 : elt E (sI σ a j.toNatClampNeg x) a = .inl (eC E 0, n, .inl (upd (gI σ a) j.toNatClampNeg x)) := by
    rw [elt_i hk ha (by omega), show gI (sI σ a j.toNatClampNeg x) a = upd (gI σ a) j.toNatClampNeg x from funext fun i => by simp [gI, sI, upd]]
  rw [ws_set (σ' := sI σ a j.toNatClampNeg x) e1 (fun b hb => elt_sI hb)] at hP1
  exact k (wkS_tl (wkS_tl (wkS_tl hs))) hl H1 locs1 ls hP1 hS1 hlo
theorem ws_bast (A : Act E mi h p R s m args c cells slots) {a kq n f s' e' i i2 : Nat} {j x : Int32} (hd : decode (mCd mi) pc = .ok (.bastore, 1)) (ha : ak kq = (1, n, f, s', e')) (hj : vp_in j n) (k : WG E mi p l e R s m args below meth c cells slots Q (pc + 1) lv st (sI σ a j.toNatClampNeg x.toInt8.toInt32)) : WG E mi p l e R s m args below meth c cells slots Q pc lv ((.int x, i2) :: (.int j, i) :: (.ref a, kq) :: st) σ := by
  intro hs hl H locs ls hR hS hlo
  have hg := ak_ge ha (by omega)
  have hk := wk_arr (wkS_hd (wkS_tl (wkS_tl hs))) hg
  have he := ws_at (E := E) (σ := σ) (c := a) (by have := ak_lt ha (by omega); have : akL.length = 30 := rfl; omega)
  rw [elt_i hk ha (by omega)] at he
  change W p l e R s m args below meth c H locs cells slots Q (F0 m pc ls (.int x :: .int j :: conc E (.ref a, kq) :: st.map (conc E)))
  rw [conc_o E (by omega) (by omega) (Or.inl (by omega))]
  refine va_bast A.1 A.2.1 A.2.2.2.2.2.1 hR ws_D hS a 1 he (tys_at (by omega)) hj hd (fun H1 locs1 hP1 _ hS1 => ?_)
  have e1 : elt E (sI σ a j.toNatClampNeg x.toInt8.toInt32) a = .inl (eC E 1, n, .inl (upd (gI σ a) j.toNatClampNeg x.toInt8.toInt32)) := by
    rw [elt_i hk ha (by omega), show gI (sI σ a j.toNatClampNeg x.toInt8.toInt32) a = upd (gI σ a) j.toNatClampNeg x.toInt8.toInt32 from funext fun i => by simp [gI, sI, upd]]
  rw [ws_set (σ' := sI σ a j.toNatClampNeg x.toInt8.toInt32) (by rw [e1, vp_nar_byte]) (fun b hb => elt_sI hb)] at hP1
  exact k (wkS_tl (wkS_tl (wkS_tl hs))) hl H1 locs1 ls hP1 hS1 hlo
theorem ws_zast (A : Act E mi h p R s m args c cells slots) {a kq n f s' e' i i2 : Nat} {j x : Int32} (hd : decode (mCd mi) pc = .ok (.bastore, 1)) (ha : ak kq = (2, n, f, s', e')) (hj : vp_in j n) (k : WG E mi p l e R s m args below meth c cells slots Q (pc + 1) lv st (sI σ a j.toNatClampNeg (x &&& 1))) : WG E mi p l e R s m args below meth c cells slots Q pc lv ((.int x, i2) :: (.int j, i) :: (.ref a, kq) :: st) σ := by
  intro hs hl H locs ls hR hS hlo
  have hg := ak_ge ha (by omega)
  have hk := wk_arr (wkS_hd (wkS_tl (wkS_tl hs))) hg
  have he := ws_at (E := E) (σ := σ) (c := a) (by have := ak_lt ha (by omega); have : akL.length = 30 := rfl; omega)
  rw [elt_i hk ha (by omega)] at he
  change W p l e R s m args below meth c H locs cells slots Q (F0 m pc ls (.int x :: .int j :: conc E (.ref a, kq) :: st.map (conc E)))
  rw [conc_o E (by omega) (by omega) (Or.inl (by omega))]
  refine va_zast A.1 A.2.1 A.2.2.2.2.2.1 hR ws_D hS a 2 he (tys_at (by omega)) hj hd (fun H1 locs1 hP1 _ hS1 => ?_)
  have e1 : elt E (sI σ a j.toNatClampNeg (x &&& 1)) a = .inl (eC E 2, n, .inl (upd (gI σ a) j.toNatClampNeg (vp_nar .boolean x))) := by
    rw [elt_i hk ha (by omega), show gI (sI σ a j.toNatClampNeg (x &&& 1)) a = upd (gI σ a) j.toNatClampNeg (vp_nar .boolean x) from funext fun i => by simp [gI, sI, upd, vp_nar, narrow]]
  rw [ws_set (σ' := sI σ a j.toNatClampNeg (x &&& 1)) e1 (fun b hb => elt_sI hb)] at hP1
  exact k (wkS_tl (wkS_tl (wkS_tl hs))) hl H1 locs1 ls hP1 hS1 hlo
theorem ws_last (A : Act E mi h p R s m args c cells slots) {a kq n f s' e' i i2 : Nat} {j : Int32} {x : Int64} (hd : decode (mCd mi) pc = .ok (.lastore, 1)) (ha : ak kq = (3, n, f, s', e')) (hj : vp_in j n) (k : WG E mi p l e R s m args below meth c cells slots Q (pc + 1) lv st (sL σ a j.toNatClampNeg x)) : WG E mi p l e R s m args below meth c cells slots Q pc lv ((.long x, i2) :: (.int j, i) :: (.ref a, kq) :: st) σ := by
  intro hs hl H locs ls hR hS hlo
  have hg := ak_ge ha (by omega)
  have hk := wk_arr (wkS_hd (wkS_tl (wkS_tl hs))) hg
  have he := ws_at (E := E) (σ := σ) (c := a) (by have := ak_lt ha (by omega); have : akL.length = 30 := rfl; omega)
  rw [elt_l hk ha] at he
  change W p l e R s m args below meth c H locs cells slots Q (F0 m pc ls (.long x :: .int j :: conc E (.ref a, kq) :: st.map (conc E)))
  rw [conc_o E (by omega) (by omega) (Or.inl (by omega))]
  refine va_last A.1 A.2.1 A.2.2.2.2.2.1 hR ws_D hS a 3 he (tys_at (by omega)) hj hd (fun H1 locs1 hP1 _ hS1 => ?_)
  have e1 : elt E (sL σ a j.toNatClampNeg x) a = .inl (eC E 3, n, .inr (.inl (vp_updL (gL σ a) j.toNatClampNeg x))) := by
    rw [elt_l hk ha, show gL (sL σ a j.toNatClampNeg x) a = vp_updL (gL σ a) j.toNatClampNeg x from funext fun i => by simp [gL, sL, vp_updL]]
  rw [ws_set (σ' := sL σ a j.toNatClampNeg x) e1 (fun b hb => elt_sL hb)] at hP1
  exact k (wkS_tl (wkS_tl (wkS_tl hs))) hl H1 locs1 ls hP1 hS1 hlo
theorem ws_sld (A : Act E mi h p R s m args c cells slots) {i a : Nat} {j : Int32} (hd : decode (mCd mi) pc = .ok (.iaload, 1)) (hj : vp_in j (eL E)) (k : WG E mi p l e R s m args below meth c cells slots Q (pc + 1) lv ((.int (eX E j.toNatClampNeg), 0) :: st) σ) : WG E mi p l e R s m args below meth c cells slots Q pc lv ((.int j, i) :: (.ref a, 60) :: st) σ := by
  intro hs hl H locs ls hR hS hlo
  have hE := A.2.2.2.2.2.2.1
  exact va_sld A.1 A.2.1 hE.1 (Nat.lt_of_lt_of_le hE.2.1 hE.2.2.1) (Nat.not_le.mpr hE.2.1) hS hj hd (k (wkS_i (wkS_tl (wkS_tl hs))) hl H locs ls hR hS hlo)
theorem ws_slen (A : Act E mi h p R s m args c cells slots) {a : Nat} (hd : decode (mCd mi) pc = .ok (.arraylength, 1)) (k : WG E mi p l e R s m args below meth c cells slots Q (pc + 1) lv ((.int (nI (eL E)), 0) :: st) σ) : WG E mi p l e R s m args below meth c cells slots Q pc lv ((.ref a, 60) :: st) σ := by
  intro hs hl H locs ls hR hS hlo
  have hE := A.2.2.2.2.2.2.1
  exact va_slen A.1 A.2.1 hE.1 (Nat.lt_of_lt_of_le hE.2.1 hE.2.2.1) (Nat.not_le.mpr hE.2.1) hS hd (k (wkS_i (wkS_tl hs)) hl H locs ls hR hS hlo)
end SNDM
