/-! THE LAW'S START: the seven texts, the statics -/
def tmS (i : Nat) : Term := .string (sOwn i) (sIdx i)
def vlS (i : Nat) : Term := .field (tmS i) "java/lang/String" "value" "[B"
def flG : List Cond := Jvm.Free.XT.flat (Cond.and given_1 narrow_1)
theorem fs_ex : ∀ i, i < 7 → Cond.exactly (tmS i) "java/lang/String" ∈ flG := by decide +kernel
theorem fs_co : ∀ i, i < 7 → Cond.eq (.field (tmS i) "java/lang/String" "coder" "B") (.int 0) ∈ flG := by decide +kernel
theorem fs_ar : ∀ i, i < 7 → Cond.arrayOf (vlS i) .byte ∈ flG := by decide +kernel
theorem fs_le : ∀ i, i < 7 → Cond.eq (.length (vlS i)) (.int (Int32.ofNat (lenS.getD i 0))) ∈ flG := by decide +kernel
theorem fs_el : ∀ i, i < 7 → ∀ j, j < lenS.getD i 0 → Cond.eq (.elem (vlS i) (.int (Int32.ofNat j))) (.int ((bytS.getD i []).getD j 0)) ∈ flG := by decide +kernel
theorem fs_ne : ∀ i, i < 7 → ∀ j, j < 7 → i < j → Cond.not (Cond.eq (tmS i) (tmS j)) ∈ flG := by decide +kernel
theorem fs_cs : Cond.eq (.static "java/lang/String" "COMPACT_STRINGS" "Z") (.int 1) ∈ flG := by decide +kernel
theorem fs_pf : Cond.isRef (.static "jdk/internal/util/Preconditions" "SIOOBE_FORMATTER" "Ljava/util/function/BiFunction;") ∈ flG := by decide +kernel
theorem lenS_lt : ∀ i, i < 7 → lenS.getD i 0 < 2 ^ 31 := by decide +kernel
theorem tb_of {w : Cond} (h : w ∈ tables_1) : w ∈ lw_tbl := List.mem_append_right _ h
theorem sr_tb : ∀ i, i < 7 → Cond.stringRef (sOwn i) (sIdx i) (sTxt i) ∈ lw_tbl
  | 0, _ => tb_of (tch3 76 rfl)
  | 1, _ => tb_of (tch3 151 rfl)
  | 2, _ => tb_of (tch3 174 rfl)
  | 3, _ => tb_of (tch3 186 rfl)
  | 4, _ => tb_of (tch3 196 rfl)
  | 5, _ => tb_of (tch3 205 rfl)
  | 6, _ => tb_of (tch3 210 rfl)
  | n + 7, h => absurd h (by omega)
theorem EnvOK_start {args : Array Value} {s : State} {b L : Nat} {xs : Nat → Int32} (hts : ∀ w ∈ lw_tbl, w.before args s = true) (hX : va_X b L xs s s.heap) (hb : b < s.heap.size) (hL : L ≤ 3072) (hg : (Cond.and given_1 narrow_1).before args s = true) (D : va_G) (C : Nat → ClassId) :
    ∃ kK kV : Nat → Nat, EnvOK ((D, C, s.heap.size, b, kK, kV, L, xs) : EnvT) s s.heap := by
  have hs : ∀ w ∈ flG, w.before args s = true := flat_of_before _ hg
  have hA : ∀ a : Nat, a < s.heap.size → ¬ (fun q : Nat => s.heap.size ≤ q) a := fun a h => Nat.not_le.mpr h
  obtain ⟨kK, kV, h1, h2⟩ := vk_Sof (args := args) (s := s) (N := 7) (tm := tmS) (len := lenS) (byt := bytS) (A := fun q => s.heap.size ≤ q) lenS_lt (fun i hi => hs _ (fs_ex i hi)) (fun i hi => hs _ (fs_co i hi)) (fun i hi => hs _ (fs_ar i hi)) (fun i hi => hs _ (fs_le i hi)) (fun i hi j hj => hs _ (fs_el i hi j hj)) (fun i j hi hj hij => by
    rcases Nat.lt_or_gt_of_ne hij with h | h
    · exact Or.inl (hs _ (fs_ne i hi j hj h))
    · exact Or.inr (hs _ (fs_ne j hj i hi h))) hA
  refine ⟨kK, kV, hX, hb, Nat.le_refl _, hL, h1, fun i hi => vk_R.of (hts _ (sr_tb i hi)) (h2 i hi), ?_, ?_⟩
  · exact va_Zof (hts _ (tb_of (tch3 94 rfl))) (hts _ (tb_of (tch1 14 rfl))) (va_eqi (hs _ fs_cs)) hA
  · exact va_Zqof (hts _ (tb_of (tch3 110 rfl))) (hts _ (tb_of (tch1 16 rfl))) (hs _ fs_pf) hA
theorem NestOK_start {args : Array Value} {s : State} (hts : ∀ w ∈ lw_tbl, w.before args s = true) : NestOK s :=
  ⟨fun o i x k hm => va_Nw.of rfl (hts _ (tb_of hm)), fun ty hm => mna_same rfl (hts _ (tb_of hm))⟩
