/-! the methods: their words, as the tables have them -/
theorem ALLg_tb {w : Cond} (h : w ∈ tables_1) (hg : goodWord w = true) : w ∈ ALLg := List.mem_filter.mpr ⟨List.mem_append_right _ h, hg⟩
theorem ALLg_sp {w : Cond} {q : MethodName × Nat} (h : q ∈ lw_privs) (hw : Cond.selects q.1.cls q.1 q.1 = w) (hg : goodWord w = true) : w ∈ ALLg := List.mem_filter.mpr ⟨List.mem_append_left _ (List.mem_map.mpr ⟨q, h, hw⟩), hg⟩
theorem ch1 {w : Cond} (i : Nat) (h : tables_1_1[i]? = some w) (hg : goodWord w = true) : w ∈ ALLg := ALLg_tb (List.mem_append_left _ (List.mem_of_getElem? h)) hg
theorem ch2 {w : Cond} (i : Nat) (h : tables_1_2[i]? = some w) (hg : goodWord w = true) : w ∈ ALLg := ALLg_tb (List.mem_append_right _ (List.mem_append_left _ (List.mem_of_getElem? h))) hg
theorem ch3 {w : Cond} (i : Nat) (h : tables_1_3[i]? = some w) (hg : goodWord w = true) : w ∈ ALLg := ALLg_tb (List.mem_append_right _ (List.mem_append_right _ (List.mem_append_left _ (List.mem_of_getElem? h)))) hg
theorem ch4 {w : Cond} (i : Nat) (h : tables_1_4[i]? = some w) (hg : goodWord w = true) : w ∈ ALLg := ALLg_tb (List.mem_append_right _ (List.mem_append_right _ (List.mem_append_right _ (List.mem_append_left _ (List.mem_of_getElem? h))))) hg
theorem ch5 {w : Cond} (i : Nat) (h : tables_1_5[i]? = some w) (hg : goodWord w = true) : w ∈ ALLg := ALLg_tb (List.mem_append_right _ (List.mem_append_right _ (List.mem_append_right _ (List.mem_append_right _ (List.mem_append_left _ (List.mem_of_getElem? h)))))) hg
theorem ch6 {w : Cond} (i : Nat) (h : tables_1_6[i]? = some w) (hg : goodWord w = true) : w ∈ ALLg := ALLg_tb (List.mem_append_right _ (List.mem_append_right _ (List.mem_append_right _ (List.mem_append_right _ (List.mem_append_right _ (List.mem_append_left _ (List.mem_of_getElem? h))))))) hg
theorem ch7 {w : Cond} (i : Nat) (h : tables_1_7[i]? = some w) (hg : goodWord w = true) : w ∈ ALLg := ALLg_tb (List.mem_append_right _ (List.mem_append_right _ (List.mem_append_right _ (List.mem_append_right _ (List.mem_append_right _ (List.mem_append_right _ (List.mem_append_left _ (List.mem_of_getElem? h)))))))) hg
theorem ch8 {w : Cond} (i : Nat) (h : tables_1_8[i]? = some w) (hg : goodWord w = true) : w ∈ ALLg := ALLg_tb (List.mem_append_right _ (List.mem_append_right _ (List.mem_append_right _ (List.mem_append_right _ (List.mem_append_right _ (List.mem_append_right _ (List.mem_append_right _ (List.mem_of_getElem? h)))))))) hg
theorem sp1 {w : Cond} (i : Nat) (h : (lw_privs_1[i]?).map (fun q => Cond.selects q.1.cls q.1 q.1) = some w) (hg : goodWord w = true) : w ∈ ALLg := by
  obtain ⟨q, hq, hw⟩ := Option.map_eq_some_iff.mp h
  exact ALLg_sp (List.mem_append_left _ (List.mem_of_getElem? hq)) hw hg
theorem sp2 {w : Cond} (i : Nat) (h : (lw_privs_2[i]?).map (fun q => Cond.selects q.1.cls q.1 q.1) = some w) (hg : goodWord w = true) : w ∈ ALLg := by
  obtain ⟨q, hq, hw⟩ := Option.map_eq_some_iff.mp h
  exact ALLg_sp (List.mem_append_right _ (List.mem_append_left _ (List.mem_of_getElem? hq))) hw hg
theorem sp3 {w : Cond} (i : Nat) (h : (lw_privs_3[i]?).map (fun q => Cond.selects q.1.cls q.1 q.1) = some w) (hg : goodWord w = true) : w ∈ ALLg := by
  obtain ⟨q, hq, hw⟩ := Option.map_eq_some_iff.mp h
  exact ALLg_sp (List.mem_append_right _ (List.mem_append_right _ (List.mem_append_left _ (List.mem_of_getElem? hq)))) hw hg
theorem sp4 {w : Cond} (i : Nat) (h : (lw_privs_4[i]?).map (fun q => Cond.selects q.1.cls q.1 q.1) = some w) (hg : goodWord w = true) : w ∈ ALLg := by
  obtain ⟨q, hq, hw⟩ := Option.map_eq_some_iff.mp h
  exact ALLg_sp (List.mem_append_right _ (List.mem_append_right _ (List.mem_append_right _ (List.mem_append_left _ (List.mem_of_getElem? hq))))) hw hg
theorem sp5 {w : Cond} (i : Nat) (h : (lw_privs_5[i]?).map (fun q => Cond.selects q.1.cls q.1 q.1) = some w) (hg : goodWord w = true) : w ∈ ALLg := by
  obtain ⟨q, hq, hw⟩ := Option.map_eq_some_iff.mp h
  exact ALLg_sp (List.mem_append_right _ (List.mem_append_right _ (List.mem_append_right _ (List.mem_append_right _ (List.mem_append_left _ (List.mem_of_getElem? hq)))))) hw hg
theorem sp6 {w : Cond} (i : Nat) (h : (lw_privs_6[i]?).map (fun q => Cond.selects q.1.cls q.1 q.1) = some w) (hg : goodWord w = true) : w ∈ ALLg := by
  obtain ⟨q, hq, hw⟩ := Option.map_eq_some_iff.mp h
  exact ALLg_sp (List.mem_append_right _ (List.mem_append_right _ (List.mem_append_right _ (List.mem_append_right _ (List.mem_append_right _ (List.mem_append_left _ (List.mem_of_getElem? hq))))))) hw hg
theorem sp7 {w : Cond} (i : Nat) (h : (lw_privs_7[i]?).map (fun q => Cond.selects q.1.cls q.1 q.1) = some w) (hg : goodWord w = true) : w ∈ ALLg := by
  obtain ⟨q, hq, hw⟩ := Option.map_eq_some_iff.mp h
  exact ALLg_sp (List.mem_append_right _ (List.mem_append_right _ (List.mem_append_right _ (List.mem_append_right _ (List.mem_append_right _ (List.mem_append_right _ (List.mem_append_left _ (List.mem_of_getElem? hq)))))))) hw hg
theorem sp8 {w : Cond} (i : Nat) (h : (lw_privs_8[i]?).map (fun q => Cond.selects q.1.cls q.1 q.1) = some w) (hg : goodWord w = true) : w ∈ ALLg := by
  obtain ⟨q, hq, hw⟩ := Option.map_eq_some_iff.mp h
  exact ALLg_sp (List.mem_append_right _ (List.mem_append_right _ (List.mem_append_right _ (List.mem_append_right _ (List.mem_append_right _ (List.mem_append_right _ (List.mem_append_right _ (List.mem_of_getElem? hq)))))))) hw hg
def mInf : List (Nat × Nat) := [(0, 0), (0, 3), (0, 2), (0, 1), (0, 3), (0, 2), (0, 3), (0, 2), (0, 4), (0, 4), (0, 2), (0, 1), (0, 0), (0, 1), (0, 1), (0, 1), (0, 2), (0, 2), (0, 2), (0, 1), (0, 1), (0, 2), (0, 2), (0, 2), (0, 2), (0, 1), (0, 3), (0, 0), (0, 2), (0, 1), (0, 1), (0, 2), (0, 1), (0, 1), (1, 2), (0, 1), (0, 2), (0, 2), (0, 1), (0, 1), (1, 1), (0, 1), (0, 1), (0, 3), (0, 2), (0, 2), (0, 1), (0, 3), (0, 3), (0, 4), (0, 1), (0, 1), (0, 3), (0, 2), (0, 2), (0, 2), (0, 1), (0, 1), (0, 2), (0, 1), (0, 0), (0, 2), (0, 0), (0, 2), (0, 1), (0, 0), (0, 2), (0, 2), (0, 1), (0, 0), (0, 0), (0, 0), (0, 1), (0, 5), (0, 1), (0, 0), (0, 0), (0, 1), (0, 2), (0, 2), (0, 1), (0, 1), (0, 0), (0, 1), (0, 1), (0, 1), (0, 0), (0, 3), (0, 1), (0, 0), (0, 2), (0, 1), (0, 1), (0, 2), (0, 2), (0, 2), (0, 0), (0, 1), (0, 4), (0, 3), (0, 1), (0, 2), (0, 1), (0, 1), (0, 1), (0, 1), (0, 1), (0, 0), (0, 0), (0, 0), (0, 0), (1, 3), (1, 2), (0, 1), (0, 5), (0, 1), (0, 2), (0, 0), (0, 1), (0, 1), (0, 1), (0, 0), (0, 1), (0, 2), (0, 0), (0, 2), (0, 1), (0, 1), (1, 1), (0, 1), (0, 0), (0, 0), (0, 0), (0, 0), (0, 0), (0, 0), (0, 0), (0, 0), (0, 0), (0, 3), (0, 1), (0, 1), (0, 0), (0, 1), (0, 0), (0, 1), (0, 0), (0, 0), (0, 0), (0, 0), (0, 0), (0, 1), (0, 1), (0, 0), (1, 3), (0, 3), (0, 0), (0, 1), (0, 1), (0, 2), (0, 2), (0, 2), (0, 1), (0, 1), (0, 1), (0, 0), (0, 1), (0, 2), (0, 2), (0, 1), (0, 1), (0, 1), (0, 1), (0, 1), (0, 1), (0, 0), (0, 2), (0, 3), (0, 1), (0, 0), (0, 0), (0, 0), (0, 0), (0, 0), (0, 1), (0, 1), (0, 1), (0, 1), (0, 1), (0, 0), (0, 0), (0, 3), (0, 1), (0, 0), (0, 0), (0, 0), (0, 1), (0, 3), (0, 2), (0, 2), (0, 1), (0, 0), (0, 1), (1, 1), (0, 2), (0, 1), (0, 1), (0, 2), (0, 2), (0, 2), (1, 1), (0, 2), (0, 2), (0, 2), (0, 3), (0, 0), (0, 0), (0, 1), (0, 1), (0, 1), (0, 2), (0, 0), (0, 1), (0, 1), (0, 1), (0, 4), (0, 1), (0, 1), (0, 1), (1, 1)]
def mKd (x : Nat) : Nat := (mInf.getD x (2, 0)).1
def mNa (x : Nat) : Nat := (mInf.getD x (2, 0)).2
def mBB (x : Nat) : Bool := plainName (mNm x).cls && decide ((mNm x).cls ≠ "java/lang/invoke/MethodHandle" ∧ (mNm x).cls ≠ "java/lang/invoke/VarHandle") && decide ((parseMethodDescriptor (mNm x).desc).map (fun d => d.parameters.length) = some (mNa x)) && Nat.ble (mML x) 21
def mWP (x : Nat) : Prop := Cond.code (mNm x) (mCd x) (mML x) (mRt x) ∈ ALLg ∧ Cond.initialized (mNm x).cls ∈ ALLg ∧ (mKd x = 0 → Cond.instanceMethod (mNm x) ∈ ALLg ∧ Cond.selects (mNm x).cls (mNm x) (mNm x) ∈ ALLg) ∧ (mKd x = 1 → Cond.static (mNm x) ∈ ALLg)
theorem mB : ∀ x, x < 230 → mBB x = true := by decide +kernel
theorem mW_0 : mWP 0 := ⟨(ch4 180 rfl rfl), (ch1 9 rfl rfl), fun _ => ⟨(ch4 179 rfl rfl), (sp2 9 rfl rfl)⟩, fun h => absurd h (by decide)⟩
theorem mW_1 : mWP 1 := ⟨(ch4 170 rfl rfl), (ch1 9 rfl rfl), fun _ => ⟨(ch4 168 rfl rfl), (ch4 169 rfl rfl)⟩, fun h => absurd h (by decide)⟩
theorem mW_2 : mWP 2 := ⟨(ch4 176 rfl rfl), (ch1 9 rfl rfl), fun _ => ⟨(ch4 175 rfl rfl), (sp2 8 rfl rfl)⟩, fun h => absurd h (by decide)⟩
theorem mW_3 : mWP 3 := ⟨(ch4 184 rfl rfl), (ch1 9 rfl rfl), fun _ => ⟨(ch4 183 rfl rfl), (sp2 10 rfl rfl)⟩, fun h => absurd h (by decide)⟩
theorem mW_4 : mWP 4 := ⟨(ch5 21 rfl rfl), (ch1 9 rfl rfl), fun _ => ⟨(ch5 19 rfl rfl), (ch5 20 rfl rfl)⟩, fun h => absurd h (by decide)⟩
theorem mW_5 : mWP 5 := ⟨(ch5 25 rfl rfl), (ch1 9 rfl rfl), fun _ => ⟨(ch5 24 rfl rfl), (sp3 0 rfl rfl)⟩, fun h => absurd h (by decide)⟩
theorem mW_6 : mWP 6 := ⟨(ch5 29 rfl rfl), (ch1 9 rfl rfl), fun _ => ⟨(ch5 28 rfl rfl), (sp3 1 rfl rfl)⟩, fun h => absurd h (by decide)⟩
theorem mW_7 : mWP 7 := ⟨(ch4 225 rfl rfl), (ch1 9 rfl rfl), fun _ => ⟨(ch4 223 rfl rfl), (ch4 224 rfl rfl)⟩, fun h => absurd h (by decide)⟩
theorem mW_8 : mWP 8 := ⟨(ch4 229 rfl rfl), (ch1 9 rfl rfl), fun _ => ⟨(ch4 228 rfl rfl), (sp2 15 rfl rfl)⟩, fun h => absurd h (by decide)⟩
theorem mW_9 : mWP 9 := ⟨(ch5 67 rfl rfl), (ch1 11 rfl rfl), fun _ => ⟨(ch5 65 rfl rfl), (ch5 66 rfl rfl)⟩, fun h => absurd h (by decide)⟩
theorem mW_10 : mWP 10 := ⟨(ch5 72 rfl rfl), (ch1 11 rfl rfl), fun _ => ⟨(ch5 71 rfl rfl), (sp3 2 rfl rfl)⟩, fun h => absurd h (by decide)⟩
theorem mW_11 : mWP 11 := ⟨(ch5 96 rfl rfl), (ch1 11 rfl rfl), fun _ => ⟨(ch5 94 rfl rfl), (ch5 95 rfl rfl)⟩, fun h => absurd h (by decide)⟩
theorem mW_12 : mWP 12 := ⟨(ch5 92 rfl rfl), (ch1 11 rfl rfl), fun _ => ⟨(ch5 90 rfl rfl), (ch5 91 rfl rfl)⟩, fun h => absurd h (by decide)⟩
theorem mW_13 : mWP 13 := ⟨(ch4 49 rfl rfl), (ch1 7 rfl rfl), fun _ => ⟨(ch4 47 rfl rfl), (ch4 48 rfl rfl)⟩, fun h => absurd h (by decide)⟩
theorem mW_14 : mWP 14 := ⟨(ch4 53 rfl rfl), (ch1 7 rfl rfl), fun _ => ⟨(ch4 51 rfl rfl), (ch4 52 rfl rfl)⟩, fun h => absurd h (by decide)⟩
theorem mW_15 : mWP 15 := ⟨(ch4 57 rfl rfl), (ch1 7 rfl rfl), fun _ => ⟨(ch4 55 rfl rfl), (ch4 56 rfl rfl)⟩, fun h => absurd h (by decide)⟩
theorem mW_16 : mWP 16 := ⟨(ch4 62 rfl rfl), (ch1 7 rfl rfl), fun _ => ⟨(ch4 60 rfl rfl), (ch4 61 rfl rfl)⟩, fun h => absurd h (by decide)⟩
theorem mW_17 : mWP 17 := ⟨(ch4 66 rfl rfl), (ch1 7 rfl rfl), fun _ => ⟨(ch4 65 rfl rfl), (sp2 0 rfl rfl)⟩, fun h => absurd h (by decide)⟩
theorem mW_18 : mWP 18 := ⟨(ch4 70 rfl rfl), (ch1 7 rfl rfl), fun _ => ⟨(ch4 69 rfl rfl), (sp2 1 rfl rfl)⟩, fun h => absurd h (by decide)⟩
theorem mW_19 : mWP 19 := ⟨(ch4 77 rfl rfl), (ch1 7 rfl rfl), fun _ => ⟨(ch4 76 rfl rfl), (sp2 2 rfl rfl)⟩, fun h => absurd h (by decide)⟩
theorem mW_20 : mWP 20 := ⟨(ch4 89 rfl rfl), (ch1 7 rfl rfl), fun _ => ⟨(ch4 87 rfl rfl), (ch4 88 rfl rfl)⟩, fun h => absurd h (by decide)⟩
theorem mW_21 : mWP 21 := ⟨(ch4 93 rfl rfl), (ch1 7 rfl rfl), fun _ => ⟨(ch4 92 rfl rfl), (sp2 4 rfl rfl)⟩, fun h => absurd h (by decide)⟩
theorem mW_22 : mWP 22 := ⟨(ch4 97 rfl rfl), (ch1 7 rfl rfl), fun _ => ⟨(ch4 96 rfl rfl), (sp2 5 rfl rfl)⟩, fun h => absurd h (by decide)⟩
theorem mW_23 : mWP 23 := ⟨(ch4 101 rfl rfl), (ch1 7 rfl rfl), fun _ => ⟨(ch4 100 rfl rfl), (sp2 6 rfl rfl)⟩, fun h => absurd h (by decide)⟩
theorem mW_24 : mWP 24 := ⟨(ch4 105 rfl rfl), (ch1 7 rfl rfl), fun _ => ⟨(ch4 104 rfl rfl), (sp2 7 rfl rfl)⟩, fun h => absurd h (by decide)⟩
theorem mW_25 : mWP 25 := ⟨(ch5 111 rfl rfl), (ch1 6 rfl rfl), fun _ => ⟨(ch5 109 rfl rfl), (ch5 110 rfl rfl)⟩, fun h => absurd h (by decide)⟩
theorem mW_26 : mWP 26 := ⟨(ch5 59 rfl rfl), (ch1 6 rfl rfl), fun _ => ⟨(ch5 57 rfl rfl), (ch5 58 rfl rfl)⟩, fun h => absurd h (by decide)⟩
theorem mW_27 : mWP 27 := ⟨(ch5 76 rfl rfl), (ch1 6 rfl rfl), fun _ => ⟨(ch5 74 rfl rfl), (ch5 75 rfl rfl)⟩, fun h => absurd h (by decide)⟩
theorem mW_28 : mWP 28 := ⟨(ch5 83 rfl rfl), (ch1 6 rfl rfl), fun _ => ⟨(ch5 81 rfl rfl), (ch5 82 rfl rfl)⟩, fun h => absurd h (by decide)⟩
theorem mW_29 : mWP 29 := ⟨(ch3 155 rfl rfl), (ch1 3 rfl rfl), fun _ => ⟨(ch3 153 rfl rfl), (ch3 154 rfl rfl)⟩, fun h => absurd h (by decide)⟩
theorem mW_30 : mWP 30 := ⟨(ch3 63 rfl rfl), (ch1 3 rfl rfl), fun _ => ⟨(ch3 61 rfl rfl), (ch3 62 rfl rfl)⟩, fun h => absurd h (by decide)⟩
theorem mW_31 : mWP 31 := ⟨(ch3 71 rfl rfl), (ch1 3 rfl rfl), fun _ => ⟨(ch3 70 rfl rfl), (sp1 0 rfl rfl)⟩, fun h => absurd h (by decide)⟩
theorem mW_32 : mWP 32 := ⟨(ch3 150 rfl rfl), (ch1 3 rfl rfl), fun _ => ⟨(ch3 149 rfl rfl), (sp1 2 rfl rfl)⟩, fun h => absurd h (by decide)⟩
theorem mW_33 : mWP 33 := ⟨(ch3 168 rfl rfl), (ch1 12 rfl rfl), fun _ => ⟨(ch3 166 rfl rfl), (ch3 167 rfl rfl)⟩, fun h => absurd h (by decide)⟩
theorem mW_34 : mWP 34 := ⟨(ch3 172 rfl rfl), (ch1 12 rfl rfl), fun h => absurd h (by decide), fun _ => (ch3 171 rfl rfl)⟩
theorem mW_35 : mWP 35 := ⟨(ch3 192 rfl rfl), (ch1 12 rfl rfl), fun _ => ⟨(ch3 191 rfl rfl), (sp1 5 rfl rfl)⟩, fun h => absurd h (by decide)⟩
theorem mW_36 : mWP 36 := ⟨(ch3 200 rfl rfl), (ch1 12 rfl rfl), fun _ => ⟨(ch3 199 rfl rfl), (sp1 6 rfl rfl)⟩, fun h => absurd h (by decide)⟩
theorem mW_37 : mWP 37 := ⟨(ch3 204 rfl rfl), (ch1 12 rfl rfl), fun _ => ⟨(ch3 203 rfl rfl), (sp1 7 rfl rfl)⟩, fun h => absurd h (by decide)⟩
theorem mW_38 : mWP 38 := ⟨(ch3 209 rfl rfl), (ch1 12 rfl rfl), fun _ => ⟨(ch3 208 rfl rfl), (sp1 8 rfl rfl)⟩, fun h => absurd h (by decide)⟩
theorem mW_39 : mWP 39 := ⟨(ch3 181 rfl rfl), (ch1 12 rfl rfl), fun _ => ⟨(ch3 180 rfl rfl), (sp1 3 rfl rfl)⟩, fun h => absurd h (by decide)⟩
theorem mW_40 : mWP 40 := ⟨(ch3 195 rfl rfl), (ch1 12 rfl rfl), fun h => absurd h (by decide), fun _ => (ch3 194 rfl rfl)⟩
theorem mW_41 : mWP 41 := ⟨(ch3 185 rfl rfl), (ch1 12 rfl rfl), fun _ => ⟨(ch3 184 rfl rfl), (sp1 4 rfl rfl)⟩, fun h => absurd h (by decide)⟩
theorem mW_42 : mWP 42 := ⟨(ch4 81 rfl rfl), (ch1 12 rfl rfl), fun _ => ⟨(ch4 79 rfl rfl), (ch4 80 rfl rfl)⟩, fun h => absurd h (by decide)⟩
theorem mW_43 : mWP 43 := ⟨(ch4 85 rfl rfl), (ch1 12 rfl rfl), fun _ => ⟨(ch4 84 rfl rfl), (sp2 3 rfl rfl)⟩, fun h => absurd h (by decide)⟩
theorem mW_44 : mWP 44 := ⟨(ch4 140 rfl rfl), (ch1 8 rfl rfl), fun _ => ⟨(ch4 138 rfl rfl), (ch4 139 rfl rfl)⟩, fun h => absurd h (by decide)⟩
theorem mW_45 : mWP 45 := ⟨(ch4 150 rfl rfl), (ch1 8 rfl rfl), fun _ => ⟨(ch4 148 rfl rfl), (ch4 149 rfl rfl)⟩, fun h => absurd h (by decide)⟩
theorem mW_46 : mWP 46 := ⟨(ch4 158 rfl rfl), (ch1 8 rfl rfl), fun _ => ⟨(ch4 156 rfl rfl), (ch4 157 rfl rfl)⟩, fun h => absurd h (by decide)⟩
theorem mW_47 : mWP 47 := ⟨(ch4 239 rfl rfl), (ch1 8 rfl rfl), fun _ => ⟨(ch4 237 rfl rfl), (ch4 238 rfl rfl)⟩, fun h => absurd h (by decide)⟩
theorem mW_48 : mWP 48 := ⟨(ch5 13 rfl rfl), (ch1 8 rfl rfl), fun _ => ⟨(ch5 11 rfl rfl), (ch5 12 rfl rfl)⟩, fun h => absurd h (by decide)⟩
theorem mW_49 : mWP 49 := ⟨(ch5 46 rfl rfl), (ch1 8 rfl rfl), fun _ => ⟨(ch5 44 rfl rfl), (ch5 45 rfl rfl)⟩, fun h => absurd h (by decide)⟩
theorem mW_50 : mWP 50 := ⟨(ch4 38 rfl rfl), (ch1 5 rfl rfl), fun _ => ⟨(ch4 36 rfl rfl), (ch4 37 rfl rfl)⟩, fun h => absurd h (by decide)⟩
theorem mW_51 : mWP 51 := ⟨(ch3 159 rfl rfl), (ch1 5 rfl rfl), fun _ => ⟨(ch3 157 rfl rfl), (ch3 158 rfl rfl)⟩, fun h => absurd h (by decide)⟩
theorem mW_52 : mWP 52 := ⟨(ch3 230 rfl rfl), (ch1 5 rfl rfl), fun _ => ⟨(ch3 228 rfl rfl), (ch3 229 rfl rfl)⟩, fun h => absurd h (by decide)⟩
theorem mW_53 : mWP 53 := ⟨(ch3 226 rfl rfl), (ch1 5 rfl rfl), fun _ => ⟨(ch3 224 rfl rfl), (ch3 225 rfl rfl)⟩, fun h => absurd h (by decide)⟩
theorem mW_54 : mWP 54 := ⟨(ch4 122 rfl rfl), (ch1 5 rfl rfl), fun _ => ⟨(ch4 120 rfl rfl), (ch4 121 rfl rfl)⟩, fun h => absurd h (by decide)⟩
theorem mW_55 : mWP 55 := ⟨(ch4 126 rfl rfl), (ch1 5 rfl rfl), fun _ => ⟨(ch4 124 rfl rfl), (ch4 125 rfl rfl)⟩, fun h => absurd h (by decide)⟩
theorem mW_56 : mWP 56 := ⟨(ch4 18 rfl rfl), (ch1 5 rfl rfl), fun _ => ⟨(ch4 16 rfl rfl), (ch4 17 rfl rfl)⟩, fun h => absurd h (by decide)⟩
theorem mW_57 : mWP 57 := ⟨(ch4 162 rfl rfl), (ch1 5 rfl rfl), fun _ => ⟨(ch4 160 rfl rfl), (ch4 161 rfl rfl)⟩, fun h => absurd h (by decide)⟩
theorem mW_58 : mWP 58 := ⟨(ch3 234 rfl rfl), (ch1 5 rfl rfl), fun _ => ⟨(ch3 232 rfl rfl), (ch3 233 rfl rfl)⟩, fun h => absurd h (by decide)⟩
theorem mW_59 : mWP 59 := ⟨(ch3 51 rfl rfl), (ch1 2 rfl rfl), fun _ => ⟨(ch3 49 rfl rfl), (ch3 50 rfl rfl)⟩, fun h => absurd h (by decide)⟩
theorem mW_60 : mWP 60 := ⟨(ch3 67 rfl rfl), (ch1 2 rfl rfl), fun _ => ⟨(ch3 65 rfl rfl), (ch3 66 rfl rfl)⟩, fun h => absurd h (by decide)⟩
theorem mW_61 : mWP 61 := ⟨(ch3 136 rfl rfl), (ch1 2 rfl rfl), fun _ => ⟨(ch3 134 rfl rfl), (ch3 135 rfl rfl)⟩, fun h => absurd h (by decide)⟩
theorem mW_62 : mWP 62 := ⟨(ch3 75 rfl rfl), (ch1 2 rfl rfl), fun _ => ⟨(ch3 73 rfl rfl), (ch3 74 rfl rfl)⟩, fun h => absurd h (by decide)⟩
theorem mW_63 : mWP 63 := ⟨(ch3 84 rfl rfl), (ch1 2 rfl rfl), fun _ => ⟨(ch3 83 rfl rfl), (sp1 1 rfl rfl)⟩, fun h => absurd h (by decide)⟩
theorem mW_64 : mWP 64 := ⟨(ch3 80 rfl rfl), (ch1 2 rfl rfl), fun _ => ⟨(ch3 78 rfl rfl), (ch3 79 rfl rfl)⟩, fun h => absurd h (by decide)⟩
theorem mW_65 : mWP 65 := ⟨(ch3 140 rfl rfl), (ch1 2 rfl rfl), fun _ => ⟨(ch3 138 rfl rfl), (ch3 139 rfl rfl)⟩, fun h => absurd h (by decide)⟩
theorem mW_66 : mWP 66 := ⟨(ch3 144 rfl rfl), (ch1 2 rfl rfl), fun _ => ⟨(ch3 142 rfl rfl), (ch3 143 rfl rfl)⟩, fun h => absurd h (by decide)⟩
theorem mW_67 : mWP 67 := ⟨(ch4 194 rfl rfl), (ch1 10 rfl rfl), fun _ => ⟨(ch4 192 rfl rfl), (ch4 193 rfl rfl)⟩, fun h => absurd h (by decide)⟩
theorem mW_68 : mWP 68 := ⟨(ch4 200 rfl rfl), (ch1 10 rfl rfl), fun _ => ⟨(ch4 199 rfl rfl), (sp2 11 rfl rfl)⟩, fun h => absurd h (by decide)⟩
theorem mW_69 : mWP 69 := ⟨(ch4 210 rfl rfl), (ch1 10 rfl rfl), fun _ => ⟨(ch4 209 rfl rfl), (sp2 13 rfl rfl)⟩, fun h => absurd h (by decide)⟩
theorem mW_70 : mWP 70 := ⟨(ch4 205 rfl rfl), (ch1 10 rfl rfl), fun _ => ⟨(ch4 204 rfl rfl), (sp2 12 rfl rfl)⟩, fun h => absurd h (by decide)⟩
theorem mW_71 : mWP 71 := ⟨(ch4 217 rfl rfl), (ch1 10 rfl rfl), fun _ => ⟨(ch4 216 rfl rfl), (sp2 14 rfl rfl)⟩, fun h => absurd h (by decide)⟩
theorem mW_72 : mWP 72 := ⟨(ch5 105 rfl rfl), (ch1 4 rfl rfl), fun _ => ⟨(ch5 103 rfl rfl), (ch5 104 rfl rfl)⟩, fun h => absurd h (by decide)⟩
theorem mW_73 : mWP 73 := ⟨(ch3 47 rfl rfl), (ch1 1 rfl rfl), fun _ => ⟨(ch3 45 rfl rfl), (ch3 46 rfl rfl)⟩, fun h => absurd h (by decide)⟩
theorem mW_74 : mWP 74 := ⟨(ch3 55 rfl rfl), (ch1 1 rfl rfl), fun _ => ⟨(ch3 53 rfl rfl), (ch3 54 rfl rfl)⟩, fun h => absurd h (by decide)⟩
theorem mW_75 : mWP 75 := ⟨(ch3 59 rfl rfl), (ch1 1 rfl rfl), fun _ => ⟨(ch3 57 rfl rfl), (ch3 58 rfl rfl)⟩, fun h => absurd h (by decide)⟩
theorem mW_76 : mWP 76 := ⟨(ch3 164 rfl rfl), (ch1 1 rfl rfl), fun _ => ⟨(ch3 162 rfl rfl), (ch3 163 rfl rfl)⟩, fun h => absurd h (by decide)⟩
theorem mW_77 : mWP 77 := ⟨(ch3 214 rfl rfl), (ch1 1 rfl rfl), fun _ => ⟨(ch3 212 rfl rfl), (ch3 213 rfl rfl)⟩, fun h => absurd h (by decide)⟩
theorem mW_78 : mWP 78 := ⟨(ch3 218 rfl rfl), (ch1 1 rfl rfl), fun _ => ⟨(ch3 216 rfl rfl), (ch3 217 rfl rfl)⟩, fun h => absurd h (by decide)⟩
theorem mW_79 : mWP 79 := ⟨(ch3 238 rfl rfl), (ch1 1 rfl rfl), fun _ => ⟨(ch3 236 rfl rfl), (ch3 237 rfl rfl)⟩, fun h => absurd h (by decide)⟩
theorem mW_80 : mWP 80 := ⟨(ch4 6 rfl rfl), (ch1 1 rfl rfl), fun _ => ⟨(ch4 4 rfl rfl), (ch4 5 rfl rfl)⟩, fun h => absurd h (by decide)⟩
theorem mW_81 : mWP 81 := ⟨(ch4 14 rfl rfl), (ch1 1 rfl rfl), fun _ => ⟨(ch4 12 rfl rfl), (ch4 13 rfl rfl)⟩, fun h => absurd h (by decide)⟩
theorem mW_82 : mWP 82 := ⟨(ch4 30 rfl rfl), (ch1 1 rfl rfl), fun _ => ⟨(ch4 28 rfl rfl), (ch4 29 rfl rfl)⟩, fun h => absurd h (by decide)⟩
theorem mW_83 : mWP 83 := ⟨(ch4 110 rfl rfl), (ch1 1 rfl rfl), fun _ => ⟨(ch4 108 rfl rfl), (ch4 109 rfl rfl)⟩, fun h => absurd h (by decide)⟩
theorem mW_84 : mWP 84 := ⟨(ch4 114 rfl rfl), (ch1 1 rfl rfl), fun _ => ⟨(ch4 112 rfl rfl), (ch4 113 rfl rfl)⟩, fun h => absurd h (by decide)⟩
theorem mW_85 : mWP 85 := ⟨(ch4 118 rfl rfl), (ch1 1 rfl rfl), fun _ => ⟨(ch4 116 rfl rfl), (ch4 117 rfl rfl)⟩, fun h => absurd h (by decide)⟩
theorem mW_86 : mWP 86 := ⟨(ch4 132 rfl rfl), (ch1 1 rfl rfl), fun _ => ⟨(ch4 130 rfl rfl), (ch4 131 rfl rfl)⟩, fun h => absurd h (by decide)⟩
theorem mW_87 : mWP 87 := ⟨(ch4 136 rfl rfl), (ch1 1 rfl rfl), fun _ => ⟨(ch4 134 rfl rfl), (ch4 135 rfl rfl)⟩, fun h => absurd h (by decide)⟩
theorem mW_88 : mWP 88 := ⟨(ch4 146 rfl rfl), (ch1 1 rfl rfl), fun _ => ⟨(ch4 144 rfl rfl), (ch4 145 rfl rfl)⟩, fun h => absurd h (by decide)⟩
theorem mW_89 : mWP 89 := ⟨(ch4 154 rfl rfl), (ch1 1 rfl rfl), fun _ => ⟨(ch4 152 rfl rfl), (ch4 153 rfl rfl)⟩, fun h => absurd h (by decide)⟩
theorem mW_90 : mWP 90 := ⟨(ch4 166 rfl rfl), (ch1 1 rfl rfl), fun _ => ⟨(ch4 164 rfl rfl), (ch4 165 rfl rfl)⟩, fun h => absurd h (by decide)⟩
theorem mW_91 : mWP 91 := ⟨(ch4 190 rfl rfl), (ch1 1 rfl rfl), fun _ => ⟨(ch4 188 rfl rfl), (ch4 189 rfl rfl)⟩, fun h => absurd h (by decide)⟩
theorem mW_92 : mWP 92 := ⟨(ch4 221 rfl rfl), (ch1 1 rfl rfl), fun _ => ⟨(ch4 219 rfl rfl), (ch4 220 rfl rfl)⟩, fun h => absurd h (by decide)⟩
theorem mW_93 : mWP 93 := ⟨(ch4 234 rfl rfl), (ch1 1 rfl rfl), fun _ => ⟨(ch4 232 rfl rfl), (ch4 233 rfl rfl)⟩, fun h => absurd h (by decide)⟩
theorem mW_94 : mWP 94 := ⟨(ch5 9 rfl rfl), (ch1 1 rfl rfl), fun _ => ⟨(ch5 7 rfl rfl), (ch5 8 rfl rfl)⟩, fun h => absurd h (by decide)⟩
theorem mW_95 : mWP 95 := ⟨(ch5 17 rfl rfl), (ch1 1 rfl rfl), fun _ => ⟨(ch5 15 rfl rfl), (ch5 16 rfl rfl)⟩, fun h => absurd h (by decide)⟩
theorem mW_96 : mWP 96 := ⟨(ch5 34 rfl rfl), (ch1 1 rfl rfl), fun _ => ⟨(ch5 32 rfl rfl), (ch5 33 rfl rfl)⟩, fun h => absurd h (by decide)⟩
theorem mW_97 : mWP 97 := ⟨(ch5 38 rfl rfl), (ch1 1 rfl rfl), fun _ => ⟨(ch5 36 rfl rfl), (ch5 37 rfl rfl)⟩, fun h => absurd h (by decide)⟩
theorem mW_98 : mWP 98 := ⟨(ch5 42 rfl rfl), (ch1 1 rfl rfl), fun _ => ⟨(ch5 40 rfl rfl), (ch5 41 rfl rfl)⟩, fun h => absurd h (by decide)⟩
theorem mW_99 : mWP 99 := ⟨(ch5 55 rfl rfl), (ch1 1 rfl rfl), fun _ => ⟨(ch5 53 rfl rfl), (ch5 54 rfl rfl)⟩, fun h => absurd h (by decide)⟩
theorem mW_100 : mWP 100 := ⟨(ch5 63 rfl rfl), (ch1 1 rfl rfl), fun _ => ⟨(ch5 61 rfl rfl), (ch5 62 rfl rfl)⟩, fun h => absurd h (by decide)⟩
theorem mW_101 : mWP 101 := ⟨(ch5 88 rfl rfl), (ch1 1 rfl rfl), fun _ => ⟨(ch5 86 rfl rfl), (ch5 87 rfl rfl)⟩, fun h => absurd h (by decide)⟩
theorem mW_102 : mWP 102 := ⟨(ch5 101 rfl rfl), (ch1 1 rfl rfl), fun _ => ⟨(ch5 99 rfl rfl), (ch5 100 rfl rfl)⟩, fun h => absurd h (by decide)⟩
theorem mW_103 : mWP 103 := ⟨(ch5 115 rfl rfl), (ch1 1 rfl rfl), fun _ => ⟨(ch5 113 rfl rfl), (ch5 114 rfl rfl)⟩, fun h => absurd h (by decide)⟩
theorem mW_104 : mWP 104 := ⟨(ch3 222 rfl rfl), (ch1 1 rfl rfl), fun _ => ⟨(ch3 221 rfl rfl), (sp1 9 rfl rfl)⟩, fun h => absurd h (by decide)⟩
theorem mW_105 : mWP 105 := ⟨(ch4 2 rfl rfl), (ch1 1 rfl rfl), fun _ => ⟨(ch4 1 rfl rfl), (sp1 10 rfl rfl)⟩, fun h => absurd h (by decide)⟩
theorem mW_106 : mWP 106 := ⟨(ch4 10 rfl rfl), (ch1 1 rfl rfl), fun _ => ⟨(ch4 9 rfl rfl), (sp1 11 rfl rfl)⟩, fun h => absurd h (by decide)⟩
theorem mW_107 : mWP 107 := ⟨(ch4 45 rfl rfl), (ch1 1 rfl rfl), fun _ => ⟨(ch4 44 rfl rfl), (sp1 15 rfl rfl)⟩, fun h => absurd h (by decide)⟩
theorem mW_108 : mWP 108 := ⟨(ch4 34 rfl rfl), (ch1 1 rfl rfl), fun _ => ⟨(ch4 33 rfl rfl), (sp1 14 rfl rfl)⟩, fun h => absurd h (by decide)⟩
theorem mW_109 : mWP 109 := ⟨(ch4 22 rfl rfl), (ch1 1 rfl rfl), fun _ => ⟨(ch4 21 rfl rfl), (sp1 12 rfl rfl)⟩, fun h => absurd h (by decide)⟩
theorem mW_110 : mWP 110 := ⟨(ch4 26 rfl rfl), (ch1 1 rfl rfl), fun _ => ⟨(ch4 25 rfl rfl), (sp1 13 rfl rfl)⟩, fun h => absurd h (by decide)⟩
theorem mW_111 : mWP 111 := ⟨(ch6 104 rfl rfl), (ch1 13 rfl rfl), fun h => absurd h (by decide), fun _ => (ch6 103 rfl rfl)⟩
theorem mW_112 : mWP 112 := ⟨(ch7 57 rfl rfl), (ch1 13 rfl rfl), fun h => absurd h (by decide), fun _ => (ch7 56 rfl rfl)⟩
theorem mW_113 : mWP 113 := ⟨(ch6 40 rfl rfl), (ch1 13 rfl rfl), fun _ => ⟨(ch6 39 rfl rfl), (sp3 3 rfl rfl)⟩, fun h => absurd h (by decide)⟩
theorem mW_114 : mWP 114 := ⟨(ch6 36 rfl rfl), (ch1 13 rfl rfl), fun _ => ⟨(ch6 34 rfl rfl), (ch6 35 rfl rfl)⟩, fun h => absurd h (by decide)⟩
theorem mW_115 : mWP 115 := ⟨(ch6 44 rfl rfl), (ch1 13 rfl rfl), fun _ => ⟨(ch6 42 rfl rfl), (ch6 43 rfl rfl)⟩, fun h => absurd h (by decide)⟩
theorem mW_116 : mWP 116 := ⟨(ch6 81 rfl rfl), (ch1 13 rfl rfl), fun _ => ⟨(ch6 80 rfl rfl), (sp3 10 rfl rfl)⟩, fun h => absurd h (by decide)⟩
theorem mW_117 : mWP 117 := ⟨(ch6 60 rfl rfl), (ch1 13 rfl rfl), fun _ => ⟨(ch6 59 rfl rfl), (sp3 6 rfl rfl)⟩, fun h => absurd h (by decide)⟩
theorem mW_118 : mWP 118 := ⟨(ch6 101 rfl rfl), (ch1 13 rfl rfl), fun _ => ⟨(ch6 100 rfl rfl), (sp3 15 rfl rfl)⟩, fun h => absurd h (by decide)⟩
theorem mW_119 : mWP 119 := ⟨(ch6 73 rfl rfl), (ch1 13 rfl rfl), fun _ => ⟨(ch6 72 rfl rfl), (sp3 9 rfl rfl)⟩, fun h => absurd h (by decide)⟩
theorem mW_120 : mWP 120 := ⟨(ch6 69 rfl rfl), (ch1 13 rfl rfl), fun _ => ⟨(ch6 68 rfl rfl), (sp3 8 rfl rfl)⟩, fun h => absurd h (by decide)⟩
theorem mW_121 : mWP 121 := ⟨(ch6 93 rfl rfl), (ch1 13 rfl rfl), fun _ => ⟨(ch6 92 rfl rfl), (sp3 13 rfl rfl)⟩, fun h => absurd h (by decide)⟩
theorem mW_122 : mWP 122 := ⟨(ch6 125 rfl rfl), (ch1 13 rfl rfl), fun _ => ⟨(ch6 124 rfl rfl), (sp4 4 rfl rfl)⟩, fun h => absurd h (by decide)⟩
theorem mW_123 : mWP 123 := ⟨(ch6 97 rfl rfl), (ch1 13 rfl rfl), fun _ => ⟨(ch6 96 rfl rfl), (sp3 14 rfl rfl)⟩, fun h => absurd h (by decide)⟩
theorem mW_124 : mWP 124 := ⟨(ch6 161 rfl rfl), (ch1 13 rfl rfl), fun _ => ⟨(ch6 160 rfl rfl), (sp4 12 rfl rfl)⟩, fun h => absurd h (by decide)⟩
theorem mW_125 : mWP 125 := ⟨(ch6 157 rfl rfl), (ch1 13 rfl rfl), fun _ => ⟨(ch6 156 rfl rfl), (sp4 11 rfl rfl)⟩, fun h => absurd h (by decide)⟩
theorem mW_126 : mWP 126 := ⟨(ch6 153 rfl rfl), (ch1 13 rfl rfl), fun _ => ⟨(ch6 152 rfl rfl), (sp4 10 rfl rfl)⟩, fun h => absurd h (by decide)⟩
theorem mW_127 : mWP 127 := ⟨(ch6 187 rfl rfl), (ch1 13 rfl rfl), fun _ => ⟨(ch6 186 rfl rfl), (sp4 15 rfl rfl)⟩, fun h => absurd h (by decide)⟩
theorem mW_128 : mWP 128 := ⟨(ch6 202 rfl rfl), (ch1 13 rfl rfl), fun h => absurd h (by decide), fun _ => (ch6 201 rfl rfl)⟩
theorem mW_129 : mWP 129 := ⟨(ch6 199 rfl rfl), (ch1 13 rfl rfl), fun _ => ⟨(ch6 198 rfl rfl), (sp5 2 rfl rfl)⟩, fun h => absurd h (by decide)⟩
theorem mW_130 : mWP 130 := ⟨(ch6 148 rfl rfl), (ch1 13 rfl rfl), fun _ => ⟨(ch6 147 rfl rfl), (sp4 9 rfl rfl)⟩, fun h => absurd h (by decide)⟩
theorem mW_131 : mWP 131 := ⟨(ch6 144 rfl rfl), (ch1 13 rfl rfl), fun _ => ⟨(ch6 143 rfl rfl), (sp4 8 rfl rfl)⟩, fun h => absurd h (by decide)⟩
theorem mW_132 : mWP 132 := ⟨(ch6 140 rfl rfl), (ch1 13 rfl rfl), fun _ => ⟨(ch6 139 rfl rfl), (sp4 7 rfl rfl)⟩, fun h => absurd h (by decide)⟩
theorem mW_133 : mWP 133 := ⟨(ch6 191 rfl rfl), (ch1 13 rfl rfl), fun _ => ⟨(ch6 190 rfl rfl), (sp5 0 rfl rfl)⟩, fun h => absurd h (by decide)⟩
theorem mW_134 : mWP 134 := ⟨(ch6 182 rfl rfl), (ch1 13 rfl rfl), fun _ => ⟨(ch6 181 rfl rfl), (sp4 14 rfl rfl)⟩, fun h => absurd h (by decide)⟩
theorem mW_135 : mWP 135 := ⟨(ch6 206 rfl rfl), (ch1 13 rfl rfl), fun _ => ⟨(ch6 205 rfl rfl), (sp5 3 rfl rfl)⟩, fun h => absurd h (by decide)⟩
theorem mW_136 : mWP 136 := ⟨(ch6 195 rfl rfl), (ch1 13 rfl rfl), fun _ => ⟨(ch6 194 rfl rfl), (sp5 1 rfl rfl)⟩, fun h => absurd h (by decide)⟩
theorem mW_137 : mWP 137 := ⟨(ch6 178 rfl rfl), (ch1 13 rfl rfl), fun _ => ⟨(ch6 177 rfl rfl), (sp4 13 rfl rfl)⟩, fun h => absurd h (by decide)⟩
theorem mW_138 : mWP 138 := ⟨(ch6 136 rfl rfl), (ch1 13 rfl rfl), fun _ => ⟨(ch6 135 rfl rfl), (sp4 6 rfl rfl)⟩, fun h => absurd h (by decide)⟩
theorem mW_139 : mWP 139 := ⟨(ch6 108 rfl rfl), (ch1 13 rfl rfl), fun _ => ⟨(ch6 107 rfl rfl), (sp4 0 rfl rfl)⟩, fun h => absurd h (by decide)⟩
theorem mW_140 : mWP 140 := ⟨(ch6 89 rfl rfl), (ch1 13 rfl rfl), fun _ => ⟨(ch6 88 rfl rfl), (sp3 12 rfl rfl)⟩, fun h => absurd h (by decide)⟩
theorem mW_141 : mWP 141 := ⟨(ch6 112 rfl rfl), (ch1 13 rfl rfl), fun _ => ⟨(ch6 111 rfl rfl), (sp4 1 rfl rfl)⟩, fun h => absurd h (by decide)⟩
theorem mW_142 : mWP 142 := ⟨(ch6 120 rfl rfl), (ch1 13 rfl rfl), fun _ => ⟨(ch6 119 rfl rfl), (sp4 3 rfl rfl)⟩, fun h => absurd h (by decide)⟩
theorem mW_143 : mWP 143 := ⟨(ch6 116 rfl rfl), (ch1 13 rfl rfl), fun _ => ⟨(ch6 115 rfl rfl), (sp4 2 rfl rfl)⟩, fun h => absurd h (by decide)⟩
theorem mW_144 : mWP 144 := ⟨(ch6 132 rfl rfl), (ch1 13 rfl rfl), fun _ => ⟨(ch6 131 rfl rfl), (sp4 5 rfl rfl)⟩, fun h => absurd h (by decide)⟩
theorem mW_145 : mWP 145 := ⟨(ch6 85 rfl rfl), (ch1 13 rfl rfl), fun _ => ⟨(ch6 84 rfl rfl), (sp3 11 rfl rfl)⟩, fun h => absurd h (by decide)⟩
theorem mW_146 : mWP 146 := ⟨(ch6 64 rfl rfl), (ch1 13 rfl rfl), fun _ => ⟨(ch6 63 rfl rfl), (sp3 7 rfl rfl)⟩, fun h => absurd h (by decide)⟩
theorem mW_147 : mWP 147 := ⟨(ch6 56 rfl rfl), (ch1 13 rfl rfl), fun _ => ⟨(ch6 55 rfl rfl), (sp3 5 rfl rfl)⟩, fun h => absurd h (by decide)⟩
theorem mW_148 : mWP 148 := ⟨(ch6 52 rfl rfl), (ch1 13 rfl rfl), fun _ => ⟨(ch6 51 rfl rfl), (sp3 4 rfl rfl)⟩, fun h => absurd h (by decide)⟩
theorem mW_149 : mWP 149 := ⟨(ch6 48 rfl rfl), (ch1 13 rfl rfl), fun _ => ⟨(ch6 46 rfl rfl), (ch6 47 rfl rfl)⟩, fun h => absurd h (by decide)⟩
theorem mW_150 : mWP 150 := ⟨(ch6 212 rfl rfl), (ch1 13 rfl rfl), fun _ => ⟨(ch6 210 rfl rfl), (ch6 211 rfl rfl)⟩, fun h => absurd h (by decide)⟩
theorem mW_151 : mWP 151 := ⟨(ch6 220 rfl rfl), (ch1 13 rfl rfl), fun _ => ⟨(ch6 219 rfl rfl), (sp5 4 rfl rfl)⟩, fun h => absurd h (by decide)⟩
theorem mW_152 : mWP 152 := ⟨(ch7 85 rfl rfl), (ch1 13 rfl rfl), fun _ => ⟨(ch7 84 rfl rfl), (sp6 8 rfl rfl)⟩, fun h => absurd h (by decide)⟩
theorem mW_153 : mWP 153 := ⟨(ch7 89 rfl rfl), (ch1 13 rfl rfl), fun _ => ⟨(ch7 88 rfl rfl), (sp6 9 rfl rfl)⟩, fun h => absurd h (by decide)⟩
theorem mW_154 : mWP 154 := ⟨(ch7 92 rfl rfl), (ch1 13 rfl rfl), fun h => absurd h (by decide), fun _ => (ch7 91 rfl rfl)⟩
theorem mW_155 : mWP 155 := ⟨(ch7 81 rfl rfl), (ch1 13 rfl rfl), fun _ => ⟨(ch7 80 rfl rfl), (sp6 7 rfl rfl)⟩, fun h => absurd h (by decide)⟩
theorem mW_156 : mWP 156 := ⟨(ch7 25 rfl rfl), (ch1 13 rfl rfl), fun _ => ⟨(ch7 24 rfl rfl), (sp5 12 rfl rfl)⟩, fun h => absurd h (by decide)⟩
theorem mW_157 : mWP 157 := ⟨(ch6 228 rfl rfl), (ch1 13 rfl rfl), fun _ => ⟨(ch6 227 rfl rfl), (sp5 5 rfl rfl)⟩, fun h => absurd h (by decide)⟩
theorem mW_158 : mWP 158 := ⟨(ch7 16 rfl rfl), (ch1 13 rfl rfl), fun _ => ⟨(ch7 15 rfl rfl), (sp5 11 rfl rfl)⟩, fun h => absurd h (by decide)⟩
theorem mW_159 : mWP 159 := ⟨(ch6 232 rfl rfl), (ch1 13 rfl rfl), fun _ => ⟨(ch6 231 rfl rfl), (sp5 6 rfl rfl)⟩, fun h => absurd h (by decide)⟩
theorem mW_160 : mWP 160 := ⟨(ch7 4 rfl rfl), (ch1 13 rfl rfl), fun _ => ⟨(ch7 3 rfl rfl), (sp5 9 rfl rfl)⟩, fun h => absurd h (by decide)⟩
theorem mW_161 : mWP 161 := ⟨(ch7 0 rfl rfl), (ch1 13 rfl rfl), fun _ => ⟨(ch6 239 rfl rfl), (sp5 8 rfl rfl)⟩, fun h => absurd h (by decide)⟩
theorem mW_162 : mWP 162 := ⟨(ch6 236 rfl rfl), (ch1 13 rfl rfl), fun _ => ⟨(ch6 235 rfl rfl), (sp5 7 rfl rfl)⟩, fun h => absurd h (by decide)⟩
theorem mW_163 : mWP 163 := ⟨(ch7 8 rfl rfl), (ch1 13 rfl rfl), fun _ => ⟨(ch7 7 rfl rfl), (sp5 10 rfl rfl)⟩, fun h => absurd h (by decide)⟩
theorem mW_164 : mWP 164 := ⟨(ch7 69 rfl rfl), (ch1 13 rfl rfl), fun _ => ⟨(ch7 68 rfl rfl), (sp6 4 rfl rfl)⟩, fun h => absurd h (by decide)⟩
theorem mW_165 : mWP 165 := ⟨(ch7 50 rfl rfl), (ch1 13 rfl rfl), fun _ => ⟨(ch7 49 rfl rfl), (sp6 0 rfl rfl)⟩, fun h => absurd h (by decide)⟩
theorem mW_166 : mWP 166 := ⟨(ch6 216 rfl rfl), (ch1 13 rfl rfl), fun _ => ⟨(ch6 214 rfl rfl), (ch6 215 rfl rfl)⟩, fun h => absurd h (by decide)⟩
theorem mW_167 : mWP 167 := ⟨(ch6 224 rfl rfl), (ch1 13 rfl rfl), fun _ => ⟨(ch6 222 rfl rfl), (ch6 223 rfl rfl)⟩, fun h => absurd h (by decide)⟩
theorem mW_168 : mWP 168 := ⟨(ch7 12 rfl rfl), (ch1 13 rfl rfl), fun _ => ⟨(ch7 10 rfl rfl), (ch7 11 rfl rfl)⟩, fun h => absurd h (by decide)⟩
theorem mW_169 : mWP 169 := ⟨(ch7 21 rfl rfl), (ch1 13 rfl rfl), fun _ => ⟨(ch7 19 rfl rfl), (ch7 20 rfl rfl)⟩, fun h => absurd h (by decide)⟩
theorem mW_170 : mWP 170 := ⟨(ch7 73 rfl rfl), (ch1 13 rfl rfl), fun _ => ⟨(ch7 72 rfl rfl), (sp6 5 rfl rfl)⟩, fun h => absurd h (by decide)⟩
theorem mW_171 : mWP 171 := ⟨(ch7 65 rfl rfl), (ch1 13 rfl rfl), fun _ => ⟨(ch7 64 rfl rfl), (sp6 3 rfl rfl)⟩, fun h => absurd h (by decide)⟩
theorem mW_172 : mWP 172 := ⟨(ch7 61 rfl rfl), (ch1 13 rfl rfl), fun _ => ⟨(ch7 60 rfl rfl), (sp6 2 rfl rfl)⟩, fun h => absurd h (by decide)⟩
theorem mW_173 : mWP 173 := ⟨(ch7 77 rfl rfl), (ch1 13 rfl rfl), fun _ => ⟨(ch7 76 rfl rfl), (sp6 6 rfl rfl)⟩, fun h => absurd h (by decide)⟩
theorem mW_174 : mWP 174 := ⟨(ch7 54 rfl rfl), (ch1 13 rfl rfl), fun _ => ⟨(ch7 53 rfl rfl), (sp6 1 rfl rfl)⟩, fun h => absurd h (by decide)⟩
theorem mW_175 : mWP 175 := ⟨(ch7 46 rfl rfl), (ch1 13 rfl rfl), fun _ => ⟨(ch7 45 rfl rfl), (sp5 15 rfl rfl)⟩, fun h => absurd h (by decide)⟩
theorem mW_176 : mWP 176 := ⟨(ch7 100 rfl rfl), (ch1 13 rfl rfl), fun _ => ⟨(ch7 99 rfl rfl), (sp6 11 rfl rfl)⟩, fun h => absurd h (by decide)⟩
theorem mW_177 : mWP 177 := ⟨(ch7 104 rfl rfl), (ch1 13 rfl rfl), fun _ => ⟨(ch7 103 rfl rfl), (sp6 12 rfl rfl)⟩, fun h => absurd h (by decide)⟩
theorem mW_178 : mWP 178 := ⟨(ch7 96 rfl rfl), (ch1 13 rfl rfl), fun _ => ⟨(ch7 95 rfl rfl), (sp6 10 rfl rfl)⟩, fun h => absurd h (by decide)⟩
theorem mW_179 : mWP 179 := ⟨(ch7 108 rfl rfl), (ch1 13 rfl rfl), fun _ => ⟨(ch7 107 rfl rfl), (sp6 13 rfl rfl)⟩, fun h => absurd h (by decide)⟩
theorem mW_180 : mWP 180 := ⟨(ch7 42 rfl rfl), (ch1 13 rfl rfl), fun _ => ⟨(ch7 41 rfl rfl), (sp5 14 rfl rfl)⟩, fun h => absurd h (by decide)⟩
theorem mW_181 : mWP 181 := ⟨(ch7 38 rfl rfl), (ch1 13 rfl rfl), fun _ => ⟨(ch7 37 rfl rfl), (sp5 13 rfl rfl)⟩, fun h => absurd h (by decide)⟩
theorem mW_182 : mWP 182 := ⟨(ch7 30 rfl rfl), (ch1 13 rfl rfl), fun _ => ⟨(ch7 28 rfl rfl), (ch7 29 rfl rfl)⟩, fun h => absurd h (by decide)⟩
theorem mW_183 : mWP 183 := ⟨(ch7 34 rfl rfl), (ch1 13 rfl rfl), fun _ => ⟨(ch7 32 rfl rfl), (ch7 33 rfl rfl)⟩, fun h => absurd h (by decide)⟩
theorem mW_184 : mWP 184 := ⟨(ch7 112 rfl rfl), (ch1 13 rfl rfl), fun _ => ⟨(ch7 110 rfl rfl), (ch7 111 rfl rfl)⟩, fun h => absurd h (by decide)⟩
theorem mW_185 : mWP 185 := ⟨(ch7 116 rfl rfl), (ch1 13 rfl rfl), fun _ => ⟨(ch7 114 rfl rfl), (ch7 115 rfl rfl)⟩, fun h => absurd h (by decide)⟩
theorem mW_186 : mWP 186 := ⟨(ch7 124 rfl rfl), (ch1 13 rfl rfl), fun _ => ⟨(ch7 123 rfl rfl), (sp6 14 rfl rfl)⟩, fun h => absurd h (by decide)⟩
theorem mW_187 : mWP 187 := ⟨(ch7 128 rfl rfl), (ch1 13 rfl rfl), fun _ => ⟨(ch7 127 rfl rfl), (sp6 15 rfl rfl)⟩, fun h => absurd h (by decide)⟩
theorem mW_188 : mWP 188 := ⟨(ch7 120 rfl rfl), (ch1 13 rfl rfl), fun _ => ⟨(ch7 118 rfl rfl), (ch7 119 rfl rfl)⟩, fun h => absurd h (by decide)⟩
theorem mW_189 : mWP 189 := ⟨(ch7 137 rfl rfl), (ch1 13 rfl rfl), fun _ => ⟨(ch7 136 rfl rfl), (sp7 0 rfl rfl)⟩, fun h => absurd h (by decide)⟩
theorem mW_190 : mWP 190 := ⟨(ch7 141 rfl rfl), (ch1 13 rfl rfl), fun _ => ⟨(ch7 140 rfl rfl), (sp7 1 rfl rfl)⟩, fun h => absurd h (by decide)⟩
theorem mW_191 : mWP 191 := ⟨(ch7 132 rfl rfl), (ch1 13 rfl rfl), fun _ => ⟨(ch7 130 rfl rfl), (ch7 131 rfl rfl)⟩, fun h => absurd h (by decide)⟩
theorem mW_192 : mWP 192 := ⟨(ch7 145 rfl rfl), (ch1 13 rfl rfl), fun _ => ⟨(ch7 143 rfl rfl), (ch7 144 rfl rfl)⟩, fun h => absurd h (by decide)⟩
theorem mW_193 : mWP 193 := ⟨(ch7 157 rfl rfl), (ch1 13 rfl rfl), fun _ => ⟨(ch7 156 rfl rfl), (sp7 3 rfl rfl)⟩, fun h => absurd h (by decide)⟩
theorem mW_194 : mWP 194 := ⟨(ch7 153 rfl rfl), (ch1 13 rfl rfl), fun _ => ⟨(ch7 152 rfl rfl), (sp7 2 rfl rfl)⟩, fun h => absurd h (by decide)⟩
theorem mW_195 : mWP 195 := ⟨(ch7 149 rfl rfl), (ch1 13 rfl rfl), fun _ => ⟨(ch7 147 rfl rfl), (ch7 148 rfl rfl)⟩, fun h => absurd h (by decide)⟩
theorem mW_196 : mWP 196 := ⟨(ch7 166 rfl rfl), (ch1 13 rfl rfl), fun _ => ⟨(ch7 165 rfl rfl), (sp7 4 rfl rfl)⟩, fun h => absurd h (by decide)⟩
theorem mW_197 : mWP 197 := ⟨(ch7 174 rfl rfl), (ch1 13 rfl rfl), fun _ => ⟨(ch7 173 rfl rfl), (sp7 6 rfl rfl)⟩, fun h => absurd h (by decide)⟩
theorem mW_198 : mWP 198 := ⟨(ch7 170 rfl rfl), (ch1 13 rfl rfl), fun _ => ⟨(ch7 169 rfl rfl), (sp7 5 rfl rfl)⟩, fun h => absurd h (by decide)⟩
theorem mW_199 : mWP 199 := ⟨(ch7 161 rfl rfl), (ch1 13 rfl rfl), fun _ => ⟨(ch7 159 rfl rfl), (ch7 160 rfl rfl)⟩, fun h => absurd h (by decide)⟩
theorem mW_200 : mWP 200 := ⟨(ch7 187 rfl rfl), (ch1 13 rfl rfl), fun _ => ⟨(ch7 186 rfl rfl), (sp7 8 rfl rfl)⟩, fun h => absurd h (by decide)⟩
theorem mW_201 : mWP 201 := ⟨(ch7 183 rfl rfl), (ch1 13 rfl rfl), fun _ => ⟨(ch7 182 rfl rfl), (sp7 7 rfl rfl)⟩, fun h => absurd h (by decide)⟩
theorem mW_202 : mWP 202 := ⟨(ch7 178 rfl rfl), (ch1 13 rfl rfl), fun _ => ⟨(ch7 176 rfl rfl), (ch7 177 rfl rfl)⟩, fun h => absurd h (by decide)⟩
theorem mW_203 : mWP 203 := ⟨(ch7 194 rfl rfl), (ch1 13 rfl rfl), fun h => absurd h (by decide), fun _ => (ch7 193 rfl rfl)⟩
theorem mW_204 : mWP 204 := ⟨(ch7 202 rfl rfl), (ch1 13 rfl rfl), fun _ => ⟨(ch7 201 rfl rfl), (sp7 10 rfl rfl)⟩, fun h => absurd h (by decide)⟩
theorem mW_205 : mWP 205 := ⟨(ch7 198 rfl rfl), (ch1 13 rfl rfl), fun _ => ⟨(ch7 197 rfl rfl), (sp7 9 rfl rfl)⟩, fun h => absurd h (by decide)⟩
theorem mW_206 : mWP 206 := ⟨(ch7 191 rfl rfl), (ch1 13 rfl rfl), fun _ => ⟨(ch7 189 rfl rfl), (ch7 190 rfl rfl)⟩, fun h => absurd h (by decide)⟩
theorem mW_207 : mWP 207 := ⟨(ch7 212 rfl rfl), (ch1 13 rfl rfl), fun _ => ⟨(ch7 211 rfl rfl), (sp7 11 rfl rfl)⟩, fun h => absurd h (by decide)⟩
theorem mW_208 : mWP 208 := ⟨(ch7 206 rfl rfl), (ch1 13 rfl rfl), fun _ => ⟨(ch7 204 rfl rfl), (ch7 205 rfl rfl)⟩, fun h => absurd h (by decide)⟩
theorem mW_209 : mWP 209 := ⟨(ch7 216 rfl rfl), (ch1 13 rfl rfl), fun _ => ⟨(ch7 214 rfl rfl), (ch7 215 rfl rfl)⟩, fun h => absurd h (by decide)⟩
theorem mW_210 : mWP 210 := ⟨(ch7 223 rfl rfl), (ch1 13 rfl rfl), fun h => absurd h (by decide), fun _ => (ch7 222 rfl rfl)⟩
theorem mW_211 : mWP 211 := ⟨(ch7 227 rfl rfl), (ch1 13 rfl rfl), fun _ => ⟨(ch7 226 rfl rfl), (sp7 12 rfl rfl)⟩, fun h => absurd h (by decide)⟩
theorem mW_212 : mWP 212 := ⟨(ch7 231 rfl rfl), (ch1 13 rfl rfl), fun _ => ⟨(ch7 230 rfl rfl), (sp7 13 rfl rfl)⟩, fun h => absurd h (by decide)⟩
theorem mW_213 : mWP 213 := ⟨(ch7 220 rfl rfl), (ch1 13 rfl rfl), fun _ => ⟨(ch7 218 rfl rfl), (ch7 219 rfl rfl)⟩, fun h => absurd h (by decide)⟩
theorem mW_214 : mWP 214 := ⟨(ch7 235 rfl rfl), (ch1 13 rfl rfl), fun _ => ⟨(ch7 233 rfl rfl), (ch7 234 rfl rfl)⟩, fun h => absurd h (by decide)⟩
theorem mW_215 : mWP 215 := ⟨(ch8 9 rfl rfl), (ch1 13 rfl rfl), fun _ => ⟨(ch8 8 rfl rfl), (sp7 15 rfl rfl)⟩, fun h => absurd h (by decide)⟩
theorem mW_216 : mWP 216 := ⟨(ch8 13 rfl rfl), (ch1 13 rfl rfl), fun _ => ⟨(ch8 12 rfl rfl), (sp8 0 rfl rfl)⟩, fun h => absurd h (by decide)⟩
theorem mW_217 : mWP 217 := ⟨(ch8 5 rfl rfl), (ch1 13 rfl rfl), fun _ => ⟨(ch8 4 rfl rfl), (sp7 14 rfl rfl)⟩, fun h => absurd h (by decide)⟩
theorem mW_218 : mWP 218 := ⟨(ch8 1 rfl rfl), (ch1 13 rfl rfl), fun _ => ⟨(ch7 239 rfl rfl), (ch8 0 rfl rfl)⟩, fun h => absurd h (by decide)⟩
theorem mW_219 : mWP 219 := ⟨(ch8 21 rfl rfl), (ch1 13 rfl rfl), fun _ => ⟨(ch8 20 rfl rfl), (sp8 1 rfl rfl)⟩, fun h => absurd h (by decide)⟩
theorem mW_220 : mWP 220 := ⟨(ch8 17 rfl rfl), (ch1 13 rfl rfl), fun _ => ⟨(ch8 15 rfl rfl), (ch8 16 rfl rfl)⟩, fun h => absurd h (by decide)⟩
theorem mW_221 : mWP 221 := ⟨(ch8 25 rfl rfl), (ch1 13 rfl rfl), fun _ => ⟨(ch8 23 rfl rfl), (ch8 24 rfl rfl)⟩, fun h => absurd h (by decide)⟩
theorem mW_222 : mWP 222 := ⟨(ch8 29 rfl rfl), (ch1 13 rfl rfl), fun _ => ⟨(ch8 27 rfl rfl), (ch8 28 rfl rfl)⟩, fun h => absurd h (by decide)⟩
theorem mW_223 : mWP 223 := ⟨(ch8 43 rfl rfl), (ch1 13 rfl rfl), fun _ => ⟨(ch8 42 rfl rfl), (sp8 3 rfl rfl)⟩, fun h => absurd h (by decide)⟩
theorem mW_224 : mWP 224 := ⟨(ch8 39 rfl rfl), (ch1 13 rfl rfl), fun _ => ⟨(ch8 38 rfl rfl), (sp8 2 rfl rfl)⟩, fun h => absurd h (by decide)⟩
theorem mW_225 : mWP 225 := ⟨(ch8 33 rfl rfl), (ch1 13 rfl rfl), fun _ => ⟨(ch8 31 rfl rfl), (ch8 32 rfl rfl)⟩, fun h => absurd h (by decide)⟩
theorem mW_226 : mWP 226 := ⟨(ch8 51 rfl rfl), (ch1 13 rfl rfl), fun _ => ⟨(ch8 49 rfl rfl), (ch8 50 rfl rfl)⟩, fun h => absurd h (by decide)⟩
theorem mW_227 : mWP 227 := ⟨(ch8 55 rfl rfl), (ch1 13 rfl rfl), fun _ => ⟨(ch8 53 rfl rfl), (ch8 54 rfl rfl)⟩, fun h => absurd h (by decide)⟩
theorem mW_228 : mWP 228 := ⟨(ch8 59 rfl rfl), (ch1 13 rfl rfl), fun _ => ⟨(ch8 57 rfl rfl), (ch8 58 rfl rfl)⟩, fun h => absurd h (by decide)⟩
theorem mW_229 : mWP 229 := ⟨(ch5 2 rfl rfl), (ch1 19 rfl rfl), fun h => absurd h (by decide), fun _ => (ch5 1 rfl rfl)⟩
theorem mWc_0 : ∀ x ∈ ([0, 1, 2, 3, 4, 5, 6, 7, 8, 9, 10, 11, 12, 13, 14, 15] : List Nat), mWP x := List.forall_mem_cons.mpr ⟨mW_0, List.forall_mem_cons.mpr ⟨mW_1, List.forall_mem_cons.mpr ⟨mW_2, List.forall_mem_cons.mpr ⟨mW_3, List.forall_mem_cons.mpr ⟨mW_4, List.forall_mem_cons.mpr ⟨mW_5, List.forall_mem_cons.mpr ⟨mW_6, List.forall_mem_cons.mpr ⟨mW_7, List.forall_mem_cons.mpr ⟨mW_8, List.forall_mem_cons.mpr ⟨mW_9, List.forall_mem_cons.mpr ⟨mW_10, List.forall_mem_cons.mpr ⟨mW_11, List.forall_mem_cons.mpr ⟨mW_12, List.forall_mem_cons.mpr ⟨mW_13, List.forall_mem_cons.mpr ⟨mW_14, List.forall_mem_cons.mpr ⟨mW_15, fun _ h => absurd h List.not_mem_nil⟩⟩⟩⟩⟩⟩⟩⟩⟩⟩⟩⟩⟩⟩⟩⟩
theorem mWc_16 : ∀ x ∈ ([16, 17, 18, 19, 20, 21, 22, 23, 24, 25, 26, 27, 28, 29, 30, 31] : List Nat), mWP x := List.forall_mem_cons.mpr ⟨mW_16, List.forall_mem_cons.mpr ⟨mW_17, List.forall_mem_cons.mpr ⟨mW_18, List.forall_mem_cons.mpr ⟨mW_19, List.forall_mem_cons.mpr ⟨mW_20, List.forall_mem_cons.mpr ⟨mW_21, List.forall_mem_cons.mpr ⟨mW_22, List.forall_mem_cons.mpr ⟨mW_23, List.forall_mem_cons.mpr ⟨mW_24, List.forall_mem_cons.mpr ⟨mW_25, List.forall_mem_cons.mpr ⟨mW_26, List.forall_mem_cons.mpr ⟨mW_27, List.forall_mem_cons.mpr ⟨mW_28, List.forall_mem_cons.mpr ⟨mW_29, List.forall_mem_cons.mpr ⟨mW_30, List.forall_mem_cons.mpr ⟨mW_31, fun _ h => absurd h List.not_mem_nil⟩⟩⟩⟩⟩⟩⟩⟩⟩⟩⟩⟩⟩⟩⟩⟩
theorem mWc_32 : ∀ x ∈ ([32, 33, 34, 35, 36, 37, 38, 39, 40, 41, 42, 43, 44, 45, 46, 47] : List Nat), mWP x := List.forall_mem_cons.mpr ⟨mW_32, List.forall_mem_cons.mpr ⟨mW_33, List.forall_mem_cons.mpr ⟨mW_34, List.forall_mem_cons.mpr ⟨mW_35, List.forall_mem_cons.mpr ⟨mW_36, List.forall_mem_cons.mpr ⟨mW_37, List.forall_mem_cons.mpr ⟨mW_38, List.forall_mem_cons.mpr ⟨mW_39, List.forall_mem_cons.mpr ⟨mW_40, List.forall_mem_cons.mpr ⟨mW_41, List.forall_mem_cons.mpr ⟨mW_42, List.forall_mem_cons.mpr ⟨mW_43, List.forall_mem_cons.mpr ⟨mW_44, List.forall_mem_cons.mpr ⟨mW_45, List.forall_mem_cons.mpr ⟨mW_46, List.forall_mem_cons.mpr ⟨mW_47, fun _ h => absurd h List.not_mem_nil⟩⟩⟩⟩⟩⟩⟩⟩⟩⟩⟩⟩⟩⟩⟩⟩
theorem mWc_48 : ∀ x ∈ ([48, 49, 50, 51, 52, 53, 54, 55, 56, 57, 58, 59, 60, 61, 62, 63] : List Nat), mWP x := List.forall_mem_cons.mpr ⟨mW_48, List.forall_mem_cons.mpr ⟨mW_49, List.forall_mem_cons.mpr ⟨mW_50, List.forall_mem_cons.mpr ⟨mW_51, List.forall_mem_cons.mpr ⟨mW_52, List.forall_mem_cons.mpr ⟨mW_53, List.forall_mem_cons.mpr ⟨mW_54, List.forall_mem_cons.mpr ⟨mW_55, List.forall_mem_cons.mpr ⟨mW_56, List.forall_mem_cons.mpr ⟨mW_57, List.forall_mem_cons.mpr ⟨mW_58, List.forall_mem_cons.mpr ⟨mW_59, List.forall_mem_cons.mpr ⟨mW_60, List.forall_mem_cons.mpr ⟨mW_61, List.forall_mem_cons.mpr ⟨mW_62, List.forall_mem_cons.mpr ⟨mW_63, fun _ h => absurd h List.not_mem_nil⟩⟩⟩⟩⟩⟩⟩⟩⟩⟩⟩⟩⟩⟩⟩⟩
theorem mWc_64 : ∀ x ∈ ([64, 65, 66, 67, 68, 69, 70, 71, 72, 73, 74, 75, 76, 77, 78, 79] : List Nat), mWP x := List.forall_mem_cons.mpr ⟨mW_64, List.forall_mem_cons.mpr ⟨mW_65, List.forall_mem_cons.mpr ⟨mW_66, List.forall_mem_cons.mpr ⟨mW_67, List.forall_mem_cons.mpr ⟨mW_68, List.forall_mem_cons.mpr ⟨mW_69, List.forall_mem_cons.mpr ⟨mW_70, List.forall_mem_cons.mpr ⟨mW_71, List.forall_mem_cons.mpr ⟨mW_72, List.forall_mem_cons.mpr ⟨mW_73, List.forall_mem_cons.mpr ⟨mW_74, List.forall_mem_cons.mpr ⟨mW_75, List.forall_mem_cons.mpr ⟨mW_76, List.forall_mem_cons.mpr ⟨mW_77, List.forall_mem_cons.mpr ⟨mW_78, List.forall_mem_cons.mpr ⟨mW_79, fun _ h => absurd h List.not_mem_nil⟩⟩⟩⟩⟩⟩⟩⟩⟩⟩⟩⟩⟩⟩⟩⟩
theorem mWc_80 : ∀ x ∈ ([80, 81, 82, 83, 84, 85, 86, 87, 88, 89, 90, 91, 92, 93, 94, 95] : List Nat), mWP x := List.forall_mem_cons.mpr ⟨mW_80, List.forall_mem_cons.mpr ⟨mW_81, List.forall_mem_cons.mpr ⟨mW_82, List.forall_mem_cons.mpr ⟨mW_83, List.forall_mem_cons.mpr ⟨mW_84, List.forall_mem_cons.mpr ⟨mW_85, List.forall_mem_cons.mpr ⟨mW_86, List.forall_mem_cons.mpr ⟨mW_87, List.forall_mem_cons.mpr ⟨mW_88, List.forall_mem_cons.mpr ⟨mW_89, List.forall_mem_cons.mpr ⟨mW_90, List.forall_mem_cons.mpr ⟨mW_91, List.forall_mem_cons.mpr ⟨mW_92, List.forall_mem_cons.mpr ⟨mW_93, List.forall_mem_cons.mpr ⟨mW_94, List.forall_mem_cons.mpr ⟨mW_95, fun _ h => absurd h List.not_mem_nil⟩⟩⟩⟩⟩⟩⟩⟩⟩⟩⟩⟩⟩⟩⟩⟩
theorem mWc_96 : ∀ x ∈ ([96, 97, 98, 99, 100, 101, 102, 103, 104, 105, 106, 107, 108, 109, 110, 111] : List Nat), mWP x := List.forall_mem_cons.mpr ⟨mW_96, List.forall_mem_cons.mpr ⟨mW_97, List.forall_mem_cons.mpr ⟨mW_98, List.forall_mem_cons.mpr ⟨mW_99, List.forall_mem_cons.mpr ⟨mW_100, List.forall_mem_cons.mpr ⟨mW_101, List.forall_mem_cons.mpr ⟨mW_102, List.forall_mem_cons.mpr ⟨mW_103, List.forall_mem_cons.mpr ⟨mW_104, List.forall_mem_cons.mpr ⟨mW_105, List.forall_mem_cons.mpr ⟨mW_106, List.forall_mem_cons.mpr ⟨mW_107, List.forall_mem_cons.mpr ⟨mW_108, List.forall_mem_cons.mpr ⟨mW_109, List.forall_mem_cons.mpr ⟨mW_110, List.forall_mem_cons.mpr ⟨mW_111, fun _ h => absurd h List.not_mem_nil⟩⟩⟩⟩⟩⟩⟩⟩⟩⟩⟩⟩⟩⟩⟩⟩
theorem mWc_112 : ∀ x ∈ ([112, 113, 114, 115, 116, 117, 118, 119, 120, 121, 122, 123, 124, 125, 126, 127] : List Nat), mWP x := List.forall_mem_cons.mpr ⟨mW_112, List.forall_mem_cons.mpr ⟨mW_113, List.forall_mem_cons.mpr ⟨mW_114, List.forall_mem_cons.mpr ⟨mW_115, List.forall_mem_cons.mpr ⟨mW_116, List.forall_mem_cons.mpr ⟨mW_117, List.forall_mem_cons.mpr ⟨mW_118, List.forall_mem_cons.mpr ⟨mW_119, List.forall_mem_cons.mpr ⟨mW_120, List.forall_mem_cons.mpr ⟨mW_121, List.forall_mem_cons.mpr ⟨mW_122, List.forall_mem_cons.mpr ⟨mW_123, List.forall_mem_cons.mpr ⟨mW_124, List.forall_mem_cons.mpr ⟨mW_125, List.forall_mem_cons.mpr ⟨mW_126, List.forall_mem_cons.mpr ⟨mW_127, fun _ h => absurd h List.not_mem_nil⟩⟩⟩⟩⟩⟩⟩⟩⟩⟩⟩⟩⟩⟩⟩⟩
theorem mWc_128 : ∀ x ∈ ([128, 129, 130, 131, 132, 133, 134, 135, 136, 137, 138, 139, 140, 141, 142, 143] : List Nat), mWP x := List.forall_mem_cons.mpr ⟨mW_128, List.forall_mem_cons.mpr ⟨mW_129, List.forall_mem_cons.mpr ⟨mW_130, List.forall_mem_cons.mpr ⟨mW_131, List.forall_mem_cons.mpr ⟨mW_132, List.forall_mem_cons.mpr ⟨mW_133, List.forall_mem_cons.mpr ⟨mW_134, List.forall_mem_cons.mpr ⟨mW_135, List.forall_mem_cons.mpr ⟨mW_136, List.forall_mem_cons.mpr ⟨mW_137, List.forall_mem_cons.mpr ⟨mW_138, List.forall_mem_cons.mpr ⟨mW_139, List.forall_mem_cons.mpr ⟨mW_140, List.forall_mem_cons.mpr ⟨mW_141, List.forall_mem_cons.mpr ⟨mW_142, List.forall_mem_cons.mpr ⟨mW_143, fun _ h => absurd h List.not_mem_nil⟩⟩⟩⟩⟩⟩⟩⟩⟩⟩⟩⟩⟩⟩⟩⟩
theorem mWc_144 : ∀ x ∈ ([144, 145, 146, 147, 148, 149, 150, 151, 152, 153, 154, 155, 156, 157, 158, 159] : List Nat), mWP x := List.forall_mem_cons.mpr ⟨mW_144, List.forall_mem_cons.mpr ⟨mW_145, List.forall_mem_cons.mpr ⟨mW_146, List.forall_mem_cons.mpr ⟨mW_147, List.forall_mem_cons.mpr ⟨mW_148, List.forall_mem_cons.mpr ⟨mW_149, List.forall_mem_cons.mpr ⟨mW_150, List.forall_mem_cons.mpr ⟨mW_151, List.forall_mem_cons.mpr ⟨mW_152, List.forall_mem_cons.mpr ⟨mW_153, List.forall_mem_cons.mpr ⟨mW_154, List.forall_mem_cons.mpr ⟨mW_155, List.forall_mem_cons.mpr ⟨mW_156, List.forall_mem_cons.mpr ⟨mW_157, List.forall_mem_cons.mpr ⟨mW_158, List.forall_mem_cons.mpr ⟨mW_159, fun _ h => absurd h List.not_mem_nil⟩⟩⟩⟩⟩⟩⟩⟩⟩⟩⟩⟩⟩⟩⟩⟩
theorem mWc_160 : ∀ x ∈ ([160, 161, 162, 163, 164, 165, 166, 167, 168, 169, 170, 171, 172, 173, 174, 175] : List Nat), mWP x := List.forall_mem_cons.mpr ⟨mW_160, List.forall_mem_cons.mpr ⟨mW_161, List.forall_mem_cons.mpr ⟨mW_162, List.forall_mem_cons.mpr ⟨mW_163, List.forall_mem_cons.mpr ⟨mW_164, List.forall_mem_cons.mpr ⟨mW_165, List.forall_mem_cons.mpr ⟨mW_166, List.forall_mem_cons.mpr ⟨mW_167, List.forall_mem_cons.mpr ⟨mW_168, List.forall_mem_cons.mpr ⟨mW_169, List.forall_mem_cons.mpr ⟨mW_170, List.forall_mem_cons.mpr ⟨mW_171, List.forall_mem_cons.mpr ⟨mW_172, List.forall_mem_cons.mpr ⟨mW_173, List.forall_mem_cons.mpr ⟨mW_174, List.forall_mem_cons.mpr ⟨mW_175, fun _ h => absurd h List.not_mem_nil⟩⟩⟩⟩⟩⟩⟩⟩⟩⟩⟩⟩⟩⟩⟩⟩
theorem mWc_176 : ∀ x ∈ ([176, 177, 178, 179, 180, 181, 182, 183, 184, 185, 186, 187, 188, 189, 190, 191] : List Nat), mWP x := List.forall_mem_cons.mpr ⟨mW_176, List.forall_mem_cons.mpr ⟨mW_177, List.forall_mem_cons.mpr ⟨mW_178, List.forall_mem_cons.mpr ⟨mW_179, List.forall_mem_cons.mpr ⟨mW_180, List.forall_mem_cons.mpr ⟨mW_181, List.forall_mem_cons.mpr ⟨mW_182, List.forall_mem_cons.mpr ⟨mW_183, List.forall_mem_cons.mpr ⟨mW_184, List.forall_mem_cons.mpr ⟨mW_185, List.forall_mem_cons.mpr ⟨mW_186, List.forall_mem_cons.mpr ⟨mW_187, List.forall_mem_cons.mpr ⟨mW_188, List.forall_mem_cons.mpr ⟨mW_189, List.forall_mem_cons.mpr ⟨mW_190, List.forall_mem_cons.mpr ⟨mW_191, fun _ h => absurd h List.not_mem_nil⟩⟩⟩⟩⟩⟩⟩⟩⟩⟩⟩⟩⟩⟩⟩⟩
theorem mWc_192 : ∀ x ∈ ([192, 193, 194, 195, 196, 197, 198, 199, 200, 201, 202, 203, 204, 205, 206, 207] : List Nat), mWP x := List.forall_mem_cons.mpr ⟨mW_192, List.forall_mem_cons.mpr ⟨mW_193, List.forall_mem_cons.mpr ⟨mW_194, List.forall_mem_cons.mpr ⟨mW_195, List.forall_mem_cons.mpr ⟨mW_196, List.forall_mem_cons.mpr ⟨mW_197, List.forall_mem_cons.mpr ⟨mW_198, List.forall_mem_cons.mpr ⟨mW_199, List.forall_mem_cons.mpr ⟨mW_200, List.forall_mem_cons.mpr ⟨mW_201, List.forall_mem_cons.mpr ⟨mW_202, List.forall_mem_cons.mpr ⟨mW_203, List.forall_mem_cons.mpr ⟨mW_204, List.forall_mem_cons.mpr ⟨mW_205, List.forall_mem_cons.mpr ⟨mW_206, List.forall_mem_cons.mpr ⟨mW_207, fun _ h => absurd h List.not_mem_nil⟩⟩⟩⟩⟩⟩⟩⟩⟩⟩⟩⟩⟩⟩⟩⟩
theorem mWc_208 : ∀ x ∈ ([208, 209, 210, 211, 212, 213, 214, 215, 216, 217, 218, 219, 220, 221, 222, 223] : List Nat), mWP x := List.forall_mem_cons.mpr ⟨mW_208, List.forall_mem_cons.mpr ⟨mW_209, List.forall_mem_cons.mpr ⟨mW_210, List.forall_mem_cons.mpr ⟨mW_211, List.forall_mem_cons.mpr ⟨mW_212, List.forall_mem_cons.mpr ⟨mW_213, List.forall_mem_cons.mpr ⟨mW_214, List.forall_mem_cons.mpr ⟨mW_215, List.forall_mem_cons.mpr ⟨mW_216, List.forall_mem_cons.mpr ⟨mW_217, List.forall_mem_cons.mpr ⟨mW_218, List.forall_mem_cons.mpr ⟨mW_219, List.forall_mem_cons.mpr ⟨mW_220, List.forall_mem_cons.mpr ⟨mW_221, List.forall_mem_cons.mpr ⟨mW_222, List.forall_mem_cons.mpr ⟨mW_223, fun _ h => absurd h List.not_mem_nil⟩⟩⟩⟩⟩⟩⟩⟩⟩⟩⟩⟩⟩⟩⟩⟩
theorem mWc_224 : ∀ x ∈ ([224, 225, 226, 227, 228, 229] : List Nat), mWP x := List.forall_mem_cons.mpr ⟨mW_224, List.forall_mem_cons.mpr ⟨mW_225, List.forall_mem_cons.mpr ⟨mW_226, List.forall_mem_cons.mpr ⟨mW_227, List.forall_mem_cons.mpr ⟨mW_228, List.forall_mem_cons.mpr ⟨mW_229, fun _ h => absurd h List.not_mem_nil⟩⟩⟩⟩⟩⟩
theorem mW : ∀ x, x < 230 → mWP x := by
  intro x h
  by_cases h0 : x < 16
  · exact mWc_0 x (by simp only [List.mem_cons, List.not_mem_nil, or_false]; omega)
  by_cases h16 : x < 32
  · exact mWc_16 x (by simp only [List.mem_cons, List.not_mem_nil, or_false]; omega)
  by_cases h32 : x < 48
  · exact mWc_32 x (by simp only [List.mem_cons, List.not_mem_nil, or_false]; omega)
  by_cases h48 : x < 64
  · exact mWc_48 x (by simp only [List.mem_cons, List.not_mem_nil, or_false]; omega)
  by_cases h64 : x < 80
  · exact mWc_64 x (by simp only [List.mem_cons, List.not_mem_nil, or_false]; omega)
  by_cases h80 : x < 96
  · exact mWc_80 x (by simp only [List.mem_cons, List.not_mem_nil, or_false]; omega)
  by_cases h96 : x < 112
  · exact mWc_96 x (by simp only [List.mem_cons, List.not_mem_nil, or_false]; omega)
  by_cases h112 : x < 128
  · exact mWc_112 x (by simp only [List.mem_cons, List.not_mem_nil, or_false]; omega)
  by_cases h128 : x < 144
  · exact mWc_128 x (by simp only [List.mem_cons, List.not_mem_nil, or_false]; omega)
  by_cases h144 : x < 160
  · exact mWc_144 x (by simp only [List.mem_cons, List.not_mem_nil, or_false]; omega)
  by_cases h160 : x < 176
  · exact mWc_160 x (by simp only [List.mem_cons, List.not_mem_nil, or_false]; omega)
  by_cases h176 : x < 192
  · exact mWc_176 x (by simp only [List.mem_cons, List.not_mem_nil, or_false]; omega)
  by_cases h192 : x < 208
  · exact mWc_192 x (by simp only [List.mem_cons, List.not_mem_nil, or_false]; omega)
  by_cases h208 : x < 224
  · exact mWc_208 x (by simp only [List.mem_cons, List.not_mem_nil, or_false]; omega)
  by_cases h224 : x < 230
  · exact mWc_224 x (by simp only [List.mem_cons, List.not_mem_nil, or_false]; omega)
  omega
theorem GoodIn_all {ws : List Cond} (h : ∀ w ∈ ws, w ∈ ALLg) : GoodIn ALLg ws := fun w hw => ⟨h w hw, good_of_word (List.mem_filter.mp (h w hw)).2⟩
theorem EnvOK.mv {E : EnvT} {u U : State} {H : Heap} (h1 : u.vm.Alike U.vm) (h2 : ∀ own k tx a, vk_R own k tx a u → vk_R own k tx a U) (h : EnvOK E u H) : EnvOK E U H :=
  ⟨h.1.moved h1, h.2.1, h.2.2.1, h.2.2.2.1, h.2.2.2.2.1.moved h1, fun i hi => h2 _ _ _ _ (h.2.2.2.2.2.1 i hi), h.2.2.2.2.2.2.1.moved h1, h.2.2.2.2.2.2.2.moved h1⟩
theorem EnvOK.kp {E : EnvT} {u : State} {H0 H : Heap} {locs : List Loc} (h : EnvOK E u H0) (hS : va_S (eA E) H0 H locs) : EnvOK E u H := by
  have hq : ∀ a : Nat, a < H0.size → ¬ eA E a → H[a]? = H0[a]? := hS.2.1
  exact ⟨h.1.kept (hq _ (Nat.lt_of_lt_of_le h.2.1 h.2.2.1) (Nat.not_le.mpr h.2.1)), h.2.1, Nat.le_trans h.2.2.1 hS.1, h.2.2.2.1, h.2.2.2.2.1.kept hq, h.2.2.2.2.2.1, h.2.2.2.2.2.2.1.kept hq, h.2.2.2.2.2.2.2.kept hq⟩
theorem conc_long {E : EnvT} (st : List AV) : ((st.map (conc E)).map fun v => v.category).sum ≤ catS st := by
  induction st with
  | nil => exact Nat.le_refl _
  | cons a t ih =>
    simp only [List.map_cons, List.sum_cons]
    rw [conc_cat]
    obtain ⟨v, k⟩ := a
    generalize ((t.map (conc E)).map fun v => v.category).sum = n at ih ⊢
    cases v <;> simp only [catS, Value.category] <;> omega
section SNDC
variable {p : Program} {l : Launch} {e : Env} {R : Room} {s : State} {m : MethodId} {args : Array Value} {below : List Frame} {meth : Method} {c : Code} {cells slots : Nat} {Q : State → Prop}
variable {E : EnvT} {mi h pc : Nat} {lv : LVs} {st : List AV} {σ : Mem}
/-- behind a call whose end is known -/
theorem my_call {H : Heap} {locs : List Loc} {ls : Array Slot} {st0 rest : List Value} {σ' : Mem} {v : Option Value} (hr : va_Run p l e R s m args below meth c H locs cells slots 0 0 (F0 m pc ls st0) rest (fun st oc t => oc = .returned v ∧ Rel E σ' t.heap ∧ va_F (eA E) st t) (eA E)) (hS : va_S (eA E) s.heap H locs)
    (kk : ∀ (H1 : Heap) (locs1 : List Loc), Rel E σ' H1 → va_S (eA E) s.heap H1 locs1 → W p l e R s m args below meth c H1 locs1 cells slots Q (F0 m (pc + 3) ls (v.toList ++ rest))) : W p l e R s m args below meth c H locs cells slots Q (F0 m pc ls st0) := by
  intro T hT X
  obtain ⟨v1, st₀, t, T', L, h0, X', hL, e1, e2, ⟨hv, hP, hz, hk⟩, st⟩ := hr T hT X
  cases hv
  rw [h0] at hz hk
  obtain ⟨t2, a1, b1⟩ := kk T'.heap (locs ++ L) (by rw [e1]; exact hP)
    ⟨Nat.le_trans hS.1 (by rw [e1]; exact hz), fun q h1 h2 => by rw [e1, hk q (Nat.lt_of_lt_of_le h1 hS.1) h2]; exact hS.2.1 q h1 h2, fun q hq => by
      rcases List.mem_append.mp hq with h | h
      · exact hS.2.2 q h
      · exact hL q h⟩ T' rfl X'
  exact ⟨t2, st t2 a1, b1⟩
theorem pc_blind {as : List Value} : FrameBlind (va_Pc as (fun U => Rel E σ U.heap ∧ va_K (eD E) vwCl (tysL E) U ∧ EnvOK E U U.heap)) := fun a U g mk q => by
  obtain ⟨q1, q2, q3, q4⟩ := q
  exact ⟨q1, q2, va_K.moved (u := U) (U := U.calling g mk a) (Vm.Alike.refl U.vm) q3, EnvOK.mv (u := U) (U := U.calling g mk a) (Vm.Alike.refl U.vm) (fun _ _ _ _ => vk_R.same rfl) q4⟩
theorem ws_inv (A : Act E mi h p R s m args c cells slots) {n x h' a kq : Nat} {as rest : List AV} {v : Option AV} {σ' : Mem} (hd : decode (mCd mi) pc = .ok (.invokevirtual n, 3)) (hx : x < 230) (hm : mKd x = 0) (hn : as.length = mNa x) (hw : Cond.methodLink (mOw mi) n (mNm x) ∈ ALLg) (hci : ∃ ci, ci < 13 ∧ rk kq = ci ∧ clR ci = (mNm x).cls) (h50 : kq = 50 → ¬ a = 0) (hcat : catS rest ≤ 8) (hM : MetAt E h' x ((.ref a, rk kq) :: as) σ v σ') (hh : h' + 1 ≤ h) (k : WG E mi p l e R s m args below meth c cells slots Q (pc + 3) lv (v.toList ++ rest) σ') : WG E mi p l e R s m args below meth c cells slots Q pc lv (as.reverse ++ (.ref a, kq) :: rest) σ := by
  intro hs hl H locs ls hR hS hlo
  have hmo := mB x hx
  unfold mBB at hmo
  simp only [Bool.and_eq_true, decide_eq_true_eq] at hmo
  obtain ⟨⟨⟨o5, o6⟩, o7⟩, o8⟩ := hmo
  obtain ⟨o1, o2, o3, -⟩ := mW x hx
  have o4 := (o3 hm).2
  have o3 := (o3 hm).1
  obtain ⟨ci, hci, hrk, hcn⟩ := hci
  have hml : mML x ≤ 21 := Nat.ble_eq.mp o8
  have hwk : wk (.ref a, rk kq) := by
    have hw0 := hs _ (List.mem_append_right _ List.mem_cons_self)
    by_cases hk50 : kq = 50
    · subst hk50
      rcases hw0 with q | q | q | q
      · omega
      · omega
      · rcases q.2 with q2 | q2
        · exact absurd q2 (h50 rfl)
        · exact Or.inr (Or.inr (Or.inr ⟨by decide, by decide, by decide, q2⟩))
      · exact absurd rfl q.1
    · have : rk kq = kq := by unfold rk; rw [show Nat.beq kq 50 = false from (by cases hb : Nat.beq kq 50 with | false => rfl | true => exact absurd (Nat.eq_of_beq_eq_true hb) hk50)]; rfl
      rw [this]; exact hw0
  have hkc := wk_cls hwk (by omega)
  have he := ws_at (E := E) (σ := σ) (c := a) (by omega)
  rw [elt_obj hkc (by omega)] at he
  have hwa : wkS ((.ref a, rk kq) :: as) := wkS_cons hwk (fun b hb => hs b (List.mem_append_left _ (List.mem_reverse.mpr hb)))
  obtain ⟨hv, hM⟩ := hM hwa
  have hwr : wkS rest := fun b hb => hs b (List.mem_append_right _ (List.mem_cons_of_mem _ hb))
  have hco : conc E (.ref a, kq) = .ref (eBase E + a) := conc_o E (fun q => by subst q; have : rk 60 = 60 := rfl; omega) (fun q => by subst q; have : rk 61 = 61 := rfl; omega) (by by_cases q : kq = 50; exact Or.inr (h50 q); exact Or.inl q)
  have hco2 : conc E (.ref a, rk kq) = .ref (eBase E + a) := conc_o E (by omega) (by omega) (Or.inl (by omega))
  have hrecv := va_recv A.2.2.2.2.2.1 hR (cl_ok ci hci).1 (by rw [hrk] at he; exact he)
  have hMl := hM l
  rw [List.map_cons, hco2] at hMl
  rw [List.map_append, List.map_cons, List.map_reverse, hco]
  refine my_call (va_runV (C := (mNm x).cls) (As := as.map (conc E)) (rest := rest.map (conc E)) (n := mNa x) ⟨A.1, A.2.1, A.2.2.1, A.2.2.2.1, A.2.2.2.2.1⟩ hMl (cwV (mNa x) A.2.2.2.2.1 (GoodIn_all ?_) rfl rfl rfl ⟨rfl, o6.1, o6.2, o7⟩ ?_) ⟨pc_blind, ?_, ?_⟩ rfl (by rw [List.length_map]; exact hn) hlo.2.1 rfl (lv_room (Nat.le_trans (conc_long rest) hcat)) hd ⟨A.2.2.2.2.2.2.2.2.2.1, A.2.2.2.2.2.2.2.2.2.2⟩) hS (fun H1 locs1 hP1 hS1 => ?_)
  · intro w hw1
    unfold wsV at hw1
    rcases List.mem_append.mp hw1 with q | q
    · simp only [List.mem_cons, List.not_mem_nil, or_false] at q
      rcases q with rfl | rfl | rfl | rfl
      · exact hw
      · exact o3
      · exact o4
      · exact o2
    · rcases List.mem_cons.mp q with rfl | q
      · exact o1
      · exact q
  · have h1 := A.2.2.2.2.2.2.2.1
    have h2 := A.2.2.2.2.2.2.2.2.1
    refine ⟨?_, ?_⟩
    · show h' + 1 ≤ R.frames; omega
    · show 8 + (mML x + 11) + 40 * h' ≤ R.locals; omega
  · rw [← hcn]; exact hrecv
  · intro U hU hW
    exact ⟨rfl, by rw [hU]; exact hR, va_K.moved hW.alike A.2.2.2.2.2.1, by rw [hU]; exact ((A.2.2.2.2.2.2.1.kp hS).mv hW.alike (fun _ _ _ _ => vk_R.warm hW))⟩
  · have hwn : wkS (v.toList ++ rest) := fun b hb => by
      rcases List.mem_append.mp hb with q | q
      · exact hv b (by cases v with | none => cases q | some z => rw [List.mem_singleton.mp q])
      · exact hwr b q
    have kk := k hwn hl H1 locs1 ls hP1 hS1 hlo
    rw [List.map_append] at kk
    cases v <;> exact kk
theorem ws_invS (A : Act E mi h p R s m args c cells slots) {n x h' : Nat} {as rest : List AV} {v : Option AV} {σ' : Mem} (hd : decode (mCd mi) pc = .ok (.invokestatic n, 3)) (hx : x < 230) (hm : mKd x = 1) (hn : as.length = mNa x) (hw : Cond.methodLink (mOw mi) n (mNm x) ∈ ALLg) (hcat : catS rest ≤ 8) (hM : MetAt E h' x as σ v σ') (hh : h' + 1 ≤ h) (k : WG E mi p l e R s m args below meth c cells slots Q (pc + 3) lv (v.toList ++ rest) σ') : WG E mi p l e R s m args below meth c cells slots Q pc lv (as.reverse ++ rest) σ := by
  intro hs hl H locs ls hR hS hlo
  have hmo := mB x hx
  unfold mBB at hmo
  simp only [Bool.and_eq_true, decide_eq_true_eq] at hmo
  obtain ⟨⟨⟨o5, o6⟩, o7⟩, o8⟩ := hmo
  obtain ⟨o1, o2, -, o3⟩ := mW x hx
  have o3 := o3 hm
  have hml : mML x ≤ 21 := Nat.ble_eq.mp o8
  have hwa : wkS as := fun b hb => hs b (List.mem_append_left _ (List.mem_reverse.mpr hb))
  obtain ⟨hv, hM⟩ := hM hwa
  have hwr : wkS rest := fun b hb => hs b (List.mem_append_right _ hb)
  have hMl := hM l
  rw [List.map_append, List.map_reverse]
  refine my_call (va_runS (As := as.map (conc E)) (rest := rest.map (conc E)) (n := mNa x) ⟨A.1, A.2.1, A.2.2.1, A.2.2.2.1, A.2.2.2.2.1⟩ hMl (va_cwS (mNa x) A.2.2.2.2.1 (GoodIn_all ?_) rfl rfl rfl ⟨o6.1, o6.2, o7⟩ ?_) ⟨pc_blind, ?_⟩ rfl (by rw [List.length_map]; exact hn) hlo.2.1 rfl (lv_room (Nat.le_trans (conc_long rest) hcat)) hd ⟨A.2.2.2.2.2.2.2.2.2.1, A.2.2.2.2.2.2.2.2.2.2⟩) hS (fun H1 locs1 hP1 hS1 => ?_)
  · intro w hw1
    unfold va_wsS at hw1
    rcases List.mem_append.mp hw1 with q | q
    · simp only [List.mem_cons, List.not_mem_nil, or_false] at q
      rcases q with rfl | rfl | rfl
      · exact hw
      · exact o3
      · exact o2
    · rcases List.mem_cons.mp q with rfl | q
      · exact o1
      · exact q
  · have h1 := A.2.2.2.2.2.2.2.1
    have h2 := A.2.2.2.2.2.2.2.2.1
    refine ⟨?_, ?_⟩
    · show h' + 1 ≤ R.frames; omega
    · show 8 + (mML x + 11) + 40 * h' ≤ R.locals; omega
  · intro U hU hW
    exact ⟨rfl, by rw [hU]; exact hR, va_K.moved hW.alike A.2.2.2.2.2.1, by rw [hU]; exact ((A.2.2.2.2.2.2.1.kp hS).mv hW.alike (fun _ _ _ _ => vk_R.warm hW))⟩
  · have hwn : wkS (v.toList ++ rest) := fun b hb => by
      rcases List.mem_append.mp hb with q | q
      · exact hv b (by cases v with | none => cases q | some z => rw [List.mem_singleton.mp q])
      · exact hwr b q
    have kk := k hwn hl H1 locs1 ls hP1 hS1 hlo
    rw [List.map_append] at kk
    cases v <;> exact kk
theorem w_max : Cond.static Lib.Math.max.name ∈ ALLg ∧ Cond.initialized "java/lang/Math" ∈ ALLg ∧ Cond.code Lib.Math.max.name Lib.Math.max.code 2 (some .int) ∈ ALLg := ⟨(ch4 72 rfl rfl), (ch1 18 rfl rfl), (ch4 73 rfl rfl)⟩
theorem ws_max (A : Act E mi h p R s m args c cells slots) {n i j : Nat} {x y : Int32} (hd : decode (mCd mi) pc = .ok (.invokestatic n, 3)) (hw : Cond.methodLink (mOw mi) n Lib.Math.max.name ∈ ALLg) (hcat : catS st ≤ 8) (h1 : 1 ≤ h) (k : WG E mi p l e R s m args below meth c cells slots Q (pc + 3) lv ((.int (mxI x y), 0) :: st) σ) : WG E mi p l e R s m args below meth c cells slots Q pc lv ((.int y, j) :: (.int x, i) :: st) σ := by
  intro hs hl H locs ls hR hS hlo
  have f1 := A.2.2.2.2.2.2.2.1
  have f2 := A.2.2.2.2.2.2.2.2.1
  have f3 := conc_long (E := E) st
  exact va_mmax A.1 A.2.1 (A.2.2.1.trans hlo.2.1.symm) A.2.2.2.1 (A.2.2.2.2.1 _ hw) (A.2.2.2.2.1 _ w_max.1) (A.2.2.2.2.1 _ w_max.2.1) (A.2.2.2.2.1 _ w_max.2.2) (by omega) (by omega) A.2.2.2.2.2.2.2.2.2.1 A.2.2.2.2.2.2.2.2.2.2 hd (k (wkS_i (wkS_tl (wkS_tl hs))) hl H locs ls hR hS hlo)
theorem w_min : Cond.static Lib.Math.min.name ∈ ALLg ∧ Cond.initialized "java/lang/Math" ∈ ALLg ∧ Cond.code Lib.Math.min.name Lib.Math.min.code 2 (some .int) ∈ ALLg := ⟨(ch4 40 rfl rfl), (ch1 18 rfl rfl), (ch4 41 rfl rfl)⟩
theorem ws_min (A : Act E mi h p R s m args c cells slots) {n i j : Nat} {x y : Int32} (hd : decode (mCd mi) pc = .ok (.invokestatic n, 3)) (hw : Cond.methodLink (mOw mi) n Lib.Math.min.name ∈ ALLg) (hcat : catS st ≤ 8) (h1 : 1 ≤ h) (k : WG E mi p l e R s m args below meth c cells slots Q (pc + 3) lv ((.int (mnI x y), 0) :: st) σ) : WG E mi p l e R s m args below meth c cells slots Q pc lv ((.int y, j) :: (.int x, i) :: st) σ := by
  intro hs hl H locs ls hR hS hlo
  have f1 := A.2.2.2.2.2.2.2.1
  have f2 := A.2.2.2.2.2.2.2.2.1
  have f3 := conc_long (E := E) st
  exact va_mmin A.1 A.2.1 (A.2.2.1.trans hlo.2.1.symm) A.2.2.2.1 (A.2.2.2.2.1 _ hw) (A.2.2.2.2.1 _ w_min.1) (A.2.2.2.2.1 _ w_min.2.1) (A.2.2.2.2.1 _ w_min.2.2) (by omega) (by omega) A.2.2.2.2.2.2.2.2.2.1 A.2.2.2.2.2.2.2.2.2.2 hd (k (wkS_i (wkS_tl (wkS_tl hs))) hl H locs ls hR hS hlo)
end SNDC
