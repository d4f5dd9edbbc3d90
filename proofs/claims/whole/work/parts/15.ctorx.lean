/-! the constructors' words -/
theorem tch1 {w : Cond} (i : Nat) (h : tables_1_1[i]? = some w) : w ∈ tables_1 := List.mem_append_left _ (List.mem_of_getElem? h)
theorem tch2 {w : Cond} (i : Nat) (h : tables_1_2[i]? = some w) : w ∈ tables_1 := List.mem_append_right _ (List.mem_append_left _ (List.mem_of_getElem? h))
theorem tch3 {w : Cond} (i : Nat) (h : tables_1_3[i]? = some w) : w ∈ tables_1 := List.mem_append_right _ (List.mem_append_right _ (List.mem_append_left _ (List.mem_of_getElem? h)))
theorem tch4 {w : Cond} (i : Nat) (h : tables_1_4[i]? = some w) : w ∈ tables_1 := List.mem_append_right _ (List.mem_append_right _ (List.mem_append_right _ (List.mem_append_left _ (List.mem_of_getElem? h))))
theorem tch5 {w : Cond} (i : Nat) (h : tables_1_5[i]? = some w) : w ∈ tables_1 := List.mem_append_right _ (List.mem_append_right _ (List.mem_append_right _ (List.mem_append_right _ (List.mem_append_left _ (List.mem_of_getElem? h)))))
theorem tch6 {w : Cond} (i : Nat) (h : tables_1_6[i]? = some w) : w ∈ tables_1 := List.mem_append_right _ (List.mem_append_right _ (List.mem_append_right _ (List.mem_append_right _ (List.mem_append_right _ (List.mem_append_left _ (List.mem_of_getElem? h))))))
theorem tch7 {w : Cond} (i : Nat) (h : tables_1_7[i]? = some w) : w ∈ tables_1 := List.mem_append_right _ (List.mem_append_right _ (List.mem_append_right _ (List.mem_append_right _ (List.mem_append_right _ (List.mem_append_right _ (List.mem_append_left _ (List.mem_of_getElem? h)))))))
theorem tch8 {w : Cond} (i : Nat) (h : tables_1_8[i]? = some w) : w ∈ tables_1 := List.mem_append_right _ (List.mem_append_right _ (List.mem_append_right _ (List.mem_append_right _ (List.mem_append_right _ (List.mem_append_right _ (List.mem_append_right _ (List.mem_of_getElem? h)))))))
set_option maxRecDepth 100000 in
theorem kw_0 : ∀ q ∈ ktb_0, okKW 0 q := List.forall_mem_cons.mpr ⟨trivial, List.forall_mem_cons.mpr ⟨⟨fun _ => ⟨(ch2 112 rfl rfl), (ch1 26 rfl rfl), (ch1 27 rfl rfl)⟩, fun h => absurd rfl h⟩, List.forall_mem_cons.mpr ⟨trivial, List.forall_mem_cons.mpr ⟨trivial, List.forall_mem_cons.mpr ⟨⟨_, rfl, (ch2 113 rfl rfl), (tch1 137 rfl)⟩, List.forall_mem_cons.mpr ⟨(ch2 117 rfl rfl), List.forall_mem_cons.mpr ⟨trivial, List.forall_mem_cons.mpr ⟨trivial, List.forall_mem_cons.mpr ⟨(ch1 54 rfl rfl), List.forall_mem_cons.mpr ⟨(ch2 118 rfl rfl), List.forall_mem_cons.mpr ⟨trivial, List.forall_mem_cons.mpr ⟨trivial, List.forall_mem_cons.mpr ⟨(ch1 54 rfl rfl), List.forall_mem_cons.mpr ⟨(ch2 119 rfl rfl), List.forall_mem_cons.mpr ⟨trivial, List.forall_mem_cons.mpr ⟨trivial, List.forall_mem_cons.mpr ⟨(ch1 54 rfl rfl), List.forall_mem_cons.mpr ⟨(ch2 120 rfl rfl), List.forall_mem_cons.mpr ⟨trivial, List.forall_mem_cons.mpr ⟨trivial, List.forall_mem_cons.mpr ⟨(ch2 121 rfl rfl), List.forall_mem_cons.mpr ⟨trivial, List.forall_mem_cons.mpr ⟨trivial, List.forall_mem_cons.mpr ⟨(ch2 122 rfl rfl), List.forall_mem_cons.mpr ⟨trivial, List.forall_mem_cons.mpr ⟨trivial, List.forall_mem_cons.mpr ⟨(ch2 123 rfl rfl), List.forall_mem_cons.mpr ⟨trivial, List.forall_mem_cons.mpr ⟨trivial, List.forall_mem_cons.mpr ⟨(ch2 124 rfl rfl), List.forall_mem_cons.mpr ⟨trivial, List.forall_mem_cons.mpr ⟨trivial, List.forall_mem_cons.mpr ⟨(ch2 115 rfl rfl), List.forall_mem_cons.mpr ⟨trivial, List.forall_mem_cons.mpr ⟨trivial, List.forall_mem_cons.mpr ⟨(ch2 116 rfl rfl), List.forall_mem_cons.mpr ⟨trivial, List.forall_mem_cons.mpr ⟨trivial, List.forall_mem_cons.mpr ⟨trivial, List.forall_mem_cons.mpr ⟨trivial, List.forall_mem_cons.mpr ⟨trivial, List.forall_mem_cons.mpr ⟨trivial, List.forall_mem_cons.mpr ⟨(ch2 117 rfl rfl), List.forall_mem_cons.mpr ⟨trivial, List.forall_mem_cons.mpr ⟨⟨(ch2 113 rfl rfl), (ch1 148 rfl rfl), (ch1 5 rfl rfl)⟩, List.forall_mem_cons.mpr ⟨trivial, List.forall_mem_cons.mpr ⟨⟨fun h => absurd h (by decide), fun _ => Or.inr ⟨_, (tch2 114 rfl)⟩⟩, List.forall_mem_cons.mpr ⟨trivial, List.forall_mem_cons.mpr ⟨trivial, List.forall_mem_cons.mpr ⟨trivial, List.forall_mem_cons.mpr ⟨trivial, fun _ h => absurd h List.not_mem_nil⟩⟩⟩⟩⟩⟩⟩⟩⟩⟩⟩⟩⟩⟩⟩⟩⟩⟩⟩⟩⟩⟩⟩⟩⟩⟩⟩⟩⟩⟩⟩⟩⟩⟩⟩⟩⟩⟩⟩⟩⟩⟩⟩⟩⟩⟩⟩⟩⟩⟩⟩
theorem kd_0 : ∀ q ∈ ktb_0, decode (kCd 0) q.1 = .ok (q.2.1, q.2.2.1) ∧ okK 0 q = true := by
  have h : ktb_0.all (fun q => decide (decode (kCd 0) q.1 = .ok (q.2.1, q.2.2.1)) && okK 0 q) = true := by decide +kernel
  intro q hq
  have := List.all_eq_true.mp h q hq
  simp only [Bool.and_eq_true, decide_eq_true_eq] at this
  exact this
set_option maxRecDepth 100000 in
theorem kw_1 : ∀ q ∈ ktb_1, okKW 1 q := List.forall_mem_cons.mpr ⟨trivial, List.forall_mem_cons.mpr ⟨⟨fun _ => ⟨(ch2 178 rfl rfl), (ch1 26 rfl rfl), (ch1 27 rfl rfl)⟩, fun h => absurd rfl h⟩, List.forall_mem_cons.mpr ⟨trivial, List.forall_mem_cons.mpr ⟨⟨(ch2 179 rfl rfl), (ch1 148 rfl rfl), (ch1 5 rfl rfl)⟩, List.forall_mem_cons.mpr ⟨trivial, List.forall_mem_cons.mpr ⟨⟨fun h => absurd h (by decide), fun _ => Or.inr ⟨_, (tch2 180 rfl)⟩⟩, List.forall_mem_cons.mpr ⟨(ch2 185 rfl rfl), List.forall_mem_cons.mpr ⟨trivial, List.forall_mem_cons.mpr ⟨trivial, List.forall_mem_cons.mpr ⟨(ch1 54 rfl rfl), List.forall_mem_cons.mpr ⟨(ch2 186 rfl rfl), List.forall_mem_cons.mpr ⟨trivial, List.forall_mem_cons.mpr ⟨trivial, List.forall_mem_cons.mpr ⟨trivial, List.forall_mem_cons.mpr ⟨⟨(ch2 181 rfl rfl), (tch2 182 rfl), (ch1 54 rfl rfl)⟩, List.forall_mem_cons.mpr ⟨(ch2 187 rfl rfl), List.forall_mem_cons.mpr ⟨trivial, List.forall_mem_cons.mpr ⟨trivial, List.forall_mem_cons.mpr ⟨(ch2 188 rfl rfl), List.forall_mem_cons.mpr ⟨trivial, List.forall_mem_cons.mpr ⟨trivial, List.forall_mem_cons.mpr ⟨(ch2 190 rfl rfl), List.forall_mem_cons.mpr ⟨trivial, List.forall_mem_cons.mpr ⟨trivial, List.forall_mem_cons.mpr ⟨(ch2 183 rfl rfl), List.forall_mem_cons.mpr ⟨trivial, List.forall_mem_cons.mpr ⟨trivial, List.forall_mem_cons.mpr ⟨(ch2 184 rfl rfl), List.forall_mem_cons.mpr ⟨trivial, fun _ h => absurd h List.not_mem_nil⟩⟩⟩⟩⟩⟩⟩⟩⟩⟩⟩⟩⟩⟩⟩⟩⟩⟩⟩⟩⟩⟩⟩⟩⟩⟩⟩⟩⟩
theorem kd_1 : ∀ q ∈ ktb_1, decode (kCd 1) q.1 = .ok (q.2.1, q.2.2.1) ∧ okK 1 q = true := by
  have h : ktb_1.all (fun q => decide (decode (kCd 1) q.1 = .ok (q.2.1, q.2.2.1)) && okK 1 q) = true := by decide +kernel
  intro q hq
  have := List.all_eq_true.mp h q hq
  simp only [Bool.and_eq_true, decide_eq_true_eq] at this
  exact this
set_option maxRecDepth 100000 in
theorem kw_2 : ∀ q ∈ ktb_2, okKW 2 q := List.forall_mem_cons.mpr ⟨trivial, List.forall_mem_cons.mpr ⟨⟨fun _ => ⟨(ch2 22 rfl rfl), (ch1 26 rfl rfl), (ch1 27 rfl rfl)⟩, fun h => absurd rfl h⟩, List.forall_mem_cons.mpr ⟨trivial, List.forall_mem_cons.mpr ⟨trivial, List.forall_mem_cons.mpr ⟨(ch2 24 rfl rfl), List.forall_mem_cons.mpr ⟨trivial, List.forall_mem_cons.mpr ⟨trivial, List.forall_mem_cons.mpr ⟨(ch2 25 rfl rfl), List.forall_mem_cons.mpr ⟨trivial, List.forall_mem_cons.mpr ⟨trivial, List.forall_mem_cons.mpr ⟨(ch2 27 rfl rfl), List.forall_mem_cons.mpr ⟨trivial, List.forall_mem_cons.mpr ⟨trivial, List.forall_mem_cons.mpr ⟨(ch2 29 rfl rfl), List.forall_mem_cons.mpr ⟨trivial, List.forall_mem_cons.mpr ⟨trivial, List.forall_mem_cons.mpr ⟨(ch2 31 rfl rfl), List.forall_mem_cons.mpr ⟨trivial, List.forall_mem_cons.mpr ⟨trivial, List.forall_mem_cons.mpr ⟨(ch2 33 rfl rfl), List.forall_mem_cons.mpr ⟨trivial, List.forall_mem_cons.mpr ⟨trivial, List.forall_mem_cons.mpr ⟨(ch1 54 rfl rfl), List.forall_mem_cons.mpr ⟨(ch2 35 rfl rfl), List.forall_mem_cons.mpr ⟨trivial, List.forall_mem_cons.mpr ⟨trivial, List.forall_mem_cons.mpr ⟨(ch1 213 rfl rfl), List.forall_mem_cons.mpr ⟨(ch2 37 rfl rfl), List.forall_mem_cons.mpr ⟨trivial, List.forall_mem_cons.mpr ⟨trivial, List.forall_mem_cons.mpr ⟨(ch1 54 rfl rfl), List.forall_mem_cons.mpr ⟨(ch2 39 rfl rfl), List.forall_mem_cons.mpr ⟨trivial, List.forall_mem_cons.mpr ⟨trivial, List.forall_mem_cons.mpr ⟨(ch2 80 rfl rfl), List.forall_mem_cons.mpr ⟨(ch2 41 rfl rfl), List.forall_mem_cons.mpr ⟨trivial, List.forall_mem_cons.mpr ⟨trivial, List.forall_mem_cons.mpr ⟨(ch2 42 rfl rfl), List.forall_mem_cons.mpr ⟨trivial, List.forall_mem_cons.mpr ⟨trivial, List.forall_mem_cons.mpr ⟨(ch2 46 rfl rfl), List.forall_mem_cons.mpr ⟨trivial, List.forall_mem_cons.mpr ⟨trivial, List.forall_mem_cons.mpr ⟨(ch2 49 rfl rfl), List.forall_mem_cons.mpr ⟨trivial, List.forall_mem_cons.mpr ⟨trivial, List.forall_mem_cons.mpr ⟨(ch2 23 rfl rfl), List.forall_mem_cons.mpr ⟨trivial, fun _ h => absurd h List.not_mem_nil⟩⟩⟩⟩⟩⟩⟩⟩⟩⟩⟩⟩⟩⟩⟩⟩⟩⟩⟩⟩⟩⟩⟩⟩⟩⟩⟩⟩⟩⟩⟩⟩⟩⟩⟩⟩⟩⟩⟩⟩⟩⟩⟩⟩⟩⟩⟩⟩⟩
theorem kd_2 : ∀ q ∈ ktb_2, decode (kCd 2) q.1 = .ok (q.2.1, q.2.2.1) ∧ okK 2 q = true := by
  have h : ktb_2.all (fun q => decide (decode (kCd 2) q.1 = .ok (q.2.1, q.2.2.1)) && okK 2 q) = true := by decide +kernel
  intro q hq
  have := List.all_eq_true.mp h q hq
  simp only [Bool.and_eq_true, decide_eq_true_eq] at this
  exact this
set_option maxRecDepth 100000 in
theorem kw_3 : ∀ q ∈ ktb_3, okKW 3 q := List.forall_mem_cons.mpr ⟨trivial, List.forall_mem_cons.mpr ⟨⟨fun _ => ⟨(ch1 219 rfl rfl), (ch1 26 rfl rfl), (ch1 27 rfl rfl)⟩, fun h => absurd rfl h⟩, List.forall_mem_cons.mpr ⟨trivial, List.forall_mem_cons.mpr ⟨trivial, List.forall_mem_cons.mpr ⟨(ch1 220 rfl rfl), List.forall_mem_cons.mpr ⟨trivial, List.forall_mem_cons.mpr ⟨trivial, List.forall_mem_cons.mpr ⟨(ch1 54 rfl rfl), List.forall_mem_cons.mpr ⟨(ch1 222 rfl rfl), List.forall_mem_cons.mpr ⟨trivial, List.forall_mem_cons.mpr ⟨trivial, List.forall_mem_cons.mpr ⟨(ch1 54 rfl rfl), List.forall_mem_cons.mpr ⟨(ch1 223 rfl rfl), List.forall_mem_cons.mpr ⟨trivial, List.forall_mem_cons.mpr ⟨trivial, List.forall_mem_cons.mpr ⟨(ch1 54 rfl rfl), List.forall_mem_cons.mpr ⟨(ch1 224 rfl rfl), List.forall_mem_cons.mpr ⟨trivial, fun _ h => absurd h List.not_mem_nil⟩⟩⟩⟩⟩⟩⟩⟩⟩⟩⟩⟩⟩⟩⟩⟩⟩⟩
theorem kd_3 : ∀ q ∈ ktb_3, decode (kCd 3) q.1 = .ok (q.2.1, q.2.2.1) ∧ okK 3 q = true := by
  have h : ktb_3.all (fun q => decide (decode (kCd 3) q.1 = .ok (q.2.1, q.2.2.1)) && okK 3 q) = true := by decide +kernel
  intro q hq
  have := List.all_eq_true.mp h q hq
  simp only [Bool.and_eq_true, decide_eq_true_eq] at this
  exact this
set_option maxRecDepth 100000 in
theorem kw_4 : ∀ q ∈ ktb_4, okKW 4 q := List.forall_mem_cons.mpr ⟨trivial, List.forall_mem_cons.mpr ⟨⟨fun _ => ⟨(ch1 60 rfl rfl), (ch1 26 rfl rfl), (ch1 27 rfl rfl)⟩, fun h => absurd rfl h⟩, List.forall_mem_cons.mpr ⟨trivial, List.forall_mem_cons.mpr ⟨trivial, List.forall_mem_cons.mpr ⟨(ch1 61 rfl rfl), List.forall_mem_cons.mpr ⟨trivial, List.forall_mem_cons.mpr ⟨trivial, List.forall_mem_cons.mpr ⟨(ch1 63 rfl rfl), List.forall_mem_cons.mpr ⟨trivial, List.forall_mem_cons.mpr ⟨trivial, List.forall_mem_cons.mpr ⟨(ch1 66 rfl rfl), List.forall_mem_cons.mpr ⟨trivial, List.forall_mem_cons.mpr ⟨trivial, List.forall_mem_cons.mpr ⟨(ch1 69 rfl rfl), List.forall_mem_cons.mpr ⟨trivial, List.forall_mem_cons.mpr ⟨trivial, List.forall_mem_cons.mpr ⟨(ch1 73 rfl rfl), List.forall_mem_cons.mpr ⟨trivial, List.forall_mem_cons.mpr ⟨trivial, List.forall_mem_cons.mpr ⟨(ch1 76 rfl rfl), List.forall_mem_cons.mpr ⟨trivial, List.forall_mem_cons.mpr ⟨trivial, List.forall_mem_cons.mpr ⟨(ch1 54 rfl rfl), List.forall_mem_cons.mpr ⟨(ch1 80 rfl rfl), List.forall_mem_cons.mpr ⟨trivial, List.forall_mem_cons.mpr ⟨trivial, List.forall_mem_cons.mpr ⟨(ch1 54 rfl rfl), List.forall_mem_cons.mpr ⟨(ch1 83 rfl rfl), List.forall_mem_cons.mpr ⟨trivial, List.forall_mem_cons.mpr ⟨trivial, List.forall_mem_cons.mpr ⟨(ch1 54 rfl rfl), List.forall_mem_cons.mpr ⟨(ch1 86 rfl rfl), List.forall_mem_cons.mpr ⟨trivial, List.forall_mem_cons.mpr ⟨trivial, List.forall_mem_cons.mpr ⟨(ch1 54 rfl rfl), List.forall_mem_cons.mpr ⟨(ch1 89 rfl rfl), List.forall_mem_cons.mpr ⟨trivial, List.forall_mem_cons.mpr ⟨trivial, List.forall_mem_cons.mpr ⟨(ch1 54 rfl rfl), List.forall_mem_cons.mpr ⟨(ch1 92 rfl rfl), List.forall_mem_cons.mpr ⟨trivial, List.forall_mem_cons.mpr ⟨trivial, List.forall_mem_cons.mpr ⟨(ch1 54 rfl rfl), List.forall_mem_cons.mpr ⟨(ch1 95 rfl rfl), List.forall_mem_cons.mpr ⟨trivial, List.forall_mem_cons.mpr ⟨trivial, List.forall_mem_cons.mpr ⟨(ch1 54 rfl rfl), List.forall_mem_cons.mpr ⟨(ch1 98 rfl rfl), List.forall_mem_cons.mpr ⟨trivial, List.forall_mem_cons.mpr ⟨trivial, List.forall_mem_cons.mpr ⟨(ch1 54 rfl rfl), List.forall_mem_cons.mpr ⟨(ch1 103 rfl rfl), List.forall_mem_cons.mpr ⟨trivial, fun _ h => absurd h List.not_mem_nil⟩⟩⟩⟩⟩⟩⟩⟩⟩⟩⟩⟩⟩⟩⟩⟩⟩⟩⟩⟩⟩⟩⟩⟩⟩⟩⟩⟩⟩⟩⟩⟩⟩⟩⟩⟩⟩⟩⟩⟩⟩⟩⟩⟩⟩⟩⟩⟩⟩⟩⟩⟩⟩
theorem kd_4 : ∀ q ∈ ktb_4, decode (kCd 4) q.1 = .ok (q.2.1, q.2.2.1) ∧ okK 4 q = true := by
  have h : ktb_4.all (fun q => decide (decode (kCd 4) q.1 = .ok (q.2.1, q.2.2.1)) && okK 4 q) = true := by decide +kernel
  intro q hq
  have := List.all_eq_true.mp h q hq
  simp only [Bool.and_eq_true, decide_eq_true_eq] at this
  exact this
set_option maxRecDepth 100000 in
theorem kw_5 : ∀ q ∈ ktb_5, okKW 5 q := List.forall_mem_cons.mpr ⟨trivial, List.forall_mem_cons.mpr ⟨⟨fun _ => ⟨(ch2 211 rfl rfl), (ch1 26 rfl rfl), (ch1 27 rfl rfl)⟩, fun h => absurd rfl h⟩, List.forall_mem_cons.mpr ⟨trivial, List.forall_mem_cons.mpr ⟨trivial, List.forall_mem_cons.mpr ⟨(ch1 54 rfl rfl), List.forall_mem_cons.mpr ⟨(ch2 212 rfl rfl), List.forall_mem_cons.mpr ⟨trivial, List.forall_mem_cons.mpr ⟨trivial, List.forall_mem_cons.mpr ⟨(ch2 213 rfl rfl), List.forall_mem_cons.mpr ⟨trivial, List.forall_mem_cons.mpr ⟨trivial, List.forall_mem_cons.mpr ⟨(ch2 214 rfl rfl), List.forall_mem_cons.mpr ⟨trivial, List.forall_mem_cons.mpr ⟨trivial, List.forall_mem_cons.mpr ⟨(ch2 215 rfl rfl), List.forall_mem_cons.mpr ⟨trivial, List.forall_mem_cons.mpr ⟨trivial, List.forall_mem_cons.mpr ⟨(ch1 54 rfl rfl), List.forall_mem_cons.mpr ⟨(ch2 216 rfl rfl), List.forall_mem_cons.mpr ⟨trivial, List.forall_mem_cons.mpr ⟨trivial, List.forall_mem_cons.mpr ⟨(ch1 54 rfl rfl), List.forall_mem_cons.mpr ⟨(ch2 217 rfl rfl), List.forall_mem_cons.mpr ⟨trivial, List.forall_mem_cons.mpr ⟨trivial, List.forall_mem_cons.mpr ⟨(ch1 54 rfl rfl), List.forall_mem_cons.mpr ⟨(ch2 218 rfl rfl), List.forall_mem_cons.mpr ⟨trivial, List.forall_mem_cons.mpr ⟨trivial, List.forall_mem_cons.mpr ⟨(ch2 80 rfl rfl), List.forall_mem_cons.mpr ⟨(ch2 219 rfl rfl), List.forall_mem_cons.mpr ⟨trivial, fun _ h => absurd h List.not_mem_nil⟩⟩⟩⟩⟩⟩⟩⟩⟩⟩⟩⟩⟩⟩⟩⟩⟩⟩⟩⟩⟩⟩⟩⟩⟩⟩⟩⟩⟩⟩⟩⟩
theorem kd_5 : ∀ q ∈ ktb_5, decode (kCd 5) q.1 = .ok (q.2.1, q.2.2.1) ∧ okK 5 q = true := by
  have h : ktb_5.all (fun q => decide (decode (kCd 5) q.1 = .ok (q.2.1, q.2.2.1)) && okK 5 q) = true := by decide +kernel
  intro q hq
  have := List.all_eq_true.mp h q hq
  simp only [Bool.and_eq_true, decide_eq_true_eq] at this
  exact this
set_option maxRecDepth 100000 in
theorem kw_6 : ∀ q ∈ ktb_6, okKW 6 q := List.forall_mem_cons.mpr ⟨trivial, List.forall_mem_cons.mpr ⟨⟨fun _ => ⟨(ch2 86 rfl rfl), (ch1 26 rfl rfl), (ch1 27 rfl rfl)⟩, fun h => absurd rfl h⟩, List.forall_mem_cons.mpr ⟨trivial, List.forall_mem_cons.mpr ⟨⟨(ch2 87 rfl rfl), (ch1 148 rfl rfl), (ch1 5 rfl rfl)⟩, List.forall_mem_cons.mpr ⟨trivial, List.forall_mem_cons.mpr ⟨⟨fun h => absurd h (by decide), fun _ => Or.inr ⟨_, (tch2 88 rfl)⟩⟩, List.forall_mem_cons.mpr ⟨(ch2 91 rfl rfl), List.forall_mem_cons.mpr ⟨trivial, List.forall_mem_cons.mpr ⟨trivial, List.forall_mem_cons.mpr ⟨(ch2 92 rfl rfl), List.forall_mem_cons.mpr ⟨trivial, List.forall_mem_cons.mpr ⟨trivial, List.forall_mem_cons.mpr ⟨(ch2 94 rfl rfl), List.forall_mem_cons.mpr ⟨trivial, List.forall_mem_cons.mpr ⟨trivial, List.forall_mem_cons.mpr ⟨(ch2 89 rfl rfl), List.forall_mem_cons.mpr ⟨trivial, List.forall_mem_cons.mpr ⟨trivial, List.forall_mem_cons.mpr ⟨(ch2 90 rfl rfl), List.forall_mem_cons.mpr ⟨trivial, fun _ h => absurd h List.not_mem_nil⟩⟩⟩⟩⟩⟩⟩⟩⟩⟩⟩⟩⟩⟩⟩⟩⟩⟩⟩⟩
theorem kd_6 : ∀ q ∈ ktb_6, decode (kCd 6) q.1 = .ok (q.2.1, q.2.2.1) ∧ okK 6 q = true := by
  have h : ktb_6.all (fun q => decide (decode (kCd 6) q.1 = .ok (q.2.1, q.2.2.1)) && okK 6 q) = true := by decide +kernel
  intro q hq
  have := List.all_eq_true.mp h q hq
  simp only [Bool.and_eq_true, decide_eq_true_eq] at this
  exact this
set_option maxRecDepth 100000 in
theorem kw_7 : ∀ q ∈ ktb_7, okKW 7 q := List.forall_mem_cons.mpr ⟨trivial, List.forall_mem_cons.mpr ⟨⟨fun _ => ⟨(ch1 152 rfl rfl), (ch1 26 rfl rfl), (ch1 27 rfl rfl)⟩, fun h => absurd rfl h⟩, List.forall_mem_cons.mpr ⟨trivial, List.forall_mem_cons.mpr ⟨trivial, List.forall_mem_cons.mpr ⟨(ch1 153 rfl rfl), List.forall_mem_cons.mpr ⟨trivial, List.forall_mem_cons.mpr ⟨trivial, List.forall_mem_cons.mpr ⟨(ch1 54 rfl rfl), List.forall_mem_cons.mpr ⟨(ch1 158 rfl rfl), List.forall_mem_cons.mpr ⟨trivial, List.forall_mem_cons.mpr ⟨trivial, List.forall_mem_cons.mpr ⟨(ch1 54 rfl rfl), List.forall_mem_cons.mpr ⟨(ch1 163 rfl rfl), List.forall_mem_cons.mpr ⟨trivial, List.forall_mem_cons.mpr ⟨trivial, List.forall_mem_cons.mpr ⟨(ch1 54 rfl rfl), List.forall_mem_cons.mpr ⟨(ch1 166 rfl rfl), List.forall_mem_cons.mpr ⟨trivial, List.forall_mem_cons.mpr ⟨trivial, List.forall_mem_cons.mpr ⟨(ch1 54 rfl rfl), List.forall_mem_cons.mpr ⟨(ch1 169 rfl rfl), List.forall_mem_cons.mpr ⟨trivial, List.forall_mem_cons.mpr ⟨trivial, List.forall_mem_cons.mpr ⟨(ch1 54 rfl rfl), List.forall_mem_cons.mpr ⟨(ch1 172 rfl rfl), List.forall_mem_cons.mpr ⟨trivial, List.forall_mem_cons.mpr ⟨trivial, List.forall_mem_cons.mpr ⟨(ch1 54 rfl rfl), List.forall_mem_cons.mpr ⟨(ch1 175 rfl rfl), List.forall_mem_cons.mpr ⟨trivial, List.forall_mem_cons.mpr ⟨trivial, List.forall_mem_cons.mpr ⟨(ch1 54 rfl rfl), List.forall_mem_cons.mpr ⟨(ch1 180 rfl rfl), List.forall_mem_cons.mpr ⟨trivial, List.forall_mem_cons.mpr ⟨trivial, List.forall_mem_cons.mpr ⟨(ch1 54 rfl rfl), List.forall_mem_cons.mpr ⟨(ch1 184 rfl rfl), List.forall_mem_cons.mpr ⟨trivial, List.forall_mem_cons.mpr ⟨trivial, List.forall_mem_cons.mpr ⟨(ch1 54 rfl rfl), List.forall_mem_cons.mpr ⟨(ch1 186 rfl rfl), List.forall_mem_cons.mpr ⟨trivial, fun _ h => absurd h List.not_mem_nil⟩⟩⟩⟩⟩⟩⟩⟩⟩⟩⟩⟩⟩⟩⟩⟩⟩⟩⟩⟩⟩⟩⟩⟩⟩⟩⟩⟩⟩⟩⟩⟩⟩⟩⟩⟩⟩⟩⟩⟩⟩⟩
theorem kd_7 : ∀ q ∈ ktb_7, decode (kCd 7) q.1 = .ok (q.2.1, q.2.2.1) ∧ okK 7 q = true := by
  have h : ktb_7.all (fun q => decide (decode (kCd 7) q.1 = .ok (q.2.1, q.2.2.1)) && okK 7 q) = true := by decide +kernel
  intro q hq
  have := List.all_eq_true.mp h q hq
  simp only [Bool.and_eq_true, decide_eq_true_eq] at this
  exact this
set_option maxRecDepth 100000 in
theorem kw_8 : ∀ q ∈ ktb_8, okKW 8 q := List.forall_mem_cons.mpr ⟨trivial, List.forall_mem_cons.mpr ⟨⟨fun _ => ⟨(ch1 33 rfl rfl), (ch1 26 rfl rfl), (ch1 27 rfl rfl)⟩, fun h => absurd rfl h⟩, List.forall_mem_cons.mpr ⟨trivial, List.forall_mem_cons.mpr ⟨trivial, List.forall_mem_cons.mpr ⟨(ch1 54 rfl rfl), List.forall_mem_cons.mpr ⟨(ch1 34 rfl rfl), List.forall_mem_cons.mpr ⟨trivial, List.forall_mem_cons.mpr ⟨trivial, List.forall_mem_cons.mpr ⟨(ch1 36 rfl rfl), List.forall_mem_cons.mpr ⟨trivial, List.forall_mem_cons.mpr ⟨trivial, List.forall_mem_cons.mpr ⟨(ch1 39 rfl rfl), List.forall_mem_cons.mpr ⟨trivial, List.forall_mem_cons.mpr ⟨trivial, List.forall_mem_cons.mpr ⟨(ch1 42 rfl rfl), List.forall_mem_cons.mpr ⟨trivial, fun _ h => absurd h List.not_mem_nil⟩⟩⟩⟩⟩⟩⟩⟩⟩⟩⟩⟩⟩⟩⟩⟩
theorem kd_8 : ∀ q ∈ ktb_8, decode (kCd 8) q.1 = .ok (q.2.1, q.2.2.1) ∧ okK 8 q = true := by
  have h : ktb_8.all (fun q => decide (decode (kCd 8) q.1 = .ok (q.2.1, q.2.2.1)) && okK 8 q) = true := by decide +kernel
  intro q hq
  have := List.all_eq_true.mp h q hq
  simp only [Bool.and_eq_true, decide_eq_true_eq] at this
  exact this
set_option maxRecDepth 100000 in
theorem kw_9 : ∀ q ∈ ktb_9, okKW 9 q := List.forall_mem_cons.mpr ⟨trivial, List.forall_mem_cons.mpr ⟨⟨fun _ => ⟨(ch2 151 rfl rfl), (ch1 26 rfl rfl), (ch1 27 rfl rfl)⟩, fun h => absurd rfl h⟩, List.forall_mem_cons.mpr ⟨trivial, List.forall_mem_cons.mpr ⟨⟨(ch2 152 rfl rfl), (ch1 148 rfl rfl), (ch1 5 rfl rfl)⟩, List.forall_mem_cons.mpr ⟨trivial, List.forall_mem_cons.mpr ⟨⟨fun h => absurd h (by decide), fun _ => Or.inr ⟨_, (tch2 153 rfl)⟩⟩, List.forall_mem_cons.mpr ⟨(ch2 156 rfl rfl), List.forall_mem_cons.mpr ⟨trivial, List.forall_mem_cons.mpr ⟨trivial, List.forall_mem_cons.mpr ⟨(ch1 213 rfl rfl), List.forall_mem_cons.mpr ⟨(ch2 157 rfl rfl), List.forall_mem_cons.mpr ⟨trivial, List.forall_mem_cons.mpr ⟨trivial, List.forall_mem_cons.mpr ⟨(ch1 54 rfl rfl), List.forall_mem_cons.mpr ⟨(ch2 158 rfl rfl), List.forall_mem_cons.mpr ⟨trivial, List.forall_mem_cons.mpr ⟨trivial, List.forall_mem_cons.mpr ⟨(ch1 54 rfl rfl), List.forall_mem_cons.mpr ⟨(ch2 159 rfl rfl), List.forall_mem_cons.mpr ⟨trivial, List.forall_mem_cons.mpr ⟨trivial, List.forall_mem_cons.mpr ⟨(ch2 154 rfl rfl), List.forall_mem_cons.mpr ⟨trivial, List.forall_mem_cons.mpr ⟨trivial, List.forall_mem_cons.mpr ⟨(ch2 155 rfl rfl), List.forall_mem_cons.mpr ⟨trivial, fun _ h => absurd h List.not_mem_nil⟩⟩⟩⟩⟩⟩⟩⟩⟩⟩⟩⟩⟩⟩⟩⟩⟩⟩⟩⟩⟩⟩⟩⟩⟩⟩
theorem kd_9 : ∀ q ∈ ktb_9, decode (kCd 9) q.1 = .ok (q.2.1, q.2.2.1) ∧ okK 9 q = true := by
  have h : ktb_9.all (fun q => decide (decode (kCd 9) q.1 = .ok (q.2.1, q.2.2.1)) && okK 9 q) = true := by decide +kernel
  intro q hq
  have := List.all_eq_true.mp h q hq
  simp only [Bool.and_eq_true, decide_eq_true_eq] at this
  exact this
set_option maxRecDepth 100000 in
theorem kw_10 : ∀ q ∈ ktb_10, okKW 10 q := List.forall_mem_cons.mpr ⟨trivial, List.forall_mem_cons.mpr ⟨⟨fun _ => ⟨(ch1 144 rfl rfl), (ch1 26 rfl rfl), (ch1 27 rfl rfl)⟩, fun h => absurd rfl h⟩, List.forall_mem_cons.mpr ⟨trivial, List.forall_mem_cons.mpr ⟨⟨(ch1 145 rfl rfl), (ch1 56 rfl rfl), (ch1 3 rfl rfl)⟩, List.forall_mem_cons.mpr ⟨trivial, List.forall_mem_cons.mpr ⟨⟨fun h => absurd h (by decide), fun _ => Or.inr ⟨_, (tch1 146 rfl)⟩⟩, List.forall_mem_cons.mpr ⟨(ch1 234 rfl rfl), List.forall_mem_cons.mpr ⟨trivial, List.forall_mem_cons.mpr ⟨⟨(ch1 147 rfl rfl), (ch1 148 rfl rfl), (ch1 5 rfl rfl)⟩, List.forall_mem_cons.mpr ⟨trivial, List.forall_mem_cons.mpr ⟨⟨fun h => absurd h (by decide), fun _ => Or.inr ⟨_, (tch1 149 rfl)⟩⟩, List.forall_mem_cons.mpr ⟨(ch1 236 rfl rfl), List.forall_mem_cons.mpr ⟨trivial, List.forall_mem_cons.mpr ⟨⟨(ch1 214 rfl rfl), (ch1 215 rfl rfl), (ch1 6 rfl rfl)⟩, List.forall_mem_cons.mpr ⟨trivial, List.forall_mem_cons.mpr ⟨⟨fun h => absurd h (by decide), fun _ => Or.inr ⟨_, (tch1 216 rfl)⟩⟩, List.forall_mem_cons.mpr ⟨(ch1 239 rfl rfl), List.forall_mem_cons.mpr ⟨trivial, List.forall_mem_cons.mpr ⟨trivial, List.forall_mem_cons.mpr ⟨(ch2 1 rfl rfl), List.forall_mem_cons.mpr ⟨trivial, List.forall_mem_cons.mpr ⟨trivial, List.forall_mem_cons.mpr ⟨(ch2 3 rfl rfl), List.forall_mem_cons.mpr ⟨trivial, fun _ h => absurd h List.not_mem_nil⟩⟩⟩⟩⟩⟩⟩⟩⟩⟩⟩⟩⟩⟩⟩⟩⟩⟩⟩⟩⟩⟩⟩⟩
theorem kd_10 : ∀ q ∈ ktb_10, decode (kCd 10) q.1 = .ok (q.2.1, q.2.2.1) ∧ okK 10 q = true := by
  have h : ktb_10.all (fun q => decide (decode (kCd 10) q.1 = .ok (q.2.1, q.2.2.1)) && okK 10 q) = true := by decide +kernel
  intro q hq
  have := List.all_eq_true.mp h q hq
  simp only [Bool.and_eq_true, decide_eq_true_eq] at this
  exact this
set_option maxRecDepth 100000 in
theorem kw_11 : ∀ q ∈ ktb_11, okKW 11 q := List.forall_mem_cons.mpr ⟨trivial, List.forall_mem_cons.mpr ⟨⟨fun _ => ⟨(ch1 25 rfl rfl), (ch1 26 rfl rfl), (ch1 27 rfl rfl)⟩, fun h => absurd rfl h⟩, List.forall_mem_cons.mpr ⟨trivial, List.forall_mem_cons.mpr ⟨⟨(ch1 28 rfl rfl), (ch1 29 rfl rfl), (ch1 2 rfl rfl)⟩, List.forall_mem_cons.mpr ⟨trivial, List.forall_mem_cons.mpr ⟨⟨fun h => absurd h (by decide), fun _ => Or.inr ⟨_, (tch1 30 rfl)⟩⟩, List.forall_mem_cons.mpr ⟨(ch2 238 rfl rfl), List.forall_mem_cons.mpr ⟨trivial, List.forall_mem_cons.mpr ⟨⟨(ch1 55 rfl rfl), (ch1 56 rfl rfl), (ch1 3 rfl rfl)⟩, List.forall_mem_cons.mpr ⟨trivial, List.forall_mem_cons.mpr ⟨⟨fun h => absurd h (by decide), fun _ => Or.inr ⟨_, (tch1 57 rfl)⟩⟩, List.forall_mem_cons.mpr ⟨(ch2 239 rfl rfl), List.forall_mem_cons.mpr ⟨trivial, List.forall_mem_cons.mpr ⟨trivial, List.forall_mem_cons.mpr ⟨⟨_, rfl, (ch1 134 rfl rfl), (tch1 135 rfl)⟩, List.forall_mem_cons.mpr ⟨(ch3 1 rfl rfl), List.forall_mem_cons.mpr ⟨trivial, List.forall_mem_cons.mpr ⟨trivial, List.forall_mem_cons.mpr ⟨(ch3 2 rfl rfl), List.forall_mem_cons.mpr ⟨trivial, List.forall_mem_cons.mpr ⟨trivial, List.forall_mem_cons.mpr ⟨⟨_, rfl, (ch1 136 rfl rfl), (tch1 137 rfl)⟩, List.forall_mem_cons.mpr ⟨(ch3 3 rfl rfl), List.forall_mem_cons.mpr ⟨trivial, List.forall_mem_cons.mpr ⟨trivial, List.forall_mem_cons.mpr ⟨(ch3 4 rfl rfl), List.forall_mem_cons.mpr ⟨trivial, List.forall_mem_cons.mpr ⟨trivial, List.forall_mem_cons.mpr ⟨(ch3 5 rfl rfl), List.forall_mem_cons.mpr ⟨trivial, List.forall_mem_cons.mpr ⟨trivial, List.forall_mem_cons.mpr ⟨⟨_, rfl, (ch1 138 rfl rfl), (tch1 139 rfl)⟩, List.forall_mem_cons.mpr ⟨(ch3 6 rfl rfl), List.forall_mem_cons.mpr ⟨trivial, List.forall_mem_cons.mpr ⟨trivial, List.forall_mem_cons.mpr ⟨(ch1 213 rfl rfl), List.forall_mem_cons.mpr ⟨(ch3 7 rfl rfl), List.forall_mem_cons.mpr ⟨⟨(ch1 138 rfl rfl), (ch1 140 rfl rfl), (ch1 4 rfl rfl)⟩, List.forall_mem_cons.mpr ⟨trivial, List.forall_mem_cons.mpr ⟨⟨fun h => absurd h (by decide), fun _ => Or.inr ⟨_, (tch1 141 rfl)⟩⟩, List.forall_mem_cons.mpr ⟨trivial, List.forall_mem_cons.mpr ⟨⟨(ch2 17 rfl rfl), (ch2 18 rfl rfl), (ch1 7 rfl rfl)⟩, List.forall_mem_cons.mpr ⟨trivial, List.forall_mem_cons.mpr ⟨trivial, List.forall_mem_cons.mpr ⟨(ch1 235 rfl rfl), List.forall_mem_cons.mpr ⟨⟨fun h => absurd h (by decide), fun _ => Or.inl (ch2 19 rfl rfl)⟩, List.forall_mem_cons.mpr ⟨trivial, List.forall_mem_cons.mpr ⟨trivial, List.forall_mem_cons.mpr ⟨trivial, List.forall_mem_cons.mpr ⟨(ch3 0 rfl rfl), List.forall_mem_cons.mpr ⟨trivial, List.forall_mem_cons.mpr ⟨trivial, List.forall_mem_cons.mpr ⟨(ch3 8 rfl rfl), List.forall_mem_cons.mpr ⟨trivial, List.forall_mem_cons.mpr ⟨⟨(ch2 81 rfl rfl), (ch2 82 rfl rfl), (ch1 8 rfl rfl)⟩, List.forall_mem_cons.mpr ⟨trivial, List.forall_mem_cons.mpr ⟨trivial, List.forall_mem_cons.mpr ⟨(ch1 235 rfl rfl), List.forall_mem_cons.mpr ⟨trivial, List.forall_mem_cons.mpr ⟨⟨fun h => absurd h (by decide), fun _ => Or.inl (ch2 83 rfl rfl)⟩, List.forall_mem_cons.mpr ⟨(ch3 9 rfl rfl), List.forall_mem_cons.mpr ⟨trivial, List.forall_mem_cons.mpr ⟨⟨(ch2 107 rfl rfl), (ch2 108 rfl rfl), (ch1 9 rfl rfl)⟩, List.forall_mem_cons.mpr ⟨trivial, List.forall_mem_cons.mpr ⟨trivial, List.forall_mem_cons.mpr ⟨(ch1 235 rfl rfl), List.forall_mem_cons.mpr ⟨trivial, List.forall_mem_cons.mpr ⟨⟨fun h => absurd h (by decide), fun _ => Or.inl (ch2 109 rfl rfl)⟩, List.forall_mem_cons.mpr ⟨(ch3 10 rfl rfl), List.forall_mem_cons.mpr ⟨trivial, List.forall_mem_cons.mpr ⟨⟨(ch2 146 rfl rfl), (ch2 147 rfl rfl), (ch1 10 rfl rfl)⟩, List.forall_mem_cons.mpr ⟨trivial, List.forall_mem_cons.mpr ⟨trivial, List.forall_mem_cons.mpr ⟨(ch1 235 rfl rfl), List.forall_mem_cons.mpr ⟨trivial, List.forall_mem_cons.mpr ⟨⟨fun h => absurd h (by decide), fun _ => Or.inl (ch2 148 rfl rfl)⟩, List.forall_mem_cons.mpr ⟨(ch3 11 rfl rfl), List.forall_mem_cons.mpr ⟨trivial, List.forall_mem_cons.mpr ⟨⟨(ch2 173 rfl rfl), (ch2 174 rfl rfl), (ch1 11 rfl rfl)⟩, List.forall_mem_cons.mpr ⟨trivial, List.forall_mem_cons.mpr ⟨trivial, List.forall_mem_cons.mpr ⟨(ch1 235 rfl rfl), List.forall_mem_cons.mpr ⟨trivial, List.forall_mem_cons.mpr ⟨⟨fun h => absurd h (by decide), fun _ => Or.inl (ch2 175 rfl rfl)⟩, List.forall_mem_cons.mpr ⟨(ch3 12 rfl rfl), List.forall_mem_cons.mpr ⟨trivial, List.forall_mem_cons.mpr ⟨trivial, List.forall_mem_cons.mpr ⟨trivial, List.forall_mem_cons.mpr ⟨trivial, List.forall_mem_cons.mpr ⟨trivial, List.forall_mem_cons.mpr ⟨trivial, List.forall_mem_cons.mpr ⟨(ch3 1 rfl rfl), List.forall_mem_cons.mpr ⟨trivial, List.forall_mem_cons.mpr ⟨⟨(ch1 134 rfl rfl), (ch2 207 rfl rfl), (ch1 12 rfl rfl)⟩, List.forall_mem_cons.mpr ⟨trivial, List.forall_mem_cons.mpr ⟨⟨fun h => absurd h (by decide), fun _ => Or.inr ⟨_, (tch2 208 rfl)⟩⟩, List.forall_mem_cons.mpr ⟨trivial, List.forall_mem_cons.mpr ⟨trivial, List.forall_mem_cons.mpr ⟨trivial, List.forall_mem_cons.mpr ⟨trivial, List.forall_mem_cons.mpr ⟨trivial, List.forall_mem_cons.mpr ⟨trivial, List.forall_mem_cons.mpr ⟨trivial, List.forall_mem_cons.mpr ⟨trivial, List.forall_mem_cons.mpr ⟨trivial, List.forall_mem_cons.mpr ⟨(ch3 3 rfl rfl), List.forall_mem_cons.mpr ⟨trivial, List.forall_mem_cons.mpr ⟨⟨(ch1 136 rfl rfl), (ch1 148 rfl rfl), (ch1 5 rfl rfl)⟩, List.forall_mem_cons.mpr ⟨trivial, List.forall_mem_cons.mpr ⟨⟨fun h => absurd h (by decide), fun _ => Or.inr ⟨_, (tch2 237 rfl)⟩⟩, List.forall_mem_cons.mpr ⟨trivial, List.forall_mem_cons.mpr ⟨trivial, List.forall_mem_cons.mpr ⟨trivial, List.forall_mem_cons.mpr ⟨trivial, List.forall_mem_cons.mpr ⟨trivial, List.forall_mem_cons.mpr ⟨trivial, List.forall_mem_cons.mpr ⟨trivial, List.forall_mem_cons.mpr ⟨trivial, List.forall_mem_cons.mpr ⟨trivial, List.forall_mem_cons.mpr ⟨(ch3 6 rfl rfl), List.forall_mem_cons.mpr ⟨trivial, List.forall_mem_cons.mpr ⟨⟨(ch1 138 rfl rfl), (ch1 140 rfl rfl), (ch1 4 rfl rfl)⟩, List.forall_mem_cons.mpr ⟨trivial, List.forall_mem_cons.mpr ⟨⟨fun h => absurd h (by decide), fun _ => Or.inr ⟨_, (tch1 141 rfl)⟩⟩, List.forall_mem_cons.mpr ⟨trivial, List.forall_mem_cons.mpr ⟨trivial, List.forall_mem_cons.mpr ⟨trivial, List.forall_mem_cons.mpr ⟨trivial, fun _ h => absurd h List.not_mem_nil⟩⟩⟩⟩⟩⟩⟩⟩⟩⟩⟩⟩⟩⟩⟩⟩⟩⟩⟩⟩⟩⟩⟩⟩⟩⟩⟩⟩⟩⟩⟩⟩⟩⟩⟩⟩⟩⟩⟩⟩⟩⟩⟩⟩⟩⟩⟩⟩⟩⟩⟩⟩⟩⟩⟩⟩⟩⟩⟩⟩⟩⟩⟩⟩⟩⟩⟩⟩⟩⟩⟩⟩⟩⟩⟩⟩⟩⟩⟩⟩⟩⟩⟩⟩⟩⟩⟩⟩⟩⟩⟩⟩⟩⟩⟩⟩⟩⟩⟩⟩⟩⟩⟩⟩⟩⟩⟩⟩⟩⟩⟩⟩⟩⟩⟩⟩⟩⟩⟩⟩⟩⟩⟩⟩⟩⟩⟩⟩
theorem kd_11 : ∀ q ∈ ktb_11, decode (kCd 11) q.1 = .ok (q.2.1, q.2.2.1) ∧ okK 11 q = true := by
  have h : ktb_11.all (fun q => decide (decode (kCd 11) q.1 = .ok (q.2.1, q.2.2.1)) && okK 11 q) = true := by decide +kernel
  intro q hq
  have := List.all_eq_true.mp h q hq
  simp only [Bool.and_eq_true, decide_eq_true_eq] at this
  exact this
set_option maxRecDepth 100000 in
theorem kw_12 : ∀ q ∈ ktb_12, okKW 12 q := List.forall_mem_cons.mpr ⟨trivial, List.forall_mem_cons.mpr ⟨⟨fun _ => ⟨(ch5 121 rfl rfl), (ch1 26 rfl rfl), (ch1 27 rfl rfl)⟩, fun h => absurd rfl h⟩, List.forall_mem_cons.mpr ⟨trivial, List.forall_mem_cons.mpr ⟨trivial, List.forall_mem_cons.mpr ⟨(ch3 160 rfl rfl), List.forall_mem_cons.mpr ⟨(ch5 122 rfl rfl), List.forall_mem_cons.mpr ⟨trivial, List.forall_mem_cons.mpr ⟨trivial, List.forall_mem_cons.mpr ⟨(ch1 54 rfl rfl), List.forall_mem_cons.mpr ⟨(ch5 125 rfl rfl), List.forall_mem_cons.mpr ⟨trivial, List.forall_mem_cons.mpr ⟨trivial, List.forall_mem_cons.mpr ⟨(ch1 54 rfl rfl), List.forall_mem_cons.mpr ⟨(ch5 126 rfl rfl), List.forall_mem_cons.mpr ⟨trivial, List.forall_mem_cons.mpr ⟨trivial, List.forall_mem_cons.mpr ⟨(ch1 54 rfl rfl), List.forall_mem_cons.mpr ⟨(ch5 127 rfl rfl), List.forall_mem_cons.mpr ⟨trivial, List.forall_mem_cons.mpr ⟨trivial, List.forall_mem_cons.mpr ⟨(ch1 54 rfl rfl), List.forall_mem_cons.mpr ⟨(ch5 128 rfl rfl), List.forall_mem_cons.mpr ⟨trivial, List.forall_mem_cons.mpr ⟨trivial, List.forall_mem_cons.mpr ⟨(ch1 54 rfl rfl), List.forall_mem_cons.mpr ⟨(ch5 129 rfl rfl), List.forall_mem_cons.mpr ⟨trivial, List.forall_mem_cons.mpr ⟨trivial, List.forall_mem_cons.mpr ⟨(ch1 54 rfl rfl), List.forall_mem_cons.mpr ⟨(ch5 137 rfl rfl), List.forall_mem_cons.mpr ⟨trivial, List.forall_mem_cons.mpr ⟨trivial, List.forall_mem_cons.mpr ⟨(ch2 80 rfl rfl), List.forall_mem_cons.mpr ⟨(ch5 139 rfl rfl), List.forall_mem_cons.mpr ⟨trivial, List.forall_mem_cons.mpr ⟨trivial, List.forall_mem_cons.mpr ⟨(ch2 80 rfl rfl), List.forall_mem_cons.mpr ⟨(ch5 141 rfl rfl), List.forall_mem_cons.mpr ⟨trivial, List.forall_mem_cons.mpr ⟨trivial, List.forall_mem_cons.mpr ⟨(ch1 54 rfl rfl), List.forall_mem_cons.mpr ⟨(ch5 142 rfl rfl), List.forall_mem_cons.mpr ⟨trivial, List.forall_mem_cons.mpr ⟨trivial, List.forall_mem_cons.mpr ⟨(ch5 143 rfl rfl), List.forall_mem_cons.mpr ⟨trivial, List.forall_mem_cons.mpr ⟨trivial, List.forall_mem_cons.mpr ⟨(ch5 145 rfl rfl), List.forall_mem_cons.mpr ⟨trivial, List.forall_mem_cons.mpr ⟨trivial, List.forall_mem_cons.mpr ⟨(ch5 146 rfl rfl), List.forall_mem_cons.mpr ⟨trivial, List.forall_mem_cons.mpr ⟨trivial, List.forall_mem_cons.mpr ⟨(ch1 54 rfl rfl), List.forall_mem_cons.mpr ⟨(ch5 151 rfl rfl), List.forall_mem_cons.mpr ⟨trivial, List.forall_mem_cons.mpr ⟨trivial, List.forall_mem_cons.mpr ⟨(ch1 54 rfl rfl), List.forall_mem_cons.mpr ⟨(ch5 152 rfl rfl), List.forall_mem_cons.mpr ⟨trivial, List.forall_mem_cons.mpr ⟨trivial, List.forall_mem_cons.mpr ⟨(ch1 54 rfl rfl), List.forall_mem_cons.mpr ⟨(ch5 153 rfl rfl), List.forall_mem_cons.mpr ⟨trivial, List.forall_mem_cons.mpr ⟨trivial, List.forall_mem_cons.mpr ⟨(ch1 54 rfl rfl), List.forall_mem_cons.mpr ⟨(ch5 155 rfl rfl), List.forall_mem_cons.mpr ⟨trivial, List.forall_mem_cons.mpr ⟨trivial, List.forall_mem_cons.mpr ⟨(ch1 54 rfl rfl), List.forall_mem_cons.mpr ⟨(ch5 157 rfl rfl), List.forall_mem_cons.mpr ⟨trivial, List.forall_mem_cons.mpr ⟨trivial, List.forall_mem_cons.mpr ⟨(ch1 54 rfl rfl), List.forall_mem_cons.mpr ⟨(ch5 158 rfl rfl), List.forall_mem_cons.mpr ⟨trivial, List.forall_mem_cons.mpr ⟨trivial, List.forall_mem_cons.mpr ⟨(ch1 54 rfl rfl), List.forall_mem_cons.mpr ⟨(ch5 159 rfl rfl), List.forall_mem_cons.mpr ⟨trivial, List.forall_mem_cons.mpr ⟨trivial, List.forall_mem_cons.mpr ⟨(ch1 54 rfl rfl), List.forall_mem_cons.mpr ⟨(ch5 162 rfl rfl), List.forall_mem_cons.mpr ⟨trivial, List.forall_mem_cons.mpr ⟨trivial, List.forall_mem_cons.mpr ⟨(ch1 54 rfl rfl), List.forall_mem_cons.mpr ⟨(ch5 163 rfl rfl), List.forall_mem_cons.mpr ⟨trivial, List.forall_mem_cons.mpr ⟨trivial, List.forall_mem_cons.mpr ⟨(ch1 54 rfl rfl), List.forall_mem_cons.mpr ⟨(ch5 164 rfl rfl), List.forall_mem_cons.mpr ⟨trivial, List.forall_mem_cons.mpr ⟨trivial, List.forall_mem_cons.mpr ⟨(ch1 213 rfl rfl), List.forall_mem_cons.mpr ⟨(ch5 165 rfl rfl), List.forall_mem_cons.mpr ⟨trivial, List.forall_mem_cons.mpr ⟨trivial, List.forall_mem_cons.mpr ⟨(ch1 54 rfl rfl), List.forall_mem_cons.mpr ⟨(ch5 166 rfl rfl), List.forall_mem_cons.mpr ⟨trivial, List.forall_mem_cons.mpr ⟨trivial, List.forall_mem_cons.mpr ⟨(ch1 54 rfl rfl), List.forall_mem_cons.mpr ⟨(ch5 168 rfl rfl), List.forall_mem_cons.mpr ⟨trivial, List.forall_mem_cons.mpr ⟨trivial, List.forall_mem_cons.mpr ⟨(ch1 54 rfl rfl), List.forall_mem_cons.mpr ⟨(ch5 169 rfl rfl), List.forall_mem_cons.mpr ⟨trivial, List.forall_mem_cons.mpr ⟨trivial, List.forall_mem_cons.mpr ⟨(ch1 54 rfl rfl), List.forall_mem_cons.mpr ⟨(ch5 170 rfl rfl), List.forall_mem_cons.mpr ⟨trivial, List.forall_mem_cons.mpr ⟨trivial, List.forall_mem_cons.mpr ⟨(ch1 213 rfl rfl), List.forall_mem_cons.mpr ⟨(ch5 171 rfl rfl), List.forall_mem_cons.mpr ⟨trivial, fun _ h => absurd h List.not_mem_nil⟩⟩⟩⟩⟩⟩⟩⟩⟩⟩⟩⟩⟩⟩⟩⟩⟩⟩⟩⟩⟩⟩⟩⟩⟩⟩⟩⟩⟩⟩⟩⟩⟩⟩⟩⟩⟩⟩⟩⟩⟩⟩⟩⟩⟩⟩⟩⟩⟩⟩⟩⟩⟩⟩⟩⟩⟩⟩⟩⟩⟩⟩⟩⟩⟩⟩⟩⟩⟩⟩⟩⟩⟩⟩⟩⟩⟩⟩⟩⟩⟩⟩⟩⟩⟩⟩⟩⟩⟩⟩⟩⟩⟩⟩⟩⟩⟩⟩⟩⟩⟩⟩⟩⟩⟩⟩⟩⟩⟩⟩⟩⟩⟩⟩⟩⟩
theorem kd_12 : ∀ q ∈ ktb_12, decode (kCd 12) q.1 = .ok (q.2.1, q.2.2.1) ∧ okK 12 q = true := by
  have h : ktb_12.all (fun q => decide (decode (kCd 12) q.1 = .ok (q.2.1, q.2.2.1)) && okK 12 q) = true := by decide +kernel
  intro q hq
  have := List.all_eq_true.mp h q hq
  simp only [Bool.and_eq_true, decide_eq_true_eq] at this
  exact this
set_option maxRecDepth 100000 in
theorem kw_13 : ∀ q ∈ ktb_13, okKW 13 q := List.forall_mem_cons.mpr ⟨⟨(ch1 20 rfl rfl), (ch1 21 rfl rfl), (ch1 1 rfl rfl)⟩, List.forall_mem_cons.mpr ⟨trivial, List.forall_mem_cons.mpr ⟨⟨fun h => absurd h (by decide), fun _ => Or.inl (ch1 22 rfl rfl)⟩, List.forall_mem_cons.mpr ⟨trivial, List.forall_mem_cons.mpr ⟨⟨(ch5 116 rfl rfl), (ch5 117 rfl rfl), (ch1 13 rfl rfl)⟩, List.forall_mem_cons.mpr ⟨trivial, List.forall_mem_cons.mpr ⟨⟨fun h => absurd h (by decide), fun _ => Or.inl (ch5 118 rfl rfl)⟩, List.forall_mem_cons.mpr ⟨trivial, fun _ h => absurd h List.not_mem_nil⟩⟩⟩⟩⟩⟩⟩⟩
theorem kd_13 : ∀ q ∈ ktb_13, decode (kCd 13) q.1 = .ok (q.2.1, q.2.2.1) ∧ okK 13 q = true := by
  have h : ktb_13.all (fun q => decide (decode (kCd 13) q.1 = .ok (q.2.1, q.2.2.1)) && okK 13 q) = true := by decide +kernel
  intro q hq
  have := List.all_eq_true.mp h q hq
  simp only [Bool.and_eq_true, decide_eq_true_eq] at this
  exact this
theorem kx_0 : Cond.code (kNm 0) (kCd 0) (kML 0) none ∈ ALLg ∧ Cond.initialized (kNm 0).cls ∈ ALLg ∧ Cond.instanceMethod (kNm 0) ∈ ALLg := ⟨(ch2 111 rfl rfl), (ch1 9 rfl rfl), (ch2 110 rfl rfl)⟩
theorem kx_1 : Cond.code (kNm 1) (kCd 1) (kML 1) none ∈ ALLg ∧ Cond.initialized (kNm 1).cls ∈ ALLg ∧ Cond.instanceMethod (kNm 1) ∈ ALLg := ⟨(ch2 177 rfl rfl), (ch1 11 rfl rfl), (ch2 176 rfl rfl)⟩
theorem kx_2 : Cond.code (kNm 2) (kCd 2) (kML 2) none ∈ ALLg ∧ Cond.initialized (kNm 2).cls ∈ ALLg ∧ Cond.instanceMethod (kNm 2) ∈ ALLg := ⟨(ch2 21 rfl rfl), (ch1 7 rfl rfl), (ch2 20 rfl rfl)⟩
theorem kx_3 : Cond.code (kNm 3) (kCd 3) (kML 3) none ∈ ALLg ∧ Cond.initialized (kNm 3).cls ∈ ALLg ∧ Cond.instanceMethod (kNm 3) ∈ ALLg := ⟨(ch1 218 rfl rfl), (ch1 6 rfl rfl), (ch1 217 rfl rfl)⟩
theorem kx_4 : Cond.code (kNm 4) (kCd 4) (kML 4) none ∈ ALLg ∧ Cond.initialized (kNm 4).cls ∈ ALLg ∧ Cond.instanceMethod (kNm 4) ∈ ALLg := ⟨(ch1 59 rfl rfl), (ch1 3 rfl rfl), (ch1 58 rfl rfl)⟩
theorem kx_5 : Cond.code (kNm 5) (kCd 5) (kML 5) none ∈ ALLg ∧ Cond.initialized (kNm 5).cls ∈ ALLg ∧ Cond.instanceMethod (kNm 5) ∈ ALLg := ⟨(ch2 210 rfl rfl), (ch1 12 rfl rfl), (ch2 209 rfl rfl)⟩
theorem kx_6 : Cond.code (kNm 6) (kCd 6) (kML 6) none ∈ ALLg ∧ Cond.initialized (kNm 6).cls ∈ ALLg ∧ Cond.instanceMethod (kNm 6) ∈ ALLg := ⟨(ch2 85 rfl rfl), (ch1 8 rfl rfl), (ch2 84 rfl rfl)⟩
theorem kx_7 : Cond.code (kNm 7) (kCd 7) (kML 7) none ∈ ALLg ∧ Cond.initialized (kNm 7).cls ∈ ALLg ∧ Cond.instanceMethod (kNm 7) ∈ ALLg := ⟨(ch1 151 rfl rfl), (ch1 5 rfl rfl), (ch1 150 rfl rfl)⟩
theorem kx_8 : Cond.code (kNm 8) (kCd 8) (kML 8) none ∈ ALLg ∧ Cond.initialized (kNm 8).cls ∈ ALLg ∧ Cond.instanceMethod (kNm 8) ∈ ALLg := ⟨(ch1 32 rfl rfl), (ch1 2 rfl rfl), (ch1 31 rfl rfl)⟩
theorem kx_9 : Cond.code (kNm 9) (kCd 9) (kML 9) none ∈ ALLg ∧ Cond.initialized (kNm 9).cls ∈ ALLg ∧ Cond.instanceMethod (kNm 9) ∈ ALLg := ⟨(ch2 150 rfl rfl), (ch1 10 rfl rfl), (ch2 149 rfl rfl)⟩
theorem kx_10 : Cond.code (kNm 10) (kCd 10) (kML 10) none ∈ ALLg ∧ Cond.initialized (kNm 10).cls ∈ ALLg ∧ Cond.instanceMethod (kNm 10) ∈ ALLg := ⟨(ch1 143 rfl rfl), (ch1 4 rfl rfl), (ch1 142 rfl rfl)⟩
theorem kx_11 : Cond.code (kNm 11) (kCd 11) (kML 11) none ∈ ALLg ∧ Cond.initialized (kNm 11).cls ∈ ALLg ∧ Cond.instanceMethod (kNm 11) ∈ ALLg := ⟨(ch1 24 rfl rfl), (ch1 1 rfl rfl), (ch1 23 rfl rfl)⟩
theorem kx_12 : Cond.code (kNm 12) (kCd 12) (kML 12) none ∈ ALLg ∧ Cond.initialized (kNm 12).cls ∈ ALLg ∧ Cond.instanceMethod (kNm 12) ∈ ALLg := ⟨(ch5 120 rfl rfl), (ch1 13 rfl rfl), (ch5 119 rfl rfl)⟩
theorem kTb_ok : ∀ mi, mi < 14 → ∀ q ∈ kTb mi, (decode (kCd mi) q.1 = .ok (q.2.1, q.2.2.1) ∧ okK mi q = true) ∧ okKW mi q := by
  intro mi h q hq
  match mi, h, hq with
  | 0, _, hq => exact ⟨kd_0 q hq, kw_0 q hq⟩
  | 1, _, hq => exact ⟨kd_1 q hq, kw_1 q hq⟩
  | 2, _, hq => exact ⟨kd_2 q hq, kw_2 q hq⟩
  | 3, _, hq => exact ⟨kd_3 q hq, kw_3 q hq⟩
  | 4, _, hq => exact ⟨kd_4 q hq, kw_4 q hq⟩
  | 5, _, hq => exact ⟨kd_5 q hq, kw_5 q hq⟩
  | 6, _, hq => exact ⟨kd_6 q hq, kw_6 q hq⟩
  | 7, _, hq => exact ⟨kd_7 q hq, kw_7 q hq⟩
  | 8, _, hq => exact ⟨kd_8 q hq, kw_8 q hq⟩
  | 9, _, hq => exact ⟨kd_9 q hq, kw_9 q hq⟩
  | 10, _, hq => exact ⟨kd_10 q hq, kw_10 q hq⟩
  | 11, _, hq => exact ⟨kd_11 q hq, kw_11 q hq⟩
  | 12, _, hq => exact ⟨kd_12 q hq, kw_12 q hq⟩
  | 13, _, hq => exact ⟨kd_13 q hq, kw_13 q hq⟩
  | n + 14, h, _ => omega
theorem kX_ok : ∀ x, x < 13 → (Cond.code (kNm x) (kCd x) (kML x) none ∈ ALLg ∧ Cond.initialized (kNm x).cls ∈ ALLg ∧ Cond.instanceMethod (kNm x) ∈ ALLg) ∧ plainName (kNm x).cls = true ∧ ((kNm x).cls ≠ "java/lang/invoke/MethodHandle" ∧ (kNm x).cls ≠ "java/lang/invoke/VarHandle" ∧ (parseMethodDescriptor (kNm x).desc).map (fun d => d.parameters.length) = some (kNa x)) ∧ (kNm x).name = "<init>" ∧ kML x ≤ 21 := by
  intro x h
  match x, h with
  | 0, _ => exact ⟨kx_0, by decide +kernel, ⟨by decide +kernel, by decide +kernel, by decide +kernel⟩, rfl, by decide +kernel⟩
  | 1, _ => exact ⟨kx_1, by decide +kernel, ⟨by decide +kernel, by decide +kernel, by decide +kernel⟩, rfl, by decide +kernel⟩
  | 2, _ => exact ⟨kx_2, by decide +kernel, ⟨by decide +kernel, by decide +kernel, by decide +kernel⟩, rfl, by decide +kernel⟩
  | 3, _ => exact ⟨kx_3, by decide +kernel, ⟨by decide +kernel, by decide +kernel, by decide +kernel⟩, rfl, by decide +kernel⟩
  | 4, _ => exact ⟨kx_4, by decide +kernel, ⟨by decide +kernel, by decide +kernel, by decide +kernel⟩, rfl, by decide +kernel⟩
  | 5, _ => exact ⟨kx_5, by decide +kernel, ⟨by decide +kernel, by decide +kernel, by decide +kernel⟩, rfl, by decide +kernel⟩
  | 6, _ => exact ⟨kx_6, by decide +kernel, ⟨by decide +kernel, by decide +kernel, by decide +kernel⟩, rfl, by decide +kernel⟩
  | 7, _ => exact ⟨kx_7, by decide +kernel, ⟨by decide +kernel, by decide +kernel, by decide +kernel⟩, rfl, by decide +kernel⟩
  | 8, _ => exact ⟨kx_8, by decide +kernel, ⟨by decide +kernel, by decide +kernel, by decide +kernel⟩, rfl, by decide +kernel⟩
  | 9, _ => exact ⟨kx_9, by decide +kernel, ⟨by decide +kernel, by decide +kernel, by decide +kernel⟩, rfl, by decide +kernel⟩
  | 10, _ => exact ⟨kx_10, by decide +kernel, ⟨by decide +kernel, by decide +kernel, by decide +kernel⟩, rfl, by decide +kernel⟩
  | 11, _ => exact ⟨kx_11, by decide +kernel, ⟨by decide +kernel, by decide +kernel, by decide +kernel⟩, rfl, by decide +kernel⟩
  | 12, _ => exact ⟨kx_12, by decide +kernel, ⟨by decide +kernel, by decide +kernel, by decide +kernel⟩, rfl, by decide +kernel⟩
  | n + 13, h => omega
theorem kHt_pos : ∀ x, x < 14 → 1 ≤ kHt x := by decide +kernel
theorem kst_mono {q : Ent} {lv lv' : LVs} {st st' : List AV} {hp hp' : List CC} {pc' : Nat} (hk : kst q lv st hp = some (pc', lv', st', hp')) : hp.length ≤ hp'.length ∧ szL hp ≤ szL hp' := by
  obtain ⟨pc, i, len, x, y, z, v, w⟩ := q
  have same : ∀ {a b : LVs} {c d : List AV} {n : Nat}, some (n, a, c, hp) = some (pc', lv', st', hp') → hp.length ≤ hp'.length ∧ szL hp ≤ szL hp' := fun h => by
    cases h
    exact ⟨Nat.le_refl _, Nat.le_refl _⟩
  have app : ∀ {a : LVs} {c : List AV} {n : Nat} {xs : List CC}, some (n, a, c, hp ++ xs) = some (pc', lv', st', hp') → hp.length ≤ hp'.length ∧ szL hp ≤ szL hp' := fun h => by
    cases h
    exact ⟨by rw [List.length_append]; omega, by rw [szL_app]; omega⟩
  cases i <;> dsimp only [kst] at hk
  case putfield =>
    simp only [cond_eq_ite] at hk
    repeat' split at hk
    all_goals first
      | (cases hk; done)
      | (rename_i ha _; cases hk; exact ⟨by rw [List.length_set]; exact Nat.le_refl _, by refine Nat.le_of_eq (Eq.symm (szL_set ?_ ha)); rfl⟩)
  case aastore =>
    split at hk
    · split at hk
      · rename_i ha
        split at hk
        · split at hk
          · cases hk
            exact ⟨by rw [List.length_set]; exact Nat.le_refl _, by refine Nat.le_of_eq (Eq.symm (szL_set ?_ ha)); rfl⟩
          · cases hk
        · cases hk
      · cases hk
    · cases hk
  all_goals
    (try simp only [cond_eq_ite] at hk)
    (repeat' split at hk) <;> first
      | exact app hk
      | (cases hk; done)
      | (cases hk; exact ⟨Nat.le_refl _, Nat.le_refl _⟩)
theorem cx_mono : ∀ (f mi pc : Nat) (lv : LVs) (st : List AV) (hp hpF : List CC) (lvF : LVs), cxB f mi pc lv st hp = some (hpF, lvF) → hp.length ≤ hpF.length ∧ szL hp ≤ szL hpF := by
  intro f
  induction f with
  | zero => intro mi pc lv st hp hpF lvF h; cases h
  | succ f ih =>
    intro mi pc lv st hp hpF lvF h
    unfold cxB at h
    simp only [cond_eq_ite] at h
    split at h
    · split at h
      · cases h; exact ⟨Nat.le_refl _, Nat.le_refl _⟩
      · cases h
    · split at h
      · cases h
      · split at h
        · split at h
          · split at h
            · cases h
            · cases h; exact ⟨Nat.le_refl _, Nat.le_refl _⟩
          · cases h
        · split at h
          · split at h
            · split at h
              · exact ih _ _ _ _ _ _ _ h
              · cases h
            · cases h
          · split at h
            · split at h
              · split at h
                · rename_i hc
                  have h1 := ih _ _ _ _ _ _ _ hc
                  have h2 := ih _ _ _ _ _ _ _ h
                  exact ⟨by omega, by omega⟩
                · cases h
              · cases h
            · cases h
        · split at h
          · rename_i hk
            have h1 := kst_mono hk
            have h2 := ih _ _ _ _ _ _ _ h
            exact ⟨by omega, by omega⟩
          · cases h
theorem ik1 {i : Instr} (h : ik i = 1) : i = .return_ := by
  cases i <;> first | rfl | cases h
theorem ik2 {i : Instr} (h : ik i = 2) : ∃ n, i = .invokespecial n := by
  cases i <;> first | exact ⟨_, rfl⟩ | cases h
/-- behind a call, whatever it left -/
theorem my_callG {E : EnvT} {p : Program} {l : Launch} {e : Env} {R : Room} {s : State} {m : MethodId} {args : Array Value} {below : List Frame} {meth : Method} {c : Code} {cells slots mc ms pc : Nat} {Q : State → Prop} {H : Heap} {locs : List Loc} {ls : Array Slot} {st0 rest : List Value} {P : Heap → Prop} {v : Option Value} (hr : va_Run p l e R s m args below meth c H locs cells slots mc ms (F0 m pc ls st0) rest (fun st oc t => oc = .returned v ∧ P t.heap ∧ va_F (eA E) st t) (eA E)) (hS : va_S (eA E) s.heap H locs)
    (kk : ∀ (H1 : Heap) (locs1 : List Loc), P H1 → va_S (eA E) s.heap H1 locs1 → W p l e R s m args below meth c H1 locs1 (cells + mc) (slots + ms) Q (F0 m (pc + 3) ls (v.toList ++ rest))) : W p l e R s m args below meth c H locs cells slots Q (F0 m pc ls st0) := by
  intro T hT X
  obtain ⟨v1, st₀, t, T', L, h0, X', hL, e1, e2, ⟨hv, hP, hz, hk⟩, st⟩ := hr T hT X
  cases hv
  rw [h0] at hz hk
  obtain ⟨t2, a1, b1⟩ := kk T'.heap (locs ++ L) (by rw [e1]; exact hP)
    ⟨Nat.le_trans hS.1 (by rw [e1]; exact hz), fun q h1 h2 => by rw [e1, hk q (Nat.lt_of_lt_of_le h1 hS.1) h2]; exact hS.2.1 q h1 h2, fun q hq => by
      rcases List.mem_append.mp hq with h | h
      · exact hS.2.2 q h
      · exact hL q h⟩ T' rfl X'
  exact ⟨t2, st t2 a1, b1⟩
theorem pcC_blind {E : EnvT} {as : List Value} {hp : List CC} : FrameBlind (va_Pc as (fun U => RelC E hp U.heap ∧ va_K (eD E) vwCl (tysL E) U ∧ NestOK U)) := fun a U g mk q => by
  obtain ⟨q1, q2, q3⟩ := q
  exact ⟨q1, q2, va_K.moved (u := U) (U := U.calling g mk a) (Vm.Alike.refl U.vm) q3.1, q3.2.same rfl⟩
theorem cx_snd {E : EnvT} : ∀ (f mi pc : Nat) (lv : LVs) (st : List AV) (hp hpF : List CC) (lvF : LVs), mi < 14 → cxB f mi pc lv st hp = some (hpF, lvF) → ∀ {p : Program} {l : Launch} {e : Env} {R : Room} {s : State} {m : MethodId} {args : Array Value} {below : List Frame} {meth : Method} {c : Code} {Q : State → Prop} (n0 s0 : Nat) (_ : ActK E mi (kHt mi) p R s m args meth c) (_ : hpF.length - n0 ≤ R.cells) (_ : szL hpF - s0 ≤ R.slots)
    (_ : ∀ (pc : Nat) (H : Heap) (locs : List Loc) (ls : Array Slot), ((mi = 13 ∧ pc = 16) ∨ (mi < 13 ∧ decode (kCd mi) pc = .ok (.return_, 1))) → RelC E hpF H → va_S (eA E) s.heap H locs → lok E ls (kML mi) lvF → W p l e R s m args below meth c H locs (hpF.length - n0) (szL hpF - s0) Q (F0 m pc ls [])), WC E mi p l e R s m args below meth c n0 s0 Q pc lv st hp := by
  intro f
  induction f with
  | zero => intro mi pc lv st hp hpF lvF _ h; cases h
  | succ f ih =>
    intro mi pc lv st hp hpF lvF hmi h p l e R s m args below meth c Q n0 s0 A hc1 hc2 hret
    have hmono := cx_mono _ _ _ _ _ _ _ _ h
    unfold cxB at h
    simp only [cond_eq_ite, Bool.and_eq_true] at h
    split at h
    · rename_i hq
      split at h
      · cases h
        intro h1 h2 H locs ls hR hS hlo
        exact hret _ H locs ls (Or.inl ⟨Nat.eq_of_beq_eq_true hq.1, Nat.eq_of_beq_eq_true hq.2⟩) hR hS hlo
      · cases h
    · split at h
      · cases h
      · rename_i q is hseek
        have hpc := seek_hd hseek
        have hqm : q ∈ kTb mi := seek_sub (by rw [hseek]; exact List.mem_cons_self)
        obtain ⟨⟨hd, hb⟩, hw⟩ := kTb_ok mi hmi q hqm
        rw [← hpc]
        split at h
        · rename_i hik
          have hi := ik1 hik
          split at h
          · split at h
            · cases h
            · rename_i h13
              cases h
              intro h1 h2 H locs ls hR hS hlo
              have hlen : q.2.2.1 = 1 := by
                obtain ⟨a, i, len, x, y, z, v, w⟩ := q
                cases hi
                exact Nat.eq_of_beq_eq_true hb
              refine hret _ H locs ls (Or.inr ⟨?_, ?_⟩) hR hS hlo
              · rcases Nat.lt_or_ge mi 13 with z | z
                · exact z
                · exact absurd (by rw [show mi = 13 by omega]; rfl) h13
              · rw [hd, hi, hlen]
          · cases h
        · rename_i hik
          obtain ⟨n, hi⟩ := ik2 hik
          have hlen : q.2.2.1 = 3 := by
            obtain ⟨a, i, len, x, y, z, v, w⟩ := q
            dsimp only at hi
            subst hi
            exact Nat.eq_of_beq_eq_true hb
          rw [hi, hlen] at hd
          have hw2 : (q.2.2.2.1 = 99 → Cond.methodLink (kOw mi) n Lib.objectInit ∈ ALLg ∧ Cond.instanceMethod Lib.objectInit ∈ ALLg ∧ Cond.code Lib.objectInit ⟨#[0xb1]⟩ 1 none ∈ ALLg) ∧ (q.2.2.2.1 ≠ 99 → (Cond.methodLink (kOw mi) n (kNm q.2.2.2.1) ∈ ALLg ∨ ∃ host, Cond.methodLinkNest (kOw mi) n (kNm q.2.2.2.1) host ∈ tables_1)) := by
            obtain ⟨a, i, len, x, y, z, v, w⟩ := q
            dsimp only at hi
            subst hi
            exact hw
          have hR1 := A.2.2.2.2.2.2.2.1
          have hR2 := A.2.2.2.2.2.2.2.2
          split at h
          · rename_i h99
            obtain ⟨w1, w2, w3⟩ := hw2.1 (Nat.eq_of_beq_eq_true h99)
            split at h
            · rename_i a st2
              split at h
              · rename_i hcat
                have hk := ih _ _ _ _ _ _ _ hmi h n0 s0 A hc1 hc2 hret
                intro h1 h2 H locs ls hR hS hlo
                have hkk := hk h1 h2 H locs ls hR hS hlo
                have hpos := kHt_pos mi hmi
                have hc8 := conc_long (E := E) st2
                have hc9 := Nat.ble_eq.mp hcat
                exact W.objInit A.1 A.2.1 A.2.2.2.1 (A.2.2.2.2.1 _ w1) (A.2.2.2.2.1 _ w2) (A.2.2.2.2.1 _ w3) (g := F0 m q.1 ls (.ref (eBase E + a) :: st2.map (conc E))) rfl (hlo.2.1.trans A.2.2.1.symm) rfl hd (by omega) (by show 2 * 0 + _ + 12 ≤ _; omega) hkk
              · cases h
            · cases h
          · rename_i h99
            have h99 : q.2.2.2.1 ≠ 99 := fun z => h99 (by rw [z]; rfl)
            split at h
            · rename_i a rest hdr
              split at h
              · rename_i hcs
                obtain ⟨c1, c2, c3, c4, c5⟩ := hcs
                have hx := Nat.blt_eq.mp c1
                have hna := Nat.eq_of_beq_eq_true c2
                have hcat := Nat.ble_eq.mp c3
                have hht := Nat.ble_eq.mp c4
                have hent := Nat.ble_eq.mp c5
                generalize hX : q.2.2.2.1 = X at *
                generalize hY : q.2.2.2.2.1 = Y at *
                split at h
                · rename_i hp1 lv1 hcall
                  have hm1 := cx_mono _ _ _ _ _ _ _ _ hcall
                  have hm2 := cx_mono _ _ _ _ _ _ _ _ h
                  have hk := ih _ _ _ _ _ _ _ hmi h n0 s0 A hc1 hc2 hret
                  obtain ⟨⟨x1, x2, x3⟩, x4, x5, x6, x7⟩ := kX_ok X hx
                  have hM : ∀ l : Launch, Met l (kNm X) (Cond.code (kNm X) (kCd X) (kML X) none :: ALLg) { frames := kHt X, cells := hp1.length - hp.length, slots := szL hp1 - szL hp, locals := 40 * kHt X } (va_Pc (((.ref a, 0) :: (st.take Y).reverse).map (conc E)) (fun U => RelC E hp U.heap ∧ va_K (eD E) vwCl (tysL E) U ∧ NestOK U)) (fun _ st oc t => oc = .returned none ∧ RelC E hp1 t.heap ∧ va_F (eA E) st t) (hp1.length - hp.length) (szL hp1 - szL hp) (eA E) := by
                    intro l
                    refine Met.ofW (cc := kCd X) (maxL := kML X) (ret := none) x4 rfl ?_
                    intro p e s m args below meth c s₁ B hml hpc
                    obtain ⟨rfl, hRc, hKc, hNc⟩ := hpc
                    have hts0 := atoms_spec (ws := Cond.code (kNm X) (kCd X) (kML X) none :: ALLg) B.pre
                    have hin : meth.name = (kNm X).name := (name_of_methodNamed B.named B.method).1
                    have AX : ActK E X (kHt X) p (headSpec (Cond.code (kNm X) (kCd X) (kML X) none :: ALLg) { frames := kHt X, cells := hp1.length - hp.length, slots := szL hp1 - szL hp, locals := 40 * kHt X }).room s m (((.ref a, 0) :: (st.take Y).reverse).map (conc E)).toArray meth c := ⟨B.exec, B.bytes, hml, findClass_of_methodNamed B.named, fun w hw => hts0 w (List.mem_cons_of_mem _ hw), hKc, ⟨fun _ => hin.trans x6, hNc⟩, Nat.le_refl _, Nat.le_refl _⟩
                    have hlocks := B.notSynchronized
                    have hr := B.returns
                    rw [lg_entry_eq]
                    have hwc := ih X 0 _ [] hp hp1 lv1 (by omega) hcall (l := l) (e := e) (below := below) (Q := MQ below (fun _ st oc t => oc = .returned none ∧ RelC E hp1 t.heap ∧ va_F (eA E) st t) (((.ref a, 0) :: (st.take Y).reverse).map (conc E)).toArray s (hp1.length - hp.length) (szL hp1 - szL hp) (eA E)) hp.length (szL hp) AX (Nat.le_refl _) (Nat.le_refl _) (fun pc H locs ls hpc hR hS _ => by
                      rcases hpc with ⟨z, _⟩ | ⟨_, hdr⟩
                      · omega
                      · exact W.vret AX.1 AX.2.1 hr (fun t ht _ => ⟨rfl, by rw [ht]; exact hR, hS.F ht⟩) hS.2.2 hdr hlocks)
                    have hw0 := hwc (Nat.le_refl _) (Nat.le_refl _) s.heap [] _ hRc va_S.rf (lok_ent hent)
                    rw [Nat.sub_self, Nat.sub_self] at hw0
                    exact hw0
                  intro h1 h2 H locs ls hR hS hlo
                  have hst2 : st = (st.take Y).reverse.reverse ++ (.ref a, 0) :: rest := by rw [List.reverse_reverse, ← hdr, List.take_append_drop]
                  have hlenA : (st.take Y).reverse.length = kNa X := by
                    have : Y < st.length := by
                      rcases Nat.lt_or_ge Y st.length with z | z
                      · exact z
                      · rw [List.drop_eq_nil_of_le z] at hdr; cases hdr
                    rw [List.length_reverse, List.length_take, hna]; omega
                  rw [hst2, List.map_append, List.map_cons, List.map_reverse]
                  have hMl := hM l
                  rw [List.map_cons] at hMl
                  have hGood : ∀ {ws : List Cond}, ws = Cond.code (kNm X) (kCd X) (kML X) none :: ALLg → GoodIn ALLg ws := fun e => GoodIn_all (fun w hw => by
                    rw [e] at hw
                    rcases List.mem_cons.mp hw with z | z
                    · rw [z]; exact x1
                    · exact z)
                  have hroom : (kHt X + 1 ≤ R.frames ∧ 8 + (kML X + 11) + 40 * kHt X ≤ R.locals) := ⟨by omega, by omega⟩
                  have hpre : PreS s H (va_Pc (conc E (.ref a, 0) :: ((st.take Y).reverse).map (conc E)) (fun U => RelC E hp U.heap ∧ va_K (eD E) vwCl (tysL E) U ∧ NestOK U)) (.ref (eBase E + a) :: ((st.take Y).reverse).map (conc E)) := ⟨pcC_blind, fun U hU hW => ⟨rfl, by rw [hU]; exact hR, va_K.moved hW.alike A.2.2.2.2.2.1, A.2.2.2.2.2.2.1.2.warm hW⟩⟩
                  have hfin : ∀ (H1 : Heap) (locs1 : List Loc), RelC E hp1 H1 → va_S (eA E) s.heap H1 locs1 → W p l e R s m args below meth c H1 locs1 (hp.length - n0 + (hp1.length - hp.length)) (szL hp - s0 + (szL hp1 - szL hp)) Q (F0 m (q.1 + 3) ls ((none : Option Value).toList ++ rest.map (conc E))) := fun H1 locs1 q1 q2 => W.cs (by omega) (by omega) (hk (by omega) (by omega) H1 locs1 ls q1 q2 hlo)
                  rcases hw2.2 h99 with hl | ⟨host, hl⟩
                  · exact my_callG (va_runI (As := ((st.take Y).reverse).map (conc E)) (rest := rest.map (conc E)) (b := eBase E + a) (n := kNa X) ⟨A.1, A.2.1, A.2.2.1, A.2.2.2.1, A.2.2.2.2.1⟩ hMl (cwI (kNa X) A.2.2.2.2.1 (hGood rfl) rfl rfl rfl (A.2.2.2.2.1 _ x2) (A.2.2.2.2.1 _ hl) (A.2.2.2.2.1 _ x3) x6 x5 hroom) hpre rfl (by rw [List.length_map]; exact hlenA) hlo.2.1 rfl (lv_room (Nat.le_trans (conc_long rest) hcat)) hd ⟨by omega, by omega⟩) hS hfin
                  · exact my_callG (va_runIN (As := ((st.take Y).reverse).map (conc E)) (rest := rest.map (conc E)) (b := eBase E + a) (n := kNa X) (host := host) ⟨A.1, A.2.1, A.2.2.1, A.2.2.2.1, A.2.2.2.2.1⟩ hMl ⟨va_cnB (kNa X) A.2.2.2.2.1 (hGood rfl) rfl rfl rfl (A.2.2.2.2.2.2.1.2.1 _ _ _ _ hl) (A.2.2.2.2.1 _ x2) x5 hroom, x6, A.2.2.2.2.1 _ x3⟩ hpre rfl (by rw [List.length_map]; exact hlenA) hlo.2.1 rfl (lv_room (Nat.le_trans (conc_long rest) hcat)) hd ⟨by omega, by omega⟩) hS hfin
                · cases h
              · cases h
            · cases h
        · split at h
          · rename_i hk
            have hm := kst_snd (Q := Q) (l := l) (e := e) (below := below) (n0 := n0) (s0 := s0) A q hd hb hw hk
            have hm2 := cx_mono _ _ _ _ _ _ _ _ h
            exact hm.2 (ih _ _ _ _ _ _ _ hmi h n0 s0 A hc1 hc2 hret) (by omega) (by omega)
          · cases h
