/-! the classes, at the start -/
theorem of_ALLg {w : Cond} (h : w ∈ ALLg) : w ∈ lw_tbl := (List.mem_filter.mp h).1
theorem ul_0 : ∀ k, k < 10 → u_lay RX0 TX0 k ∈ ALLg := by
  intro k hk
  match k, hk with
  | 0, _ => exact (ch2 125 rfl rfl)
  | 1, _ => exact (ch2 127 rfl rfl)
  | 2, _ => exact (ch2 129 rfl rfl)
  | 3, _ => exact (ch2 131 rfl rfl)
  | 4, _ => exact (ch2 133 rfl rfl)
  | 5, _ => exact (ch2 135 rfl rfl)
  | 6, _ => exact (ch2 137 rfl rfl)
  | 7, _ => exact (ch2 139 rfl rfl)
  | 8, _ => exact (ch2 141 rfl rfl)
  | 9, _ => exact (ch2 143 rfl rfl)
  | k + 10, h => omega
theorem uk_0 {args : Array Value} {s : State} (hts : ∀ w ∈ lw_tbl, w.before args s = true) : ∃ (cC : ClassId) (iS : Nat → Nat), u_Kn s RX0 TX0 10 cC iS := u_known (ws := lw_tbl) (n := 10) hts (fun w hw => by
    obtain ⟨k, hk, rfl⟩ := List.mem_map.mp hw
    exact of_ALLg (ul_0 k (List.mem_range.mp hk))) (hts _ (of_ALLg (ch2 108 rfl rfl)))
theorem ul_1 : ∀ k, k < 7 → u_lay RX1 TX1 k ∈ ALLg := by
  intro k hk
  match k, hk with
  | 0, _ => exact (ch2 192 rfl rfl)
  | 1, _ => exact (ch2 194 rfl rfl)
  | 2, _ => exact (ch2 196 rfl rfl)
  | 3, _ => exact (ch2 198 rfl rfl)
  | 4, _ => exact (ch2 200 rfl rfl)
  | 5, _ => exact (ch2 202 rfl rfl)
  | 6, _ => exact (ch2 204 rfl rfl)
  | k + 7, h => omega
theorem uk_1 {args : Array Value} {s : State} (hts : ∀ w ∈ lw_tbl, w.before args s = true) : ∃ (cC : ClassId) (iS : Nat → Nat), u_Kn s RX1 TX1 7 cC iS := u_known (ws := lw_tbl) (n := 7) hts (fun w hw => by
    obtain ⟨k, hk, rfl⟩ := List.mem_map.mp hw
    exact of_ALLg (ul_1 k (List.mem_range.mp hk))) (hts _ (of_ALLg (ch2 174 rfl rfl)))
theorem ul_2 : ∀ k, k < 14 → u_lay RX2 TX2 k ∈ ALLg := by
  intro k hk
  match k, hk with
  | 0, _ => exact (ch2 51 rfl rfl)
  | 1, _ => exact (ch2 53 rfl rfl)
  | 2, _ => exact (ch2 55 rfl rfl)
  | 3, _ => exact (ch2 57 rfl rfl)
  | 4, _ => exact (ch2 59 rfl rfl)
  | 5, _ => exact (ch2 61 rfl rfl)
  | 6, _ => exact (ch2 63 rfl rfl)
  | 7, _ => exact (ch2 65 rfl rfl)
  | 8, _ => exact (ch2 67 rfl rfl)
  | 9, _ => exact (ch2 69 rfl rfl)
  | 10, _ => exact (ch2 71 rfl rfl)
  | 11, _ => exact (ch2 73 rfl rfl)
  | 12, _ => exact (ch2 75 rfl rfl)
  | 13, _ => exact (ch2 77 rfl rfl)
  | k + 14, h => omega
theorem uk_2 {args : Array Value} {s : State} (hts : ∀ w ∈ lw_tbl, w.before args s = true) : ∃ (cC : ClassId) (iS : Nat → Nat), u_Kn s RX2 TX2 14 cC iS := u_known (ws := lw_tbl) (n := 14) hts (fun w hw => by
    obtain ⟨k, hk, rfl⟩ := List.mem_map.mp hw
    exact of_ALLg (ul_2 k (List.mem_range.mp hk))) (hts _ (of_ALLg (ch2 18 rfl rfl)))
theorem ul_3 : ∀ k, k < 4 → u_lay RX3 TX3 k ∈ ALLg := by
  intro k hk
  match k, hk with
  | 0, _ => exact (ch1 225 rfl rfl)
  | 1, _ => exact (ch1 227 rfl rfl)
  | 2, _ => exact (ch1 229 rfl rfl)
  | 3, _ => exact (ch1 231 rfl rfl)
  | k + 4, h => omega
theorem uk_3 {args : Array Value} {s : State} (hts : ∀ w ∈ lw_tbl, w.before args s = true) : ∃ (cC : ClassId) (iS : Nat → Nat), u_Kn s RX3 TX3 4 cC iS := u_known (ws := lw_tbl) (n := 4) hts (fun w hw => by
    obtain ⟨k, hk, rfl⟩ := List.mem_map.mp hw
    exact of_ALLg (ul_3 k (List.mem_range.mp hk))) (hts _ (of_ALLg (ch1 215 rfl rfl)))
theorem ul_4 : ∀ k, k < 14 → u_lay RX4 TX4 k ∈ ALLg := by
  intro k hk
  match k, hk with
  | 0, _ => exact (ch1 105 rfl rfl)
  | 1, _ => exact (ch1 107 rfl rfl)
  | 2, _ => exact (ch1 109 rfl rfl)
  | 3, _ => exact (ch1 111 rfl rfl)
  | 4, _ => exact (ch1 113 rfl rfl)
  | 5, _ => exact (ch1 115 rfl rfl)
  | 6, _ => exact (ch1 117 rfl rfl)
  | 7, _ => exact (ch1 119 rfl rfl)
  | 8, _ => exact (ch1 121 rfl rfl)
  | 9, _ => exact (ch1 123 rfl rfl)
  | 10, _ => exact (ch1 125 rfl rfl)
  | 11, _ => exact (ch1 127 rfl rfl)
  | 12, _ => exact (ch1 129 rfl rfl)
  | 13, _ => exact (ch1 131 rfl rfl)
  | k + 14, h => omega
theorem uk_4 {args : Array Value} {s : State} (hts : ∀ w ∈ lw_tbl, w.before args s = true) : ∃ (cC : ClassId) (iS : Nat → Nat), u_Kn s RX4 TX4 14 cC iS := u_known (ws := lw_tbl) (n := 14) hts (fun w hw => by
    obtain ⟨k, hk, rfl⟩ := List.mem_map.mp hw
    exact of_ALLg (ul_4 k (List.mem_range.mp hk))) (hts _ (of_ALLg (ch1 56 rfl rfl)))
theorem ul_5 : ∀ k, k < 8 → u_lay RX5 TX5 k ∈ ALLg := by
  intro k hk
  match k, hk with
  | 0, _ => exact (ch2 220 rfl rfl)
  | 1, _ => exact (ch2 222 rfl rfl)
  | 2, _ => exact (ch2 224 rfl rfl)
  | 3, _ => exact (ch2 226 rfl rfl)
  | 4, _ => exact (ch2 228 rfl rfl)
  | 5, _ => exact (ch2 230 rfl rfl)
  | 6, _ => exact (ch2 232 rfl rfl)
  | 7, _ => exact (ch2 234 rfl rfl)
  | k + 8, h => omega
theorem uk_5 {args : Array Value} {s : State} (hts : ∀ w ∈ lw_tbl, w.before args s = true) : ∃ (cC : ClassId) (iS : Nat → Nat), u_Kn s RX5 TX5 8 cC iS := u_known (ws := lw_tbl) (n := 8) hts (fun w hw => by
    obtain ⟨k, hk, rfl⟩ := List.mem_map.mp hw
    exact of_ALLg (ul_5 k (List.mem_range.mp hk))) (hts _ (of_ALLg (ch2 207 rfl rfl)))
theorem ul_6 : ∀ k, k < 5 → u_lay RX6 TX6 k ∈ ALLg := by
  intro k hk
  match k, hk with
  | 0, _ => exact (ch2 96 rfl rfl)
  | 1, _ => exact (ch2 98 rfl rfl)
  | 2, _ => exact (ch2 100 rfl rfl)
  | 3, _ => exact (ch2 102 rfl rfl)
  | 4, _ => exact (ch2 104 rfl rfl)
  | k + 5, h => omega
theorem uk_6 {args : Array Value} {s : State} (hts : ∀ w ∈ lw_tbl, w.before args s = true) : ∃ (cC : ClassId) (iS : Nat → Nat), u_Kn s RX6 TX6 5 cC iS := u_known (ws := lw_tbl) (n := 5) hts (fun w hw => by
    obtain ⟨k, hk, rfl⟩ := List.mem_map.mp hw
    exact of_ALLg (ul_6 k (List.mem_range.mp hk))) (hts _ (of_ALLg (ch2 82 rfl rfl)))
theorem ul_7 : ∀ k, k < 10 → u_lay RX7 TX7 k ∈ ALLg := by
  intro k hk
  match k, hk with
  | 0, _ => exact (ch1 192 rfl rfl)
  | 1, _ => exact (ch1 194 rfl rfl)
  | 2, _ => exact (ch1 196 rfl rfl)
  | 3, _ => exact (ch1 198 rfl rfl)
  | 4, _ => exact (ch1 200 rfl rfl)
  | 5, _ => exact (ch1 202 rfl rfl)
  | 6, _ => exact (ch1 204 rfl rfl)
  | 7, _ => exact (ch1 206 rfl rfl)
  | 8, _ => exact (ch1 208 rfl rfl)
  | 9, _ => exact (ch1 210 rfl rfl)
  | k + 10, h => omega
theorem uk_7 {args : Array Value} {s : State} (hts : ∀ w ∈ lw_tbl, w.before args s = true) : ∃ (cC : ClassId) (iS : Nat → Nat), u_Kn s RX7 TX7 10 cC iS := u_known (ws := lw_tbl) (n := 10) hts (fun w hw => by
    obtain ⟨k, hk, rfl⟩ := List.mem_map.mp hw
    exact of_ALLg (ul_7 k (List.mem_range.mp hk))) (hts _ (of_ALLg (ch1 148 rfl rfl)))
theorem ul_8 : ∀ k, k < 4 → u_lay RX8 TX8 k ∈ ALLg := by
  intro k hk
  match k, hk with
  | 0, _ => exact (ch1 45 rfl rfl)
  | 1, _ => exact (ch1 47 rfl rfl)
  | 2, _ => exact (ch1 49 rfl rfl)
  | 3, _ => exact (ch1 51 rfl rfl)
  | k + 4, h => omega
theorem uk_8 {args : Array Value} {s : State} (hts : ∀ w ∈ lw_tbl, w.before args s = true) : ∃ (cC : ClassId) (iS : Nat → Nat), u_Kn s RX8 TX8 4 cC iS := u_known (ws := lw_tbl) (n := 4) hts (fun w hw => by
    obtain ⟨k, hk, rfl⟩ := List.mem_map.mp hw
    exact of_ALLg (ul_8 k (List.mem_range.mp hk))) (hts _ (of_ALLg (ch1 29 rfl rfl)))
theorem ul_9 : ∀ k, k < 6 → u_lay RX9 TX9 k ∈ ALLg := by
  intro k hk
  match k, hk with
  | 0, _ => exact (ch2 160 rfl rfl)
  | 1, _ => exact (ch2 162 rfl rfl)
  | 2, _ => exact (ch2 164 rfl rfl)
  | 3, _ => exact (ch2 166 rfl rfl)
  | 4, _ => exact (ch2 168 rfl rfl)
  | 5, _ => exact (ch2 170 rfl rfl)
  | k + 6, h => omega
theorem uk_9 {args : Array Value} {s : State} (hts : ∀ w ∈ lw_tbl, w.before args s = true) : ∃ (cC : ClassId) (iS : Nat → Nat), u_Kn s RX9 TX9 6 cC iS := u_known (ws := lw_tbl) (n := 6) hts (fun w hw => by
    obtain ⟨k, hk, rfl⟩ := List.mem_map.mp hw
    exact of_ALLg (ul_9 k (List.mem_range.mp hk))) (hts _ (of_ALLg (ch2 147 rfl rfl)))
theorem ul_10 : ∀ k, k < 5 → u_lay RX10 TX10 k ∈ ALLg := by
  intro k hk
  match k, hk with
  | 0, _ => exact (ch2 6 rfl rfl)
  | 1, _ => exact (ch2 8 rfl rfl)
  | 2, _ => exact (ch2 10 rfl rfl)
  | 3, _ => exact (ch2 12 rfl rfl)
  | 4, _ => exact (ch2 14 rfl rfl)
  | k + 5, h => omega
theorem uk_10 {args : Array Value} {s : State} (hts : ∀ w ∈ lw_tbl, w.before args s = true) : ∃ (cC : ClassId) (iS : Nat → Nat), u_Kn s RX10 TX10 5 cC iS := u_known (ws := lw_tbl) (n := 5) hts (fun w hw => by
    obtain ⟨k, hk, rfl⟩ := List.mem_map.mp hw
    exact of_ALLg (ul_10 k (List.mem_range.mp hk))) (hts _ (of_ALLg (ch1 140 rfl rfl)))
theorem ul_11 : ∀ k, k < 15 → u_lay RX11 TX11 k ∈ ALLg := by
  intro k hk
  match k, hk with
  | 0, _ => exact (ch3 13 rfl rfl)
  | 1, _ => exact (ch3 15 rfl rfl)
  | 2, _ => exact (ch3 17 rfl rfl)
  | 3, _ => exact (ch3 19 rfl rfl)
  | 4, _ => exact (ch3 21 rfl rfl)
  | 5, _ => exact (ch3 23 rfl rfl)
  | 6, _ => exact (ch3 25 rfl rfl)
  | 7, _ => exact (ch3 27 rfl rfl)
  | 8, _ => exact (ch3 29 rfl rfl)
  | 9, _ => exact (ch3 31 rfl rfl)
  | 10, _ => exact (ch3 33 rfl rfl)
  | 11, _ => exact (ch3 35 rfl rfl)
  | 12, _ => exact (ch3 37 rfl rfl)
  | 13, _ => exact (ch3 39 rfl rfl)
  | 14, _ => exact (ch3 41 rfl rfl)
  | k + 15, h => omega
theorem uk_11 {args : Array Value} {s : State} (hts : ∀ w ∈ lw_tbl, w.before args s = true) : ∃ (cC : ClassId) (iS : Nat → Nat), u_Kn s RX11 TX11 15 cC iS := u_known (ws := lw_tbl) (n := 15) hts (fun w hw => by
    obtain ⟨k, hk, rfl⟩ := List.mem_map.mp hw
    exact of_ALLg (ul_11 k (List.mem_range.mp hk))) (hts _ (of_ALLg (ch1 21 rfl rfl)))
theorem ul_12 : ∀ k, k < 50 → u_lay RX12 TX12 k ∈ ALLg := by
  intro k hk
  match k, hk with
  | 0, _ => exact (ch5 172 rfl rfl)
  | 1, _ => exact (ch5 174 rfl rfl)
  | 2, _ => exact (ch5 176 rfl rfl)
  | 3, _ => exact (ch5 178 rfl rfl)
  | 4, _ => exact (ch5 180 rfl rfl)
  | 5, _ => exact (ch5 182 rfl rfl)
  | 6, _ => exact (ch5 184 rfl rfl)
  | 7, _ => exact (ch5 186 rfl rfl)
  | 8, _ => exact (ch5 188 rfl rfl)
  | 9, _ => exact (ch5 190 rfl rfl)
  | 10, _ => exact (ch5 192 rfl rfl)
  | 11, _ => exact (ch5 194 rfl rfl)
  | 12, _ => exact (ch5 196 rfl rfl)
  | 13, _ => exact (ch5 198 rfl rfl)
  | 14, _ => exact (ch5 200 rfl rfl)
  | 15, _ => exact (ch5 202 rfl rfl)
  | 16, _ => exact (ch5 204 rfl rfl)
  | 17, _ => exact (ch5 206 rfl rfl)
  | 18, _ => exact (ch5 208 rfl rfl)
  | 19, _ => exact (ch5 210 rfl rfl)
  | 20, _ => exact (ch5 212 rfl rfl)
  | 21, _ => exact (ch5 214 rfl rfl)
  | 22, _ => exact (ch5 216 rfl rfl)
  | 23, _ => exact (ch5 218 rfl rfl)
  | 24, _ => exact (ch5 220 rfl rfl)
  | 25, _ => exact (ch5 222 rfl rfl)
  | 26, _ => exact (ch5 224 rfl rfl)
  | 27, _ => exact (ch5 226 rfl rfl)
  | 28, _ => exact (ch5 228 rfl rfl)
  | 29, _ => exact (ch5 230 rfl rfl)
  | 30, _ => exact (ch5 232 rfl rfl)
  | 31, _ => exact (ch5 234 rfl rfl)
  | 32, _ => exact (ch5 236 rfl rfl)
  | 33, _ => exact (ch5 238 rfl rfl)
  | 34, _ => exact (ch6 0 rfl rfl)
  | 35, _ => exact (ch6 2 rfl rfl)
  | 36, _ => exact (ch6 4 rfl rfl)
  | 37, _ => exact (ch6 6 rfl rfl)
  | 38, _ => exact (ch6 8 rfl rfl)
  | 39, _ => exact (ch6 10 rfl rfl)
  | 40, _ => exact (ch6 12 rfl rfl)
  | 41, _ => exact (ch6 14 rfl rfl)
  | 42, _ => exact (ch6 16 rfl rfl)
  | 43, _ => exact (ch6 18 rfl rfl)
  | 44, _ => exact (ch6 20 rfl rfl)
  | 45, _ => exact (ch6 22 rfl rfl)
  | 46, _ => exact (ch6 24 rfl rfl)
  | 47, _ => exact (ch6 26 rfl rfl)
  | 48, _ => exact (ch6 28 rfl rfl)
  | 49, _ => exact (ch6 30 rfl rfl)
  | k + 50, h => omega
theorem uk_12 {args : Array Value} {s : State} (hts : ∀ w ∈ lw_tbl, w.before args s = true) : ∃ (cC : ClassId) (iS : Nat → Nat), u_Kn s RX12 TX12 50 cC iS := u_known (ws := lw_tbl) (n := 50) hts (fun w hw => by
    obtain ⟨k, hk, rfl⟩ := List.mem_map.mp hw
    exact of_ALLg (ul_12 k (List.mem_range.mp hk))) (hts _ (of_ALLg (ch5 117 rfl rfl)))
theorem uk_all {args : Array Value} {s : State} (hts : ∀ w ∈ lw_tbl, w.before args s = true) : ∃ D : va_G, ∀ (c : Nat) (q : vw_C), vwCl[c]? = some q → u_Kn s q.1 q.2.1 q.2.2 (D.1 c) (D.2 c) := by
  obtain ⟨c0, i0, h0⟩ := uk_0 hts
  obtain ⟨c1, i1, h1⟩ := uk_1 hts
  obtain ⟨c2, i2, h2⟩ := uk_2 hts
  obtain ⟨c3, i3, h3⟩ := uk_3 hts
  obtain ⟨c4, i4, h4⟩ := uk_4 hts
  obtain ⟨c5, i5, h5⟩ := uk_5 hts
  obtain ⟨c6, i6, h6⟩ := uk_6 hts
  obtain ⟨c7, i7, h7⟩ := uk_7 hts
  obtain ⟨c8, i8, h8⟩ := uk_8 hts
  obtain ⟨c9, i9, h9⟩ := uk_9 hts
  obtain ⟨c10, i10, h10⟩ := uk_10 hts
  obtain ⟨c11, i11, h11⟩ := uk_11 hts
  obtain ⟨c12, i12, h12⟩ := uk_12 hts
  refine ⟨(fun c => [c0, c1, c2, c3, c4, c5, c6, c7, c8, c9, c10, c11, c12].getD c 0, fun c => [i0, i1, i2, i3, i4, i5, i6, i7, i8, i9, i10, i11, i12].getD c (fun _ => 0)), fun c q hq => ?_⟩
  match c, hq with
  | 0, hq => cases hq; exact h0
  | 1, hq => cases hq; exact h1
  | 2, hq => cases hq; exact h2
  | 3, hq => cases hq; exact h3
  | 4, hq => cases hq; exact h4
  | 5, hq => cases hq; exact h5
  | 6, hq => cases hq; exact h6
  | 7, hq => cases hq; exact h7
  | 8, hq => cases hq; exact h8
  | 9, hq => cases hq; exact h9
  | 10, hq => cases hq; exact h10
  | 11, hq => cases hq; exact h11
  | 12, hq => cases hq; exact h12
  | n + 13, hq => cases hq
theorem arrT_of {s : State} {c : ClassId} {k : Class} {comp : ClassId} {ty : FieldType} (h2 : s.vm.classes[c]? = some k) (h3 : k.kind = .array comp ty) : ArrOfT s c ty := fun n z => by
  have h : s.vm.classes[(arrV c n z).cls]? = some k := h2
  simp [State.isArrayOf, h, h3]
  intro q hq
  first | (cases hq; done) | (simp [arrV] at hq; done) | (unfold arrV at hq; cases hq)
theorem ua_0 {args : Array Value} {s : State} (hts : ∀ w ∈ lw_tbl, w.before args s = true) : ∃ c : ClassId, ArrOfT s c (atyp 0) ∧ va_RA s c (atyp 0) := by
  obtain ⟨c, k, comp, h1, h2, h3⟩ := Cond.arrayClass_spec (hts (Cond.arrayClass (atyp 0)) (of_ALLg (ch1 54 rfl rfl)))
  exact ⟨c, arrT_of h2 h3, h1⟩
theorem ua_1 {args : Array Value} {s : State} (hts : ∀ w ∈ lw_tbl, w.before args s = true) : ∃ c : ClassId, ArrOfT s c (atyp 1) ∧ va_RA s c (atyp 1) := by
  obtain ⟨c, k, comp, h1, h2, h3⟩ := Cond.arrayClass_spec (hts (Cond.arrayClass (atyp 1)) (of_ALLg (ch3 160 rfl rfl)))
  exact ⟨c, arrT_of h2 h3, h1⟩
theorem ua_2 {args : Array Value} {s : State} (hts : ∀ w ∈ lw_tbl, w.before args s = true) : ∃ c : ClassId, ArrOfT s c (atyp 2) ∧ va_RA s c (atyp 2) := by
  obtain ⟨c, k, comp, h1, h2, h3⟩ := Cond.arrayClass_spec (hts (Cond.arrayClass (atyp 2)) (of_ALLg (ch1 213 rfl rfl)))
  exact ⟨c, arrT_of h2 h3, h1⟩
theorem ua_3 {args : Array Value} {s : State} (hts : ∀ w ∈ lw_tbl, w.before args s = true) : ∃ c : ClassId, ArrOfT s c (atyp 3) ∧ va_RA s c (atyp 3) := by
  obtain ⟨c, k, comp, h1, h2, h3⟩ := Cond.arrayClass_spec (hts (Cond.arrayClass (atyp 3)) (of_ALLg (ch2 80 rfl rfl)))
  exact ⟨c, arrT_of h2 h3, h1⟩
theorem ua_4 {args : Array Value} {s : State} (hts : ∀ w ∈ lw_tbl, w.before args s = true) : ∃ c : ClassId, ArrOfT s c (atyp 4) ∧ va_RA s c (atyp 4) := by
  obtain ⟨comp, c, k, h1, h2, h3, h4, h5⟩ := Cond.arrayOver_spec (hts (Cond.arrayOver (.object "OneAnvil$Program")) (List.mem_append_right _ (tch1 135 rfl)))
  exact ⟨c, arrT_of h3 h4, ⟨k, comp, h3, h4, h1, h5⟩⟩
theorem ua_5 {args : Array Value} {s : State} (hts : ∀ w ∈ lw_tbl, w.before args s = true) : ∃ c : ClassId, ArrOfT s c (atyp 5) ∧ va_RA s c (atyp 5) := by
  obtain ⟨comp, c, k, h1, h2, h3, h4, h5⟩ := Cond.arrayOver_spec (hts (Cond.arrayOver (.object "OneAnvil$State")) (List.mem_append_right _ (tch1 137 rfl)))
  exact ⟨c, arrT_of h3 h4, ⟨k, comp, h3, h4, h1, h5⟩⟩
theorem ua_6 {args : Array Value} {s : State} (hts : ∀ w ∈ lw_tbl, w.before args s = true) : ∃ c : ClassId, ArrOfT s c (atyp 6) ∧ va_RA s c (atyp 6) := by
  obtain ⟨comp, c, k, h1, h2, h3, h4, h5⟩ := Cond.arrayOver_spec (hts (Cond.arrayOver (.object "OneAnvil$World")) (List.mem_append_right _ (tch1 139 rfl)))
  exact ⟨c, arrT_of h3 h4, ⟨k, comp, h3, h4, h1, h5⟩⟩
theorem ua_7 {args : Array Value} {s : State} (hts : ∀ w ∈ lw_tbl, w.before args s = true) : ∃ c : ClassId, ArrOfT s c (atyp 7) ∧ va_RA s c (atyp 7) := by
  obtain ⟨comp, c, k, h1, h3, h4, h5⟩ := Cond.arrayOver_specA (hts (Cond.arrayOver (.array .int)) (List.mem_append_right _ (tch2 182 rfl)))
  exact ⟨c, arrT_of h3 h4, h5⟩
theorem ua_all {args : Array Value} {s : State} (hts : ∀ w ∈ lw_tbl, w.before args s = true) : ∃ C : Nat → ClassId, ∀ t, t < 8 → ArrOfT s (C t) (atyp t) ∧ va_RA s (C t) (atyp t) := by
  obtain ⟨c0, h0⟩ := ua_0 hts
  obtain ⟨c1, h1⟩ := ua_1 hts
  obtain ⟨c2, h2⟩ := ua_2 hts
  obtain ⟨c3, h3⟩ := ua_3 hts
  obtain ⟨c4, h4⟩ := ua_4 hts
  obtain ⟨c5, h5⟩ := ua_5 hts
  obtain ⟨c6, h6⟩ := ua_6 hts
  obtain ⟨c7, h7⟩ := ua_7 hts
  refine ⟨fun t => [c0, c1, c2, c3, c4, c5, c6, c7].getD t 0, fun t ht => ?_⟩
  match t, ht with
  | 0, _ => exact h0
  | 1, _ => exact h1
  | 2, _ => exact h2
  | 3, _ => exact h3
  | 4, _ => exact h4
  | 5, _ => exact h5
  | 6, _ => exact h6
  | 7, _ => exact h7
  | n + 8, h => omega
theorem va_K_start {args : Array Value} {s : State} (hts : ∀ w ∈ lw_tbl, w.before args s = true) : ∃ (D : va_G) (C : Nat → ClassId), va_K D vwCl ((List.range 8).map fun t => (C t, atyp t)) s := by
  obtain ⟨D, hD⟩ := uk_all hts
  obtain ⟨C, hC⟩ := ua_all hts
  refine ⟨D, C, hD, fun k q hk => ?_⟩
  rcases Nat.lt_or_ge k 8 with h | h
  · rw [List.getElem?_map, List.getElem?_range h] at hk
    cases hk
    exact hC k h
  · rw [List.getElem?_eq_none (by rw [List.length_map, List.length_range]; exact h)] at hk
    cases hk
