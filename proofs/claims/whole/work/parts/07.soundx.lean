def oNm : Nat → String
  | 0 => RX0
  | 1 => RX1
  | 2 => RX2
  | 3 => RX3
  | 4 => RX4
  | 5 => RX5
  | 6 => RX6
  | 7 => RX7
  | 8 => RX8
  | 9 => RX9
  | 10 => RX10
  | 11 => RX11
  | 12 => RX12
  | 13 => RJ6
  | _ => RL
theorem mOw_oi : ∀ x, x < 231 → mOw x = oNm (mOi x) := by decide +kernel
def mlN (x : Nat) : MethodName := match x with
  | 900 => Lib.Math.max.name
  | 901 => Lib.Math.min.name
  | 910 => yJ0_length_8abf5
  | 911 => yJ0_charAt_5068e
  | x => mNm x
def flT0 : List (Nat × Nat × Nat × Nat) := [(0, 13, 0, 2), (0, 17, 0, 3), (0, 21, 0, 4), (0, 24, 0, 5), (0, 27, 0, 6), (0, 31, 0, 7), (0, 34, 0, 8), (0, 37, 0, 9), (0, 40, 0, 0), (0, 44, 0, 1), (0, 70, 2, 3), (0, 78, 2, 11), (0, 81, 4, 4), (0, 90, 4, 5), (0, 100, 7, 0), (0, 103, 7, 6)]
set_option maxRecDepth 100000 in
theorem flC0 : ∀ q ∈ flT0, Cond.fieldLink (oNm q.1) q.2.1 ((clT q.2.2.1) q.2.2.2).1 ((clT q.2.2.1) q.2.2.2).2.1 ((clT q.2.2.1) q.2.2.2).2.2.1 ∈ ALLg := List.forall_mem_cons.mpr ⟨(ch2 117 rfl rfl), List.forall_mem_cons.mpr ⟨(ch2 118 rfl rfl), List.forall_mem_cons.mpr ⟨(ch2 119 rfl rfl), List.forall_mem_cons.mpr ⟨(ch2 120 rfl rfl), List.forall_mem_cons.mpr ⟨(ch2 121 rfl rfl), List.forall_mem_cons.mpr ⟨(ch2 122 rfl rfl), List.forall_mem_cons.mpr ⟨(ch2 123 rfl rfl), List.forall_mem_cons.mpr ⟨(ch2 124 rfl rfl), List.forall_mem_cons.mpr ⟨(ch2 115 rfl rfl), List.forall_mem_cons.mpr ⟨(ch2 116 rfl rfl), List.forall_mem_cons.mpr ⟨(ch2 28 rfl rfl), List.forall_mem_cons.mpr ⟨(ch2 43 rfl rfl), List.forall_mem_cons.mpr ⟨(ch1 74 rfl rfl), List.forall_mem_cons.mpr ⟨(ch1 79 rfl rfl), List.forall_mem_cons.mpr ⟨(ch1 156 rfl rfl), List.forall_mem_cons.mpr ⟨(ch1 177 rfl rfl), fun _ h => absurd h List.not_mem_nil⟩⟩⟩⟩⟩⟩⟩⟩⟩⟩⟩⟩⟩⟩⟩⟩
def flT16 : List (Nat × Nat × Nat × Nat) := [(0, 113, 7, 1), (0, 116, 7, 8), (0, 123, 4, 9), (0, 126, 4, 12), (1, 12, 1, 2), (1, 18, 1, 3), (1, 24, 1, 4), (1, 27, 1, 5), (1, 31, 1, 6), (1, 34, 1, 0), (1, 38, 1, 1), (1, 72, 7, 9), (2, 9, 2, 1), (2, 15, 2, 2), (2, 19, 2, 3), (2, 22, 2, 4)]
set_option maxRecDepth 100000 in
theorem flC16 : ∀ q ∈ flT16, Cond.fieldLink (oNm q.1) q.2.1 ((clT q.2.2.1) q.2.2.2).1 ((clT q.2.2.1) q.2.2.2).2.1 ((clT q.2.2.1) q.2.2.2).2.2.1 ∈ ALLg := List.forall_mem_cons.mpr ⟨(ch1 162 rfl rfl), List.forall_mem_cons.mpr ⟨(ch1 185 rfl rfl), List.forall_mem_cons.mpr ⟨(ch1 91 rfl rfl), List.forall_mem_cons.mpr ⟨(ch1 102 rfl rfl), List.forall_mem_cons.mpr ⟨(ch2 185 rfl rfl), List.forall_mem_cons.mpr ⟨(ch2 186 rfl rfl), List.forall_mem_cons.mpr ⟨(ch2 187 rfl rfl), List.forall_mem_cons.mpr ⟨(ch2 188 rfl rfl), List.forall_mem_cons.mpr ⟨(ch2 190 rfl rfl), List.forall_mem_cons.mpr ⟨(ch2 183 rfl rfl), List.forall_mem_cons.mpr ⟨(ch2 184 rfl rfl), List.forall_mem_cons.mpr ⟨(ch1 187 rfl rfl), List.forall_mem_cons.mpr ⟨(ch2 24 rfl rfl), List.forall_mem_cons.mpr ⟨(ch2 25 rfl rfl), List.forall_mem_cons.mpr ⟨(ch2 27 rfl rfl), List.forall_mem_cons.mpr ⟨(ch2 29 rfl rfl), fun _ h => absurd h List.not_mem_nil⟩⟩⟩⟩⟩⟩⟩⟩⟩⟩⟩⟩⟩⟩⟩⟩
def flT32 : List (Nat × Nat × Nat × Nat) := [(2, 26, 2, 5), (2, 29, 2, 6), (2, 32, 2, 7), (2, 36, 2, 8), (2, 40, 2, 9), (2, 45, 2, 10), (2, 49, 2, 11), (2, 52, 2, 12), (2, 55, 2, 13), (2, 58, 2, 0), (2, 73, 7, 9), (2, 78, 7, 0), (2, 102, 7, 1), (2, 105, 4, 11), (2, 110, 7, 6), (2, 113, 4, 12)]
set_option maxRecDepth 100000 in
theorem flC32 : ∀ q ∈ flT32, Cond.fieldLink (oNm q.1) q.2.1 ((clT q.2.2.1) q.2.2.2).1 ((clT q.2.2.1) q.2.2.2).2.1 ((clT q.2.2.1) q.2.2.2).2.2.1 ∈ ALLg := List.forall_mem_cons.mpr ⟨(ch2 31 rfl rfl), List.forall_mem_cons.mpr ⟨(ch2 33 rfl rfl), List.forall_mem_cons.mpr ⟨(ch2 35 rfl rfl), List.forall_mem_cons.mpr ⟨(ch2 37 rfl rfl), List.forall_mem_cons.mpr ⟨(ch2 39 rfl rfl), List.forall_mem_cons.mpr ⟨(ch2 41 rfl rfl), List.forall_mem_cons.mpr ⟨(ch2 42 rfl rfl), List.forall_mem_cons.mpr ⟨(ch2 46 rfl rfl), List.forall_mem_cons.mpr ⟨(ch2 49 rfl rfl), List.forall_mem_cons.mpr ⟨(ch2 23 rfl rfl), List.forall_mem_cons.mpr ⟨(ch1 188 rfl rfl), List.forall_mem_cons.mpr ⟨(ch1 154 rfl rfl), List.forall_mem_cons.mpr ⟨(ch1 160 rfl rfl), List.forall_mem_cons.mpr ⟨(ch1 96 rfl rfl), List.forall_mem_cons.mpr ⟨(ch1 178 rfl rfl), List.forall_mem_cons.mpr ⟨(ch1 99 rfl rfl), fun _ h => absurd h List.not_mem_nil⟩⟩⟩⟩⟩⟩⟩⟩⟩⟩⟩⟩⟩⟩⟩⟩
def flT48 : List (Nat × Nat × Nat × Nat) := [(2, 116, 4, 6), (2, 119, 4, 8), (2, 129, 7, 2), (2, 132, 4, 2), (2, 135, 7, 3), (2, 138, 4, 9), (2, 150, 4, 1), (2, 153, 4, 10), (2, 155, 7, 4), (2, 161, 4, 3), (2, 164, 7, 5), (2, 167, 7, 7), (3, 9, 3, 0), (3, 15, 3, 1), (3, 19, 3, 2), (3, 22, 3, 3)]
set_option maxRecDepth 100000 in
theorem flC48 : ∀ q ∈ flT48, Cond.fieldLink (oNm q.1) q.2.1 ((clT q.2.2.1) q.2.2.2).1 ((clT q.2.2.1) q.2.2.2).2.1 ((clT q.2.2.1) q.2.2.2).2.2.1 ∈ ALLg := List.forall_mem_cons.mpr ⟨(ch1 81 rfl rfl), List.forall_mem_cons.mpr ⟨(ch1 87 rfl rfl), List.forall_mem_cons.mpr ⟨(ch1 165 rfl rfl), List.forall_mem_cons.mpr ⟨(ch1 67 rfl rfl), List.forall_mem_cons.mpr ⟨(ch1 168 rfl rfl), List.forall_mem_cons.mpr ⟨(ch1 90 rfl rfl), List.forall_mem_cons.mpr ⟨(ch1 64 rfl rfl), List.forall_mem_cons.mpr ⟨(ch1 94 rfl rfl), List.forall_mem_cons.mpr ⟨(ch1 171 rfl rfl), List.forall_mem_cons.mpr ⟨(ch1 72 rfl rfl), List.forall_mem_cons.mpr ⟨(ch1 174 rfl rfl), List.forall_mem_cons.mpr ⟨(ch1 183 rfl rfl), List.forall_mem_cons.mpr ⟨(ch1 220 rfl rfl), List.forall_mem_cons.mpr ⟨(ch1 222 rfl rfl), List.forall_mem_cons.mpr ⟨(ch1 223 rfl rfl), List.forall_mem_cons.mpr ⟨(ch1 224 rfl rfl), fun _ h => absurd h List.not_mem_nil⟩⟩⟩⟩⟩⟩⟩⟩⟩⟩⟩⟩⟩⟩⟩⟩
def flT64 : List (Nat × Nat × Nat × Nat) := [(3, 31, 7, 9), (4, 9, 4, 0), (4, 15, 4, 1), (4, 19, 4, 2), (4, 22, 4, 3), (4, 25, 4, 4), (4, 28, 4, 5), (4, 31, 4, 6), (4, 35, 4, 7), (4, 38, 4, 8), (4, 41, 4, 9), (4, 44, 4, 10), (4, 47, 4, 11), (4, 50, 4, 12), (4, 53, 4, 13), (4, 61, 8, 3)]
set_option maxRecDepth 100000 in
theorem flC64 : ∀ q ∈ flT64, Cond.fieldLink (oNm q.1) q.2.1 ((clT q.2.2.1) q.2.2.2).1 ((clT q.2.2.1) q.2.2.2).2.1 ((clT q.2.2.1) q.2.2.2).2.2.1 ∈ ALLg := List.forall_mem_cons.mpr ⟨(ch1 189 rfl rfl), List.forall_mem_cons.mpr ⟨(ch1 61 rfl rfl), List.forall_mem_cons.mpr ⟨(ch1 63 rfl rfl), List.forall_mem_cons.mpr ⟨(ch1 66 rfl rfl), List.forall_mem_cons.mpr ⟨(ch1 69 rfl rfl), List.forall_mem_cons.mpr ⟨(ch1 73 rfl rfl), List.forall_mem_cons.mpr ⟨(ch1 76 rfl rfl), List.forall_mem_cons.mpr ⟨(ch1 80 rfl rfl), List.forall_mem_cons.mpr ⟨(ch1 83 rfl rfl), List.forall_mem_cons.mpr ⟨(ch1 86 rfl rfl), List.forall_mem_cons.mpr ⟨(ch1 89 rfl rfl), List.forall_mem_cons.mpr ⟨(ch1 92 rfl rfl), List.forall_mem_cons.mpr ⟨(ch1 95 rfl rfl), List.forall_mem_cons.mpr ⟨(ch1 98 rfl rfl), List.forall_mem_cons.mpr ⟨(ch1 103 rfl rfl), List.forall_mem_cons.mpr ⟨(ch1 44 rfl rfl), fun _ h => absurd h List.not_mem_nil⟩⟩⟩⟩⟩⟩⟩⟩⟩⟩⟩⟩⟩⟩⟩⟩
def flT80 : List (Nat × Nat × Nat × Nat) := [(4, 72, 8, 2), (5, 11, 5, 0), (5, 17, 5, 1), (5, 21, 5, 2), (5, 24, 5, 3), (5, 27, 5, 4), (5, 30, 5, 5), (5, 33, 5, 6), (5, 36, 5, 7), (5, 68, 8, 3), (5, 71, 8, 2), (5, 95, 8, 1), (5, 96, 8, 0), (6, 12, 6, 2), (6, 18, 6, 3), (6, 22, 6, 4)]
set_option maxRecDepth 100000 in
theorem flC80 : ∀ q ∈ flT80, Cond.fieldLink (oNm q.1) q.2.1 ((clT q.2.2.1) q.2.2.2).1 ((clT q.2.2.1) q.2.2.2).2.1 ((clT q.2.2.1) q.2.2.2).2.2.1 ∈ ALLg := List.forall_mem_cons.mpr ⟨(ch1 41 rfl rfl), List.forall_mem_cons.mpr ⟨(ch2 212 rfl rfl), List.forall_mem_cons.mpr ⟨(ch2 213 rfl rfl), List.forall_mem_cons.mpr ⟨(ch2 214 rfl rfl), List.forall_mem_cons.mpr ⟨(ch2 215 rfl rfl), List.forall_mem_cons.mpr ⟨(ch2 216 rfl rfl), List.forall_mem_cons.mpr ⟨(ch2 217 rfl rfl), List.forall_mem_cons.mpr ⟨(ch2 218 rfl rfl), List.forall_mem_cons.mpr ⟨(ch2 219 rfl rfl), List.forall_mem_cons.mpr ⟨(ch1 43 rfl rfl), List.forall_mem_cons.mpr ⟨(ch1 40 rfl rfl), List.forall_mem_cons.mpr ⟨(ch1 38 rfl rfl), List.forall_mem_cons.mpr ⟨(ch1 35 rfl rfl), List.forall_mem_cons.mpr ⟨(ch2 91 rfl rfl), List.forall_mem_cons.mpr ⟨(ch2 92 rfl rfl), List.forall_mem_cons.mpr ⟨(ch2 94 rfl rfl), fun _ h => absurd h List.not_mem_nil⟩⟩⟩⟩⟩⟩⟩⟩⟩⟩⟩⟩⟩⟩⟩⟩
def flT96 : List (Nat × Nat × Nat × Nat) := [(6, 25, 6, 0), (6, 29, 6, 1), (6, 42, 7, 6), (6, 46, 7, 7), (6, 53, 2, 12), (6, 62, 7, 0), (6, 65, 7, 9), (6, 68, 4, 3), (6, 73, 2, 9), (6, 76, 10, 4), (6, 81, 10, 1), (6, 94, 2, 5), (6, 98, 2, 11), (6, 99, 2, 13), (7, 9, 7, 0), (7, 15, 7, 1)]
set_option maxRecDepth 100000 in
theorem flC96 : ∀ q ∈ flT96, Cond.fieldLink (oNm q.1) q.2.1 ((clT q.2.2.1) q.2.2.2).1 ((clT q.2.2.1) q.2.2.2).2.1 ((clT q.2.2.1) q.2.2.2).2.2.1 ∈ ALLg := List.forall_mem_cons.mpr ⟨(ch2 89 rfl rfl), List.forall_mem_cons.mpr ⟨(ch2 90 rfl rfl), List.forall_mem_cons.mpr ⟨(ch1 176 rfl rfl), List.forall_mem_cons.mpr ⟨(ch1 181 rfl rfl), List.forall_mem_cons.mpr ⟨(ch2 48 rfl rfl), List.forall_mem_cons.mpr ⟨(ch1 155 rfl rfl), List.forall_mem_cons.mpr ⟨(ch1 190 rfl rfl), List.forall_mem_cons.mpr ⟨(ch1 70 rfl rfl), List.forall_mem_cons.mpr ⟨(ch2 40 rfl rfl), List.forall_mem_cons.mpr ⟨(ch2 4 rfl rfl), List.forall_mem_cons.mpr ⟨(ch1 238 rfl rfl), List.forall_mem_cons.mpr ⟨(ch2 32 rfl rfl), List.forall_mem_cons.mpr ⟨(ch2 44 rfl rfl), List.forall_mem_cons.mpr ⟨(ch2 50 rfl rfl), List.forall_mem_cons.mpr ⟨(ch1 153 rfl rfl), List.forall_mem_cons.mpr ⟨(ch1 158 rfl rfl), fun _ h => absurd h List.not_mem_nil⟩⟩⟩⟩⟩⟩⟩⟩⟩⟩⟩⟩⟩⟩⟩⟩
def flT112 : List (Nat × Nat × Nat × Nat) := [(7, 19, 7, 2), (7, 22, 7, 3), (7, 25, 7, 4), (7, 28, 7, 5), (7, 31, 7, 6), (7, 34, 7, 7), (7, 37, 7, 8), (7, 40, 7, 9), (7, 43, 4, 10), (7, 48, 4, 13), (7, 51, 4, 7), (7, 54, 4, 5), (7, 71, 4, 12), (8, 11, 8, 0), (8, 15, 8, 1), (8, 19, 8, 2)]
set_option maxRecDepth 100000 in
theorem flC112 : ∀ q ∈ flT112, Cond.fieldLink (oNm q.1) q.2.1 ((clT q.2.2.1) q.2.2.2).1 ((clT q.2.2.1) q.2.2.2).2.1 ((clT q.2.2.1) q.2.2.2).2.2.1 ∈ ALLg := List.forall_mem_cons.mpr ⟨(ch1 163 rfl rfl), List.forall_mem_cons.mpr ⟨(ch1 166 rfl rfl), List.forall_mem_cons.mpr ⟨(ch1 169 rfl rfl), List.forall_mem_cons.mpr ⟨(ch1 172 rfl rfl), List.forall_mem_cons.mpr ⟨(ch1 175 rfl rfl), List.forall_mem_cons.mpr ⟨(ch1 180 rfl rfl), List.forall_mem_cons.mpr ⟨(ch1 184 rfl rfl), List.forall_mem_cons.mpr ⟨(ch1 186 rfl rfl), List.forall_mem_cons.mpr ⟨(ch1 93 rfl rfl), List.forall_mem_cons.mpr ⟨(ch1 104 rfl rfl), List.forall_mem_cons.mpr ⟨(ch1 84 rfl rfl), List.forall_mem_cons.mpr ⟨(ch1 78 rfl rfl), List.forall_mem_cons.mpr ⟨(ch1 101 rfl rfl), List.forall_mem_cons.mpr ⟨(ch1 34 rfl rfl), List.forall_mem_cons.mpr ⟨(ch1 36 rfl rfl), List.forall_mem_cons.mpr ⟨(ch1 39 rfl rfl), fun _ h => absurd h List.not_mem_nil⟩⟩⟩⟩⟩⟩⟩⟩⟩⟩⟩⟩⟩⟩⟩⟩
def flT128 : List (Nat × Nat × Nat × Nat) := [(8, 22, 8, 3), (9, 12, 9, 2), (9, 18, 9, 3), (9, 22, 9, 4), (9, 26, 9, 5), (9, 33, 9, 1), (9, 41, 2, 6), (9, 64, 7, 1), (9, 67, 2, 7), (9, 83, 2, 8), (9, 89, 2, 12), (10, 12, 10, 0), (10, 21, 10, 1), (10, 28, 10, 2), (10, 32, 10, 3), (10, 36, 10, 4)]
set_option maxRecDepth 100000 in
theorem flC128 : ∀ q ∈ flT128, Cond.fieldLink (oNm q.1) q.2.1 ((clT q.2.2.1) q.2.2.2).1 ((clT q.2.2.1) q.2.2.2).2.1 ((clT q.2.2.1) q.2.2.2).2.2.1 ∈ ALLg := List.forall_mem_cons.mpr ⟨(ch1 42 rfl rfl), List.forall_mem_cons.mpr ⟨(ch2 156 rfl rfl), List.forall_mem_cons.mpr ⟨(ch2 157 rfl rfl), List.forall_mem_cons.mpr ⟨(ch2 158 rfl rfl), List.forall_mem_cons.mpr ⟨(ch2 159 rfl rfl), List.forall_mem_cons.mpr ⟨(ch2 155 rfl rfl), List.forall_mem_cons.mpr ⟨(ch2 34 rfl rfl), List.forall_mem_cons.mpr ⟨(ch1 159 rfl rfl), List.forall_mem_cons.mpr ⟨(ch2 36 rfl rfl), List.forall_mem_cons.mpr ⟨(ch2 38 rfl rfl), List.forall_mem_cons.mpr ⟨(ch2 47 rfl rfl), List.forall_mem_cons.mpr ⟨(ch1 234 rfl rfl), List.forall_mem_cons.mpr ⟨(ch1 236 rfl rfl), List.forall_mem_cons.mpr ⟨(ch1 239 rfl rfl), List.forall_mem_cons.mpr ⟨(ch2 1 rfl rfl), List.forall_mem_cons.mpr ⟨(ch2 3 rfl rfl), fun _ h => absurd h List.not_mem_nil⟩⟩⟩⟩⟩⟩⟩⟩⟩⟩⟩⟩⟩⟩⟩⟩
def flT144 : List (Nat × Nat × Nat × Nat) := [(11, 10, 11, 0), (11, 19, 11, 1), (11, 25, 11, 3), (11, 29, 11, 4), (11, 35, 11, 5), (11, 39, 11, 6), (11, 42, 11, 7), (11, 47, 11, 8), (11, 51, 11, 9), (11, 58, 10, 0), (11, 64, 11, 2), (11, 68, 11, 10), (11, 77, 11, 11), (11, 84, 11, 12), (11, 91, 11, 13), (11, 98, 11, 14)]
set_option maxRecDepth 100000 in
theorem flC144 : ∀ q ∈ flT144, Cond.fieldLink (oNm q.1) q.2.1 ((clT q.2.2.1) q.2.2.2).1 ((clT q.2.2.1) q.2.2.2).2.1 ((clT q.2.2.1) q.2.2.2).2.2.1 ∈ ALLg := List.forall_mem_cons.mpr ⟨(ch2 238 rfl rfl), List.forall_mem_cons.mpr ⟨(ch2 239 rfl rfl), List.forall_mem_cons.mpr ⟨(ch3 1 rfl rfl), List.forall_mem_cons.mpr ⟨(ch3 2 rfl rfl), List.forall_mem_cons.mpr ⟨(ch3 3 rfl rfl), List.forall_mem_cons.mpr ⟨(ch3 4 rfl rfl), List.forall_mem_cons.mpr ⟨(ch3 5 rfl rfl), List.forall_mem_cons.mpr ⟨(ch3 6 rfl rfl), List.forall_mem_cons.mpr ⟨(ch3 7 rfl rfl), List.forall_mem_cons.mpr ⟨(ch1 235 rfl rfl), List.forall_mem_cons.mpr ⟨(ch3 0 rfl rfl), List.forall_mem_cons.mpr ⟨(ch3 8 rfl rfl), List.forall_mem_cons.mpr ⟨(ch3 9 rfl rfl), List.forall_mem_cons.mpr ⟨(ch3 10 rfl rfl), List.forall_mem_cons.mpr ⟨(ch3 11 rfl rfl), List.forall_mem_cons.mpr ⟨(ch3 12 rfl rfl), fun _ h => absurd h List.not_mem_nil⟩⟩⟩⟩⟩⟩⟩⟩⟩⟩⟩⟩⟩⟩⟩⟩
def flT160 : List (Nat × Nat × Nat × Nat) := [(11, 104, 8, 1), (11, 118, 10, 1), (11, 125, 10, 2), (11, 129, 3, 0), (11, 134, 4, 5), (11, 138, 10, 3), (11, 149, 7, 1), (11, 153, 4, 11), (11, 156, 7, 2), (11, 159, 7, 3), (11, 165, 7, 4), (11, 168, 4, 6), (11, 171, 7, 5), (11, 177, 4, 7), (11, 180, 4, 8), (11, 183, 7, 6)]
set_option maxRecDepth 100000 in
theorem flC160 : ∀ q ∈ flT160, Cond.fieldLink (oNm q.1) q.2.1 ((clT q.2.2.1) q.2.2.2).1 ((clT q.2.2.1) q.2.2.2).2.1 ((clT q.2.2.1) q.2.2.2).2.2.1 ∈ ALLg := List.forall_mem_cons.mpr ⟨(ch1 37 rfl rfl), List.forall_mem_cons.mpr ⟨(ch1 237 rfl rfl), List.forall_mem_cons.mpr ⟨(ch2 0 rfl rfl), List.forall_mem_cons.mpr ⟨(ch1 221 rfl rfl), List.forall_mem_cons.mpr ⟨(ch1 77 rfl rfl), List.forall_mem_cons.mpr ⟨(ch2 2 rfl rfl), List.forall_mem_cons.mpr ⟨(ch1 161 rfl rfl), List.forall_mem_cons.mpr ⟨(ch1 97 rfl rfl), List.forall_mem_cons.mpr ⟨(ch1 164 rfl rfl), List.forall_mem_cons.mpr ⟨(ch1 167 rfl rfl), List.forall_mem_cons.mpr ⟨(ch1 170 rfl rfl), List.forall_mem_cons.mpr ⟨(ch1 82 rfl rfl), List.forall_mem_cons.mpr ⟨(ch1 173 rfl rfl), List.forall_mem_cons.mpr ⟨(ch1 85 rfl rfl), List.forall_mem_cons.mpr ⟨(ch1 88 rfl rfl), List.forall_mem_cons.mpr ⟨(ch1 179 rfl rfl), fun _ h => absurd h List.not_mem_nil⟩⟩⟩⟩⟩⟩⟩⟩⟩⟩⟩⟩⟩⟩⟩⟩
def flT176 : List (Nat × Nat × Nat × Nat) := [(11, 186, 4, 12), (11, 189, 7, 7), (11, 195, 7, 9), (11, 198, 4, 1), (11, 201, 4, 2), (11, 204, 4, 3), (11, 207, 4, 4), (11, 210, 7, 0), (11, 224, 10, 4), (11, 227, 4, 0), (11, 246, 2, 11), (11, 284, 2, 2), (11, 299, 2, 4), (11, 306, 6, 3), (11, 307, 6, 4), (11, 317, 1, 5)]
set_option maxRecDepth 100000 in
theorem flC176 : ∀ q ∈ flT176, Cond.fieldLink (oNm q.1) q.2.1 ((clT q.2.2.1) q.2.2.2).1 ((clT q.2.2.1) q.2.2.2).2.1 ((clT q.2.2.1) q.2.2.2).2.2.1 ∈ ALLg := List.forall_mem_cons.mpr ⟨(ch1 100 rfl rfl), List.forall_mem_cons.mpr ⟨(ch1 182 rfl rfl), List.forall_mem_cons.mpr ⟨(ch1 191 rfl rfl), List.forall_mem_cons.mpr ⟨(ch1 65 rfl rfl), List.forall_mem_cons.mpr ⟨(ch1 68 rfl rfl), List.forall_mem_cons.mpr ⟨(ch1 71 rfl rfl), List.forall_mem_cons.mpr ⟨(ch1 75 rfl rfl), List.forall_mem_cons.mpr ⟨(ch1 157 rfl rfl), List.forall_mem_cons.mpr ⟨(ch2 5 rfl rfl), List.forall_mem_cons.mpr ⟨(ch1 62 rfl rfl), List.forall_mem_cons.mpr ⟨(ch2 45 rfl rfl), List.forall_mem_cons.mpr ⟨(ch2 26 rfl rfl), List.forall_mem_cons.mpr ⟨(ch2 30 rfl rfl), List.forall_mem_cons.mpr ⟨(ch2 93 rfl rfl), List.forall_mem_cons.mpr ⟨(ch2 95 rfl rfl), List.forall_mem_cons.mpr ⟨(ch2 189 rfl rfl), fun _ h => absurd h List.not_mem_nil⟩⟩⟩⟩⟩⟩⟩⟩⟩⟩⟩⟩⟩⟩⟩⟩
def flT192 : List (Nat × Nat × Nat × Nat) := [(11, 320, 1, 6), (12, 7, 12, 0), (12, 13, 12, 3), (12, 17, 12, 4), (12, 20, 12, 5), (12, 23, 12, 6), (12, 26, 12, 7), (12, 29, 12, 15), (12, 32, 12, 17), (12, 36, 12, 19), (12, 39, 12, 20), (12, 42, 12, 21), (12, 46, 12, 23), (12, 49, 12, 24), (12, 52, 12, 29), (12, 55, 12, 30)]
set_option maxRecDepth 100000 in
theorem flC192 : ∀ q ∈ flT192, Cond.fieldLink (oNm q.1) q.2.1 ((clT q.2.2.1) q.2.2.2).1 ((clT q.2.2.1) q.2.2.2).2.1 ((clT q.2.2.1) q.2.2.2).2.2.1 ∈ ALLg := List.forall_mem_cons.mpr ⟨(ch2 191 rfl rfl), List.forall_mem_cons.mpr ⟨(ch5 122 rfl rfl), List.forall_mem_cons.mpr ⟨(ch5 125 rfl rfl), List.forall_mem_cons.mpr ⟨(ch5 126 rfl rfl), List.forall_mem_cons.mpr ⟨(ch5 127 rfl rfl), List.forall_mem_cons.mpr ⟨(ch5 128 rfl rfl), List.forall_mem_cons.mpr ⟨(ch5 129 rfl rfl), List.forall_mem_cons.mpr ⟨(ch5 137 rfl rfl), List.forall_mem_cons.mpr ⟨(ch5 139 rfl rfl), List.forall_mem_cons.mpr ⟨(ch5 141 rfl rfl), List.forall_mem_cons.mpr ⟨(ch5 142 rfl rfl), List.forall_mem_cons.mpr ⟨(ch5 143 rfl rfl), List.forall_mem_cons.mpr ⟨(ch5 145 rfl rfl), List.forall_mem_cons.mpr ⟨(ch5 146 rfl rfl), List.forall_mem_cons.mpr ⟨(ch5 151 rfl rfl), List.forall_mem_cons.mpr ⟨(ch5 152 rfl rfl), fun _ h => absurd h List.not_mem_nil⟩⟩⟩⟩⟩⟩⟩⟩⟩⟩⟩⟩⟩⟩⟩⟩
def flT208 : List (Nat × Nat × Nat × Nat) := [(12, 58, 12, 31), (12, 61, 12, 33), (12, 64, 12, 35), (12, 67, 12, 36), (12, 70, 12, 37), (12, 73, 12, 40), (12, 76, 12, 41), (12, 79, 12, 42), (12, 82, 12, 43), (12, 86, 12, 44), (12, 89, 12, 46), (12, 92, 12, 47), (12, 95, 12, 48), (12, 98, 12, 49), (12, 101, 12, 1), (12, 108, 12, 9)]
set_option maxRecDepth 100000 in
theorem flC208 : ∀ q ∈ flT208, Cond.fieldLink (oNm q.1) q.2.1 ((clT q.2.2.1) q.2.2.2).1 ((clT q.2.2.1) q.2.2.2).2.1 ((clT q.2.2.1) q.2.2.2).2.2.1 ∈ ALLg := List.forall_mem_cons.mpr ⟨(ch5 153 rfl rfl), List.forall_mem_cons.mpr ⟨(ch5 155 rfl rfl), List.forall_mem_cons.mpr ⟨(ch5 157 rfl rfl), List.forall_mem_cons.mpr ⟨(ch5 158 rfl rfl), List.forall_mem_cons.mpr ⟨(ch5 159 rfl rfl), List.forall_mem_cons.mpr ⟨(ch5 162 rfl rfl), List.forall_mem_cons.mpr ⟨(ch5 163 rfl rfl), List.forall_mem_cons.mpr ⟨(ch5 164 rfl rfl), List.forall_mem_cons.mpr ⟨(ch5 165 rfl rfl), List.forall_mem_cons.mpr ⟨(ch5 166 rfl rfl), List.forall_mem_cons.mpr ⟨(ch5 168 rfl rfl), List.forall_mem_cons.mpr ⟨(ch5 169 rfl rfl), List.forall_mem_cons.mpr ⟨(ch5 170 rfl rfl), List.forall_mem_cons.mpr ⟨(ch5 171 rfl rfl), List.forall_mem_cons.mpr ⟨(ch5 123 rfl rfl), List.forall_mem_cons.mpr ⟨(ch5 131 rfl rfl), fun _ h => absurd h List.not_mem_nil⟩⟩⟩⟩⟩⟩⟩⟩⟩⟩⟩⟩⟩⟩⟩⟩
def flT224 : List (Nat × Nat × Nat × Nat) := [(12, 111, 12, 8), (12, 136, 12, 10), (12, 169, 12, 11), (12, 172, 12, 12), (12, 175, 12, 13), (12, 178, 12, 16), (12, 279, 12, 14), (12, 291, 12, 2), (12, 297, 12, 34), (12, 300, 12, 18), (12, 373, 12, 27), (12, 376, 12, 32), (12, 383, 12, 26), (12, 386, 12, 28), (12, 389, 12, 25), (12, 460, 12, 38)]
set_option maxRecDepth 100000 in
theorem flC224 : ∀ q ∈ flT224, Cond.fieldLink (oNm q.1) q.2.1 ((clT q.2.2.1) q.2.2.2).1 ((clT q.2.2.1) q.2.2.2).2.1 ((clT q.2.2.1) q.2.2.2).2.2.1 ∈ ALLg := List.forall_mem_cons.mpr ⟨(ch5 130 rfl rfl), List.forall_mem_cons.mpr ⟨(ch5 132 rfl rfl), List.forall_mem_cons.mpr ⟨(ch5 133 rfl rfl), List.forall_mem_cons.mpr ⟨(ch5 134 rfl rfl), List.forall_mem_cons.mpr ⟨(ch5 135 rfl rfl), List.forall_mem_cons.mpr ⟨(ch5 138 rfl rfl), List.forall_mem_cons.mpr ⟨(ch5 136 rfl rfl), List.forall_mem_cons.mpr ⟨(ch5 124 rfl rfl), List.forall_mem_cons.mpr ⟨(ch5 156 rfl rfl), List.forall_mem_cons.mpr ⟨(ch5 140 rfl rfl), List.forall_mem_cons.mpr ⟨(ch5 149 rfl rfl), List.forall_mem_cons.mpr ⟨(ch5 154 rfl rfl), List.forall_mem_cons.mpr ⟨(ch5 148 rfl rfl), List.forall_mem_cons.mpr ⟨(ch5 150 rfl rfl), List.forall_mem_cons.mpr ⟨(ch5 147 rfl rfl), List.forall_mem_cons.mpr ⟨(ch5 160 rfl rfl), fun _ h => absurd h List.not_mem_nil⟩⟩⟩⟩⟩⟩⟩⟩⟩⟩⟩⟩⟩⟩⟩⟩
def flT240 : List (Nat × Nat × Nat × Nat) := [(12, 463, 12, 39), (12, 500, 12, 22), (12, 503, 12, 45)]
set_option maxRecDepth 100000 in
theorem flC240 : ∀ q ∈ flT240, Cond.fieldLink (oNm q.1) q.2.1 ((clT q.2.2.1) q.2.2.2).1 ((clT q.2.2.1) q.2.2.2).2.1 ((clT q.2.2.1) q.2.2.2).2.2.1 ∈ ALLg := List.forall_mem_cons.mpr ⟨(ch5 161 rfl rfl), List.forall_mem_cons.mpr ⟨(ch5 144 rfl rfl), List.forall_mem_cons.mpr ⟨(ch5 167 rfl rfl), fun _ h => absurd h List.not_mem_nil⟩⟩⟩
def flTab : List (Nat × Nat × Nat × Nat) := flT0 ++ (flT16 ++ (flT32 ++ (flT48 ++ (flT64 ++ (flT80 ++ (flT96 ++ (flT112 ++ (flT128 ++ (flT144 ++ (flT160 ++ (flT176 ++ (flT192 ++ (flT208 ++ (flT224 ++ (flT240)))))))))))))))
theorem flOK : ∀ q ∈ flTab, Cond.fieldLink (oNm q.1) q.2.1 ((clT q.2.2.1) q.2.2.2).1 ((clT q.2.2.1) q.2.2.2).2.1 ((clT q.2.2.1) q.2.2.2).2.2.1 ∈ ALLg := List.forall_mem_append.mpr ⟨flC0, List.forall_mem_append.mpr ⟨flC16, List.forall_mem_append.mpr ⟨flC32, List.forall_mem_append.mpr ⟨flC48, List.forall_mem_append.mpr ⟨flC64, List.forall_mem_append.mpr ⟨flC80, List.forall_mem_append.mpr ⟨flC96, List.forall_mem_append.mpr ⟨flC112, List.forall_mem_append.mpr ⟨flC128, List.forall_mem_append.mpr ⟨flC144, List.forall_mem_append.mpr ⟨flC160, List.forall_mem_append.mpr ⟨flC176, List.forall_mem_append.mpr ⟨flC192, List.forall_mem_append.mpr ⟨flC208, List.forall_mem_append.mpr ⟨flC224, flC240⟩⟩⟩⟩⟩⟩⟩⟩⟩⟩⟩⟩⟩⟩⟩
def mlT0 : List (Nat × Nat × Nat) := [(0, 49, 50), (0, 53, 901), (0, 59, 2), (0, 63, 0), (0, 66, 3), (0, 75, 14), (0, 86, 54), (0, 93, 52), (0, 97, 5), (0, 106, 6), (0, 110, 53), (0, 119, 8), (1, 42, 13), (1, 48, 10), (1, 52, 27), (1, 58, 900)]
set_option maxRecDepth 100000 in
theorem mlC0 : ∀ q ∈ mlT0, Cond.methodLink (oNm q.1) q.2.1 (mlN q.2.2) ∈ ALLg := List.forall_mem_cons.mpr ⟨(ch4 171 rfl rfl), List.forall_mem_cons.mpr ⟨(ch4 172 rfl rfl), List.forall_mem_cons.mpr ⟨(ch4 173 rfl rfl), List.forall_mem_cons.mpr ⟨(ch4 177 rfl rfl), List.forall_mem_cons.mpr ⟨(ch4 181 rfl rfl), List.forall_mem_cons.mpr ⟨(ch4 186 rfl rfl), List.forall_mem_cons.mpr ⟨(ch4 185 rfl rfl), List.forall_mem_cons.mpr ⟨(ch4 230 rfl rfl), List.forall_mem_cons.mpr ⟨(ch5 22 rfl rfl), List.forall_mem_cons.mpr ⟨(ch5 26 rfl rfl), List.forall_mem_cons.mpr ⟨(ch5 30 rfl rfl), List.forall_mem_cons.mpr ⟨(ch4 226 rfl rfl), List.forall_mem_cons.mpr ⟨(ch5 68 rfl rfl), List.forall_mem_cons.mpr ⟨(ch5 69 rfl rfl), List.forall_mem_cons.mpr ⟨(ch5 73 rfl rfl), List.forall_mem_cons.mpr ⟨(ch5 78 rfl rfl), fun _ h => absurd h List.not_mem_nil⟩⟩⟩⟩⟩⟩⟩⟩⟩⟩⟩⟩⟩⟩⟩⟩
def mlT16 : List (Nat × Nat × Nat) := [(1, 64, 51), (1, 68, 28), (1, 74, 14), (1, 78, 11), (2, 62, 15), (2, 66, 16), (2, 70, 20), (2, 81, 901), (2, 87, 53), (2, 91, 17), (2, 94, 18), (2, 98, 42), (2, 122, 900), (2, 125, 19), (2, 141, 21), (2, 144, 22)]
set_option maxRecDepth 100000 in
theorem mlC16 : ∀ q ∈ mlT16, Cond.methodLink (oNm q.1) q.2.1 (mlN q.2.2) ∈ ALLg := List.forall_mem_cons.mpr ⟨(ch5 79 rfl rfl), List.forall_mem_cons.mpr ⟨(ch5 80 rfl rfl), List.forall_mem_cons.mpr ⟨(ch5 84 rfl rfl), List.forall_mem_cons.mpr ⟨(ch5 93 rfl rfl), List.forall_mem_cons.mpr ⟨(ch4 54 rfl rfl), List.forall_mem_cons.mpr ⟨(ch4 59 rfl rfl), List.forall_mem_cons.mpr ⟨(ch4 86 rfl rfl), List.forall_mem_cons.mpr ⟨(ch4 106 rfl rfl), List.forall_mem_cons.mpr ⟨(ch4 58 rfl rfl), List.forall_mem_cons.mpr ⟨(ch4 63 rfl rfl), List.forall_mem_cons.mpr ⟨(ch4 67 rfl rfl), List.forall_mem_cons.mpr ⟨(ch4 78 rfl rfl), List.forall_mem_cons.mpr ⟨(ch4 71 rfl rfl), List.forall_mem_cons.mpr ⟨(ch4 74 rfl rfl), List.forall_mem_cons.mpr ⟨(ch4 90 rfl rfl), List.forall_mem_cons.mpr ⟨(ch4 94 rfl rfl), fun _ h => absurd h List.not_mem_nil⟩⟩⟩⟩⟩⟩⟩⟩⟩⟩⟩⟩⟩⟩⟩⟩
def mlT32 : List (Nat × Nat × Nat) := [(2, 147, 24), (2, 158, 23), (3, 25, 900), (4, 56, 60), (4, 64, 31), (4, 68, 62), (4, 75, 61), (4, 81, 64), (4, 85, 65), (4, 88, 66), (4, 92, 32), (5, 40, 60), (5, 43, 34), (5, 47, 39), (5, 51, 62), (5, 57, 64)]
set_option maxRecDepth 100000 in
theorem mlC32 : ∀ q ∈ mlT32, Cond.methodLink (oNm q.1) q.2.1 (mlN q.2.2) ∈ ALLg := List.forall_mem_cons.mpr ⟨(ch4 102 rfl rfl), List.forall_mem_cons.mpr ⟨(ch4 98 rfl rfl), List.forall_mem_cons.mpr ⟨(ch5 77 rfl rfl), List.forall_mem_cons.mpr ⟨(ch3 64 rfl rfl), List.forall_mem_cons.mpr ⟨(ch3 68 rfl rfl), List.forall_mem_cons.mpr ⟨(ch3 72 rfl rfl), List.forall_mem_cons.mpr ⟨(ch3 133 rfl rfl), List.forall_mem_cons.mpr ⟨(ch3 77 rfl rfl), List.forall_mem_cons.mpr ⟨(ch3 137 rfl rfl), List.forall_mem_cons.mpr ⟨(ch3 141 rfl rfl), List.forall_mem_cons.mpr ⟨(ch3 147 rfl rfl), List.forall_mem_cons.mpr ⟨(ch3 169 rfl rfl), List.forall_mem_cons.mpr ⟨(ch3 170 rfl rfl), List.forall_mem_cons.mpr ⟨(ch3 178 rfl rfl), List.forall_mem_cons.mpr ⟨(ch3 173 rfl rfl), List.forall_mem_cons.mpr ⟨(ch3 175 rfl rfl), fun _ h => absurd h List.not_mem_nil⟩⟩⟩⟩⟩⟩⟩⟩⟩⟩⟩⟩⟩⟩⟩⟩
def mlT48 : List (Nat × Nat × Nat) := [(5, 61, 65), (5, 64, 36), (5, 74, 61), (5, 80, 37), (5, 85, 35), (5, 91, 38), (5, 99, 41), (5, 102, 40), (5, 109, 66), (5, 113, 43), (6, 33, 50), (6, 37, 14), (6, 49, 57), (6, 56, 229), (7, 57, 52), (7, 61, 53)]
set_option maxRecDepth 100000 in
theorem mlC48 : ∀ q ∈ mlT48, Cond.methodLink (oNm q.1) q.2.1 (mlN q.2.2) ∈ ALLg := List.forall_mem_cons.mpr ⟨(ch3 177 rfl rfl), List.forall_mem_cons.mpr ⟨(ch3 197 rfl rfl), List.forall_mem_cons.mpr ⟨(ch3 176 rfl rfl), List.forall_mem_cons.mpr ⟨(ch3 201 rfl rfl), List.forall_mem_cons.mpr ⟨(ch3 189 rfl rfl), List.forall_mem_cons.mpr ⟨(ch3 206 rfl rfl), List.forall_mem_cons.mpr ⟨(ch3 182 rfl rfl), List.forall_mem_cons.mpr ⟨(ch3 193 rfl rfl), List.forall_mem_cons.mpr ⟨(ch3 188 rfl rfl), List.forall_mem_cons.mpr ⟨(ch4 82 rfl rfl), List.forall_mem_cons.mpr ⟨(ch4 141 rfl rfl), List.forall_mem_cons.mpr ⟨(ch4 142 rfl rfl), List.forall_mem_cons.mpr ⟨(ch4 159 rfl rfl), List.forall_mem_cons.mpr ⟨(ch5 0 rfl rfl), List.forall_mem_cons.mpr ⟨(ch3 227 rfl rfl), List.forall_mem_cons.mpr ⟨(ch4 127 rfl rfl), fun _ h => absurd h List.not_mem_nil⟩⟩⟩⟩⟩⟩⟩⟩⟩⟩⟩⟩⟩⟩⟩⟩
def mlT64 : List (Nat × Nat × Nat) := [(7, 65, 900), (8, 25, 63), (8, 29, 910), (8, 34, 911), (8, 38, 62), (8, 41, 61), (9, 37, 50), (9, 47, 15), (9, 50, 68), (9, 53, 70), (9, 57, 69), (9, 60, 71), (9, 70, 16), (9, 74, 901), (9, 80, 900), (9, 86, 20)]
set_option maxRecDepth 100000 in
theorem mlC64 : ∀ q ∈ mlT64, Cond.methodLink (oNm q.1) q.2.1 (mlN q.2.2) ∈ ALLg := List.forall_mem_cons.mpr ⟨(ch4 128 rfl rfl), List.forall_mem_cons.mpr ⟨(ch3 81 rfl rfl), List.forall_mem_cons.mpr ⟨(ch3 85 rfl rfl), List.forall_mem_cons.mpr ⟨(ch3 95 rfl rfl), List.forall_mem_cons.mpr ⟨(ch3 145 rfl rfl), List.forall_mem_cons.mpr ⟨(ch3 146 rfl rfl), List.forall_mem_cons.mpr ⟨(ch4 195 rfl rfl), List.forall_mem_cons.mpr ⟨(ch4 196 rfl rfl), List.forall_mem_cons.mpr ⟨(ch4 197 rfl rfl), List.forall_mem_cons.mpr ⟨(ch4 202 rfl rfl), List.forall_mem_cons.mpr ⟨(ch4 207 rfl rfl), List.forall_mem_cons.mpr ⟨(ch4 214 rfl rfl), List.forall_mem_cons.mpr ⟨(ch4 201 rfl rfl), List.forall_mem_cons.mpr ⟨(ch4 211 rfl rfl), List.forall_mem_cons.mpr ⟨(ch4 212 rfl rfl), List.forall_mem_cons.mpr ⟨(ch4 213 rfl rfl), fun _ h => absurd h List.not_mem_nil⟩⟩⟩⟩⟩⟩⟩⟩⟩⟩⟩⟩⟩⟩⟩⟩
def mlT80 : List (Nat × Nat × Nat) := [(10, 39, 29), (10, 43, 50), (10, 46, 25), (11, 107, 59), (11, 111, 30), (11, 115, 29), (11, 122, 51), (11, 137, 33), (11, 141, 104), (11, 145, 53), (11, 162, 58), (11, 174, 105), (11, 192, 106), (11, 213, 56), (11, 217, 109), (11, 221, 110)]
set_option maxRecDepth 100000 in
theorem mlC80 : ∀ q ∈ mlT80, Cond.methodLink (oNm q.1) q.2.1 (mlN q.2.2) ∈ ALLg := List.forall_mem_cons.mpr ⟨(ch5 106 rfl rfl), List.forall_mem_cons.mpr ⟨(ch5 107 rfl rfl), List.forall_mem_cons.mpr ⟨(ch5 108 rfl rfl), List.forall_mem_cons.mpr ⟨(ch3 48 rfl rfl), List.forall_mem_cons.mpr ⟨(ch3 60 rfl rfl), List.forall_mem_cons.mpr ⟨(ch3 152 rfl rfl), List.forall_mem_cons.mpr ⟨(ch3 156 rfl rfl), List.forall_mem_cons.mpr ⟨(ch3 165 rfl rfl), List.forall_mem_cons.mpr ⟨(ch3 219 rfl rfl), List.forall_mem_cons.mpr ⟨(ch3 223 rfl rfl), List.forall_mem_cons.mpr ⟨(ch3 231 rfl rfl), List.forall_mem_cons.mpr ⟨(ch3 239 rfl rfl), List.forall_mem_cons.mpr ⟨(ch4 7 rfl rfl), List.forall_mem_cons.mpr ⟨(ch4 15 rfl rfl), List.forall_mem_cons.mpr ⟨(ch4 19 rfl rfl), List.forall_mem_cons.mpr ⟨(ch4 23 rfl rfl), fun _ h => absurd h List.not_mem_nil⟩⟩⟩⟩⟩⟩⟩⟩⟩⟩⟩⟩⟩⟩⟩⟩
def mlT96 : List (Nat × Nat × Nat) := [(11, 231, 108), (11, 234, 107), (11, 238, 13), (11, 242, 14), (11, 249, 54), (11, 252, 55), (11, 256, 50), (11, 258, 44), (11, 262, 45), (11, 266, 46), (11, 270, 1), (11, 274, 67), (11, 277, 7), (11, 281, 47), (11, 287, 48), (11, 290, 4)]
set_option maxRecDepth 100000 in
theorem mlC96 : ∀ q ∈ mlT96, Cond.methodLink (oNm q.1) q.2.1 (mlN q.2.2) ∈ ALLg := List.forall_mem_cons.mpr ⟨(ch4 31 rfl rfl), List.forall_mem_cons.mpr ⟨(ch4 42 rfl rfl), List.forall_mem_cons.mpr ⟨(ch4 46 rfl rfl), List.forall_mem_cons.mpr ⟨(ch4 50 rfl rfl), List.forall_mem_cons.mpr ⟨(ch4 119 rfl rfl), List.forall_mem_cons.mpr ⟨(ch4 123 rfl rfl), List.forall_mem_cons.mpr ⟨(ch4 35 rfl rfl), List.forall_mem_cons.mpr ⟨(ch4 137 rfl rfl), List.forall_mem_cons.mpr ⟨(ch4 147 rfl rfl), List.forall_mem_cons.mpr ⟨(ch4 155 rfl rfl), List.forall_mem_cons.mpr ⟨(ch4 167 rfl rfl), List.forall_mem_cons.mpr ⟨(ch4 191 rfl rfl), List.forall_mem_cons.mpr ⟨(ch4 222 rfl rfl), List.forall_mem_cons.mpr ⟨(ch4 236 rfl rfl), List.forall_mem_cons.mpr ⟨(ch5 10 rfl rfl), List.forall_mem_cons.mpr ⟨(ch5 18 rfl rfl), fun _ h => absurd h List.not_mem_nil⟩⟩⟩⟩⟩⟩⟩⟩⟩⟩⟩⟩⟩⟩⟩⟩
def mlT112 : List (Nat × Nat × Nat) := [(11, 293, 901), (11, 302, 49), (11, 310, 26), (11, 313, 9), (11, 323, 12), (11, 326, 11), (11, 330, 72), (12, 104, 113), (12, 114, 117), (12, 118, 119), (12, 122, 120), (12, 126, 121), (12, 129, 118), (12, 132, 116), (12, 139, 111), (12, 181, 128)]
set_option maxRecDepth 100000 in
theorem mlC112 : ∀ q ∈ mlT112, Cond.methodLink (oNm q.1) q.2.1 (mlN q.2.2) ∈ ALLg := List.forall_mem_cons.mpr ⟨(ch4 39 rfl rfl), List.forall_mem_cons.mpr ⟨(ch5 43 rfl rfl), List.forall_mem_cons.mpr ⟨(ch5 56 rfl rfl), List.forall_mem_cons.mpr ⟨(ch5 64 rfl rfl), List.forall_mem_cons.mpr ⟨(ch5 89 rfl rfl), List.forall_mem_cons.mpr ⟨(ch5 97 rfl rfl), List.forall_mem_cons.mpr ⟨(ch5 102 rfl rfl), List.forall_mem_cons.mpr ⟨(ch6 37 rfl rfl), List.forall_mem_cons.mpr ⟨(ch6 57 rfl rfl), List.forall_mem_cons.mpr ⟨(ch6 70 rfl rfl), List.forall_mem_cons.mpr ⟨(ch6 66 rfl rfl), List.forall_mem_cons.mpr ⟨(ch6 90 rfl rfl), List.forall_mem_cons.mpr ⟨(ch6 98 rfl rfl), List.forall_mem_cons.mpr ⟨(ch6 78 rfl rfl), List.forall_mem_cons.mpr ⟨(ch6 102 rfl rfl), List.forall_mem_cons.mpr ⟨(ch6 200 rfl rfl), fun _ h => absurd h List.not_mem_nil⟩⟩⟩⟩⟩⟩⟩⟩⟩⟩⟩⟩⟩⟩⟩⟩
def mlT128 : List (Nat × Nat × Nat) := [(12, 185, 125), (12, 190, 123), (12, 193, 126), (12, 196, 124), (12, 199, 130), (12, 203, 131), (12, 206, 132), (12, 211, 127), (12, 214, 133), (12, 217, 129), (12, 220, 135), (12, 223, 134), (12, 226, 136), (12, 235, 122), (12, 238, 137), (12, 241, 139)]
set_option maxRecDepth 100000 in
theorem mlC128 : ∀ q ∈ mlT128, Cond.methodLink (oNm q.1) q.2.1 (mlN q.2.2) ∈ ALLg := List.forall_mem_cons.mpr ⟨(ch6 154 rfl rfl), List.forall_mem_cons.mpr ⟨(ch6 94 rfl rfl), List.forall_mem_cons.mpr ⟨(ch6 150 rfl rfl), List.forall_mem_cons.mpr ⟨(ch6 158 rfl rfl), List.forall_mem_cons.mpr ⟨(ch6 145 rfl rfl), List.forall_mem_cons.mpr ⟨(ch6 141 rfl rfl), List.forall_mem_cons.mpr ⟨(ch6 137 rfl rfl), List.forall_mem_cons.mpr ⟨(ch6 184 rfl rfl), List.forall_mem_cons.mpr ⟨(ch6 188 rfl rfl), List.forall_mem_cons.mpr ⟨(ch6 196 rfl rfl), List.forall_mem_cons.mpr ⟨(ch6 203 rfl rfl), List.forall_mem_cons.mpr ⟨(ch6 179 rfl rfl), List.forall_mem_cons.mpr ⟨(ch6 192 rfl rfl), List.forall_mem_cons.mpr ⟨(ch6 122 rfl rfl), List.forall_mem_cons.mpr ⟨(ch6 175 rfl rfl), List.forall_mem_cons.mpr ⟨(ch6 105 rfl rfl), fun _ h => absurd h List.not_mem_nil⟩⟩⟩⟩⟩⟩⟩⟩⟩⟩⟩⟩⟩⟩⟩⟩
def mlT144 : List (Nat × Nat × Nat) := [(12, 253, 142), (12, 258, 140), (12, 261, 141), (12, 266, 143), (12, 269, 144), (12, 274, 146), (12, 282, 145), (12, 285, 138), (12, 288, 147), (12, 294, 148), (12, 303, 152), (12, 307, 153), (12, 311, 154), (12, 315, 160), (12, 319, 161), (12, 322, 162)]
set_option maxRecDepth 100000 in
theorem mlC144 : ∀ q ∈ mlT144, Cond.methodLink (oNm q.1) q.2.1 (mlN q.2.2) ∈ ALLg := List.forall_mem_cons.mpr ⟨(ch6 117 rfl rfl), List.forall_mem_cons.mpr ⟨(ch6 86 rfl rfl), List.forall_mem_cons.mpr ⟨(ch6 109 rfl rfl), List.forall_mem_cons.mpr ⟨(ch6 113 rfl rfl), List.forall_mem_cons.mpr ⟨(ch6 129 rfl rfl), List.forall_mem_cons.mpr ⟨(ch6 61 rfl rfl), List.forall_mem_cons.mpr ⟨(ch6 82 rfl rfl), List.forall_mem_cons.mpr ⟨(ch6 133 rfl rfl), List.forall_mem_cons.mpr ⟨(ch6 53 rfl rfl), List.forall_mem_cons.mpr ⟨(ch6 49 rfl rfl), List.forall_mem_cons.mpr ⟨(ch7 82 rfl rfl), List.forall_mem_cons.mpr ⟨(ch7 86 rfl rfl), List.forall_mem_cons.mpr ⟨(ch7 90 rfl rfl), List.forall_mem_cons.mpr ⟨(ch7 1 rfl rfl), List.forall_mem_cons.mpr ⟨(ch6 237 rfl rfl), List.forall_mem_cons.mpr ⟨(ch6 233 rfl rfl), fun _ h => absurd h List.not_mem_nil⟩⟩⟩⟩⟩⟩⟩⟩⟩⟩⟩⟩⟩⟩⟩⟩
def mlT160 : List (Nat × Nat × Nat) := [(12, 325, 159), (12, 328, 151), (12, 331, 157), (12, 334, 163), (12, 337, 158), (12, 342, 156), (12, 347, 164), (12, 350, 112), (12, 353, 171), (12, 356, 170), (12, 359, 155), (12, 363, 172), (12, 366, 173), (12, 370, 165), (12, 380, 174), (12, 392, 176)]
set_option maxRecDepth 100000 in
theorem mlC160 : ∀ q ∈ mlT160, Cond.methodLink (oNm q.1) q.2.1 (mlN q.2.2) ∈ ALLg := List.forall_mem_cons.mpr ⟨(ch6 229 rfl rfl), List.forall_mem_cons.mpr ⟨(ch6 217 rfl rfl), List.forall_mem_cons.mpr ⟨(ch6 225 rfl rfl), List.forall_mem_cons.mpr ⟨(ch7 5 rfl rfl), List.forall_mem_cons.mpr ⟨(ch7 13 rfl rfl), List.forall_mem_cons.mpr ⟨(ch7 22 rfl rfl), List.forall_mem_cons.mpr ⟨(ch7 66 rfl rfl), List.forall_mem_cons.mpr ⟨(ch7 55 rfl rfl), List.forall_mem_cons.mpr ⟨(ch7 62 rfl rfl), List.forall_mem_cons.mpr ⟨(ch7 70 rfl rfl), List.forall_mem_cons.mpr ⟨(ch7 78 rfl rfl), List.forall_mem_cons.mpr ⟨(ch7 58 rfl rfl), List.forall_mem_cons.mpr ⟨(ch7 74 rfl rfl), List.forall_mem_cons.mpr ⟨(ch7 47 rfl rfl), List.forall_mem_cons.mpr ⟨(ch7 51 rfl rfl), List.forall_mem_cons.mpr ⟨(ch7 97 rfl rfl), fun _ h => absurd h List.not_mem_nil⟩⟩⟩⟩⟩⟩⟩⟩⟩⟩⟩⟩⟩⟩⟩⟩
def mlT176 : List (Nat × Nat × Nat) := [(12, 395, 177), (12, 399, 175), (12, 402, 178), (12, 405, 179), (12, 408, 181), (12, 411, 180), (12, 414, 186), (12, 417, 187), (12, 422, 189), (12, 425, 190), (12, 428, 193), (12, 431, 194), (12, 434, 196), (12, 437, 197), (12, 443, 198), (12, 446, 200)]
set_option maxRecDepth 100000 in
theorem mlC176 : ∀ q ∈ mlT176, Cond.methodLink (oNm q.1) q.2.1 (mlN q.2.2) ∈ ALLg := List.forall_mem_cons.mpr ⟨(ch7 101 rfl rfl), List.forall_mem_cons.mpr ⟨(ch7 43 rfl rfl), List.forall_mem_cons.mpr ⟨(ch7 93 rfl rfl), List.forall_mem_cons.mpr ⟨(ch7 105 rfl rfl), List.forall_mem_cons.mpr ⟨(ch7 35 rfl rfl), List.forall_mem_cons.mpr ⟨(ch7 39 rfl rfl), List.forall_mem_cons.mpr ⟨(ch7 121 rfl rfl), List.forall_mem_cons.mpr ⟨(ch7 125 rfl rfl), List.forall_mem_cons.mpr ⟨(ch7 134 rfl rfl), List.forall_mem_cons.mpr ⟨(ch7 138 rfl rfl), List.forall_mem_cons.mpr ⟨(ch7 154 rfl rfl), List.forall_mem_cons.mpr ⟨(ch7 150 rfl rfl), List.forall_mem_cons.mpr ⟨(ch7 163 rfl rfl), List.forall_mem_cons.mpr ⟨(ch7 171 rfl rfl), List.forall_mem_cons.mpr ⟨(ch7 167 rfl rfl), List.forall_mem_cons.mpr ⟨(ch7 184 rfl rfl), fun _ h => absurd h List.not_mem_nil⟩⟩⟩⟩⟩⟩⟩⟩⟩⟩⟩⟩⟩⟩⟩⟩
def mlT192 : List (Nat × Nat × Nat) := [(12, 451, 201), (12, 454, 203), (12, 457, 204), (12, 466, 205), (12, 472, 207), (12, 475, 210), (12, 478, 211), (12, 481, 212), (12, 488, 215), (12, 491, 216), (12, 494, 217), (12, 497, 219), (12, 519, 224), (12, 522, 223), (14, 13, 73), (14, 17, 114)]
set_option maxRecDepth 100000 in
theorem mlC192 : ∀ q ∈ mlT192, Cond.methodLink (oNm q.1) q.2.1 (mlN q.2.2) ∈ ALLg := List.forall_mem_cons.mpr ⟨(ch7 180 rfl rfl), List.forall_mem_cons.mpr ⟨(ch7 192 rfl rfl), List.forall_mem_cons.mpr ⟨(ch7 199 rfl rfl), List.forall_mem_cons.mpr ⟨(ch7 195 rfl rfl), List.forall_mem_cons.mpr ⟨(ch7 209 rfl rfl), List.forall_mem_cons.mpr ⟨(ch7 221 rfl rfl), List.forall_mem_cons.mpr ⟨(ch7 224 rfl rfl), List.forall_mem_cons.mpr ⟨(ch7 228 rfl rfl), List.forall_mem_cons.mpr ⟨(ch8 6 rfl rfl), List.forall_mem_cons.mpr ⟨(ch8 10 rfl rfl), List.forall_mem_cons.mpr ⟨(ch8 2 rfl rfl), List.forall_mem_cons.mpr ⟨(ch8 18 rfl rfl), List.forall_mem_cons.mpr ⟨(ch8 36 rfl rfl), List.forall_mem_cons.mpr ⟨(ch8 40 rfl rfl), List.forall_mem_cons.mpr ⟨(ch3 44 rfl rfl), List.forall_mem_cons.mpr ⟨(ch6 33 rfl rfl), fun _ h => absurd h List.not_mem_nil⟩⟩⟩⟩⟩⟩⟩⟩⟩⟩⟩⟩⟩⟩⟩⟩
def mlT208 : List (Nat × Nat × Nat) := [(14, 18, 74), (14, 22, 115), (14, 23, 75), (14, 27, 150), (14, 28, 76), (14, 31, 149), (14, 32, 77), (14, 35, 166), (14, 36, 78), (14, 40, 167), (14, 41, 79), (14, 44, 168), (14, 45, 80), (14, 48, 169), (14, 49, 82), (14, 52, 183)]
set_option maxRecDepth 100000 in
theorem mlC208 : ∀ q ∈ mlT208, Cond.methodLink (oNm q.1) q.2.1 (mlN q.2.2) ∈ ALLg := List.forall_mem_cons.mpr ⟨(ch3 52 rfl rfl), List.forall_mem_cons.mpr ⟨(ch6 41 rfl rfl), List.forall_mem_cons.mpr ⟨(ch3 56 rfl rfl), List.forall_mem_cons.mpr ⟨(ch6 209 rfl rfl), List.forall_mem_cons.mpr ⟨(ch3 161 rfl rfl), List.forall_mem_cons.mpr ⟨(ch6 45 rfl rfl), List.forall_mem_cons.mpr ⟨(ch3 211 rfl rfl), List.forall_mem_cons.mpr ⟨(ch6 213 rfl rfl), List.forall_mem_cons.mpr ⟨(ch3 215 rfl rfl), List.forall_mem_cons.mpr ⟨(ch6 221 rfl rfl), List.forall_mem_cons.mpr ⟨(ch3 235 rfl rfl), List.forall_mem_cons.mpr ⟨(ch7 9 rfl rfl), List.forall_mem_cons.mpr ⟨(ch4 3 rfl rfl), List.forall_mem_cons.mpr ⟨(ch7 18 rfl rfl), List.forall_mem_cons.mpr ⟨(ch4 27 rfl rfl), List.forall_mem_cons.mpr ⟨(ch7 31 rfl rfl), fun _ h => absurd h List.not_mem_nil⟩⟩⟩⟩⟩⟩⟩⟩⟩⟩⟩⟩⟩⟩⟩⟩
def mlT224 : List (Nat × Nat × Nat) := [(14, 53, 83), (14, 56, 184), (14, 57, 84), (14, 60, 185), (14, 61, 85), (14, 64, 188), (14, 65, 86), (14, 68, 182), (14, 69, 87), (14, 73, 191), (14, 74, 88), (14, 77, 192), (14, 78, 89), (14, 81, 195), (14, 82, 90), (14, 85, 199)]
set_option maxRecDepth 100000 in
theorem mlC224 : ∀ q ∈ mlT224, Cond.methodLink (oNm q.1) q.2.1 (mlN q.2.2) ∈ ALLg := List.forall_mem_cons.mpr ⟨(ch4 107 rfl rfl), List.forall_mem_cons.mpr ⟨(ch7 109 rfl rfl), List.forall_mem_cons.mpr ⟨(ch4 111 rfl rfl), List.forall_mem_cons.mpr ⟨(ch7 113 rfl rfl), List.forall_mem_cons.mpr ⟨(ch4 115 rfl rfl), List.forall_mem_cons.mpr ⟨(ch7 117 rfl rfl), List.forall_mem_cons.mpr ⟨(ch4 129 rfl rfl), List.forall_mem_cons.mpr ⟨(ch7 27 rfl rfl), List.forall_mem_cons.mpr ⟨(ch4 133 rfl rfl), List.forall_mem_cons.mpr ⟨(ch7 129 rfl rfl), List.forall_mem_cons.mpr ⟨(ch4 143 rfl rfl), List.forall_mem_cons.mpr ⟨(ch7 142 rfl rfl), List.forall_mem_cons.mpr ⟨(ch4 151 rfl rfl), List.forall_mem_cons.mpr ⟨(ch7 146 rfl rfl), List.forall_mem_cons.mpr ⟨(ch4 163 rfl rfl), List.forall_mem_cons.mpr ⟨(ch7 158 rfl rfl), fun _ h => absurd h List.not_mem_nil⟩⟩⟩⟩⟩⟩⟩⟩⟩⟩⟩⟩⟩⟩⟩⟩
def mlT240 : List (Nat × Nat × Nat) := [(14, 86, 91), (14, 89, 202), (14, 90, 92), (14, 93, 206), (14, 94, 93), (14, 97, 208), (14, 98, 94), (14, 101, 209), (14, 102, 95), (14, 105, 213), (14, 106, 99), (14, 109, 214), (14, 110, 100), (14, 113, 218), (14, 114, 101), (14, 117, 220)]
set_option maxRecDepth 100000 in
theorem mlC240 : ∀ q ∈ mlT240, Cond.methodLink (oNm q.1) q.2.1 (mlN q.2.2) ∈ ALLg := List.forall_mem_cons.mpr ⟨(ch4 187 rfl rfl), List.forall_mem_cons.mpr ⟨(ch7 175 rfl rfl), List.forall_mem_cons.mpr ⟨(ch4 218 rfl rfl), List.forall_mem_cons.mpr ⟨(ch7 188 rfl rfl), List.forall_mem_cons.mpr ⟨(ch4 231 rfl rfl), List.forall_mem_cons.mpr ⟨(ch7 203 rfl rfl), List.forall_mem_cons.mpr ⟨(ch5 6 rfl rfl), List.forall_mem_cons.mpr ⟨(ch7 213 rfl rfl), List.forall_mem_cons.mpr ⟨(ch5 14 rfl rfl), List.forall_mem_cons.mpr ⟨(ch7 217 rfl rfl), List.forall_mem_cons.mpr ⟨(ch5 52 rfl rfl), List.forall_mem_cons.mpr ⟨(ch7 232 rfl rfl), List.forall_mem_cons.mpr ⟨(ch5 60 rfl rfl), List.forall_mem_cons.mpr ⟨(ch7 238 rfl rfl), List.forall_mem_cons.mpr ⟨(ch5 85 rfl rfl), List.forall_mem_cons.mpr ⟨(ch8 14 rfl rfl), fun _ h => absurd h List.not_mem_nil⟩⟩⟩⟩⟩⟩⟩⟩⟩⟩⟩⟩⟩⟩⟩⟩
def mlT256 : List (Nat × Nat × Nat) := [(14, 118, 96), (14, 121, 221), (14, 122, 97), (14, 125, 222), (14, 126, 98), (14, 130, 225), (14, 131, 81), (14, 134, 226), (14, 135, 102), (14, 138, 227), (14, 139, 103), (14, 142, 228)]
set_option maxRecDepth 100000 in
theorem mlC256 : ∀ q ∈ mlT256, Cond.methodLink (oNm q.1) q.2.1 (mlN q.2.2) ∈ ALLg := List.forall_mem_cons.mpr ⟨(ch5 31 rfl rfl), List.forall_mem_cons.mpr ⟨(ch8 22 rfl rfl), List.forall_mem_cons.mpr ⟨(ch5 35 rfl rfl), List.forall_mem_cons.mpr ⟨(ch8 26 rfl rfl), List.forall_mem_cons.mpr ⟨(ch5 39 rfl rfl), List.forall_mem_cons.mpr ⟨(ch8 30 rfl rfl), List.forall_mem_cons.mpr ⟨(ch4 11 rfl rfl), List.forall_mem_cons.mpr ⟨(ch8 48 rfl rfl), List.forall_mem_cons.mpr ⟨(ch5 98 rfl rfl), List.forall_mem_cons.mpr ⟨(ch8 52 rfl rfl), List.forall_mem_cons.mpr ⟨(ch5 112 rfl rfl), List.forall_mem_cons.mpr ⟨(ch8 56 rfl rfl), fun _ h => absurd h List.not_mem_nil⟩⟩⟩⟩⟩⟩⟩⟩⟩⟩⟩⟩
def mlTab : List (Nat × Nat × Nat) := mlT0 ++ (mlT16 ++ (mlT32 ++ (mlT48 ++ (mlT64 ++ (mlT80 ++ (mlT96 ++ (mlT112 ++ (mlT128 ++ (mlT144 ++ (mlT160 ++ (mlT176 ++ (mlT192 ++ (mlT208 ++ (mlT224 ++ (mlT240 ++ (mlT256))))))))))))))))
theorem mlOK : ∀ q ∈ mlTab, Cond.methodLink (oNm q.1) q.2.1 (mlN q.2.2) ∈ ALLg := List.forall_mem_append.mpr ⟨mlC0, List.forall_mem_append.mpr ⟨mlC16, List.forall_mem_append.mpr ⟨mlC32, List.forall_mem_append.mpr ⟨mlC48, List.forall_mem_append.mpr ⟨mlC64, List.forall_mem_append.mpr ⟨mlC80, List.forall_mem_append.mpr ⟨mlC96, List.forall_mem_append.mpr ⟨mlC112, List.forall_mem_append.mpr ⟨mlC128, List.forall_mem_append.mpr ⟨mlC144, List.forall_mem_append.mpr ⟨mlC160, List.forall_mem_append.mpr ⟨mlC176, List.forall_mem_append.mpr ⟨mlC192, List.forall_mem_append.mpr ⟨mlC208, List.forall_mem_append.mpr ⟨mlC224, List.forall_mem_append.mpr ⟨mlC240, mlC256⟩⟩⟩⟩⟩⟩⟩⟩⟩⟩⟩⟩⟩⟩⟩⟩
def ctT0 : List (Nat × Nat × Int32) := [(5, 108, 99999), (9, 56, 4000000), (11, 280, (-100000)), (12, 189, 99999), (12, 471, (-100000)), (13, 265, 1431655765), (13, 266, 858993459), (13, 267, 252645135)]
set_option maxRecDepth 100000 in
theorem ctC0 : ∀ q ∈ ctT0, Cond.constant (oNm q.1) q.2.1 q.2.2 ∈ ALLg := List.forall_mem_cons.mpr ⟨(ch3 187 rfl rfl), List.forall_mem_cons.mpr ⟨(ch4 206 rfl rfl), List.forall_mem_cons.mpr ⟨(ch4 235 rfl rfl), List.forall_mem_cons.mpr ⟨(ch6 149 rfl rfl), List.forall_mem_cons.mpr ⟨(ch7 208 rfl rfl), List.forall_mem_cons.mpr ⟨(ch5 3 rfl rfl), List.forall_mem_cons.mpr ⟨(ch5 4 rfl rfl), List.forall_mem_cons.mpr ⟨(ch5 5 rfl rfl), fun _ h => absurd h List.not_mem_nil⟩⟩⟩⟩⟩⟩⟩⟩
def ctTab : List (Nat × Nat × Int32) := ctT0
theorem ctOK : ∀ q ∈ ctTab, Cond.constant (oNm q.1) q.2.1 q.2.2 ∈ ALLg := ctC0
def cwT0 : List (Nat × Nat × Int64) := [(6, 84, 1103515245), (6, 86, 12345), (6, 88, 2147483648), (6, 90, 65536), (6, 92, 100), (12, 143, 495756866664), (12, 145, 1751474548), (12, 147, 6844276), (12, 149, 1852138852), (12, 151, 1818584692), (12, 153, 7364985), (12, 155, 487301145451), (12, 157, 120325344161396), (12, 159, 2003792494), (12, 161, 125797283228787), (12, 163, 512735409267)]
set_option maxRecDepth 100000 in
theorem cwC0 : ∀ q ∈ cwT0, Cond.constantLong (oNm q.1) q.2.1 q.2.2 ∈ ALLg := List.forall_mem_cons.mpr ⟨(ch5 47 rfl rfl), List.forall_mem_cons.mpr ⟨(ch5 48 rfl rfl), List.forall_mem_cons.mpr ⟨(ch5 49 rfl rfl), List.forall_mem_cons.mpr ⟨(ch5 50 rfl rfl), List.forall_mem_cons.mpr ⟨(ch5 51 rfl rfl), List.forall_mem_cons.mpr ⟨(ch6 74 rfl rfl), List.forall_mem_cons.mpr ⟨(ch6 162 rfl rfl), List.forall_mem_cons.mpr ⟨(ch6 163 rfl rfl), List.forall_mem_cons.mpr ⟨(ch6 164 rfl rfl), List.forall_mem_cons.mpr ⟨(ch6 165 rfl rfl), List.forall_mem_cons.mpr ⟨(ch6 166 rfl rfl), List.forall_mem_cons.mpr ⟨(ch6 167 rfl rfl), List.forall_mem_cons.mpr ⟨(ch6 168 rfl rfl), List.forall_mem_cons.mpr ⟨(ch6 169 rfl rfl), List.forall_mem_cons.mpr ⟨(ch6 170 rfl rfl), List.forall_mem_cons.mpr ⟨(ch6 171 rfl rfl), fun _ h => absurd h List.not_mem_nil⟩⟩⟩⟩⟩⟩⟩⟩⟩⟩⟩⟩⟩⟩⟩⟩
def cwT16 : List (Nat × Nat × Int64) := [(12, 165, 1651864174), (12, 167, 1685024357), (12, 209, 7237492), (12, 229, 6385252), (12, 231, 28530), (12, 233, 26982), (12, 245, 1717658469), (12, 247, 1650811243), (12, 249, 1751475564), (12, 251, 2003135588), (12, 256, 126913757866105), (12, 264, 6975330), (12, 272, 1885434484), (12, 277, 126943972911973), (12, 340, 5), (12, 345, 2)]
set_option maxRecDepth 100000 in
theorem cwC16 : ∀ q ∈ cwT16, Cond.constantLong (oNm q.1) q.2.1 q.2.2 ∈ ALLg := List.forall_mem_cons.mpr ⟨(ch6 172 rfl rfl), List.forall_mem_cons.mpr ⟨(ch6 173 rfl rfl), List.forall_mem_cons.mpr ⟨(ch6 183 rfl rfl), List.forall_mem_cons.mpr ⟨(ch6 207 rfl rfl), List.forall_mem_cons.mpr ⟨(ch6 208 rfl rfl), List.forall_mem_cons.mpr ⟨(ch6 174 rfl rfl), List.forall_mem_cons.mpr ⟨(ch6 121 rfl rfl), List.forall_mem_cons.mpr ⟨(ch6 126 rfl rfl), List.forall_mem_cons.mpr ⟨(ch6 127 rfl rfl), List.forall_mem_cons.mpr ⟨(ch6 128 rfl rfl), List.forall_mem_cons.mpr ⟨(ch6 65 rfl rfl), List.forall_mem_cons.mpr ⟨(ch6 75 rfl rfl), List.forall_mem_cons.mpr ⟨(ch6 76 rfl rfl), List.forall_mem_cons.mpr ⟨(ch6 77 rfl rfl), List.forall_mem_cons.mpr ⟨(ch7 17 rfl rfl), List.forall_mem_cons.mpr ⟨(ch7 26 rfl rfl), fun _ h => absurd h List.not_mem_nil⟩⟩⟩⟩⟩⟩⟩⟩⟩⟩⟩⟩⟩⟩⟩⟩
def cwT32 : List (Nat × Nat × Int64) := [(12, 420, 200), (12, 441, 4), (12, 449, 3), (12, 469, 60), (12, 484, 99), (12, 486, 9999), (12, 507, 1103515245), (12, 509, 12345), (12, 511, 2147483648), (12, 513, 65536), (12, 515, 10), (12, 517, 100)]
set_option maxRecDepth 100000 in
theorem cwC32 : ∀ q ∈ cwT32, Cond.constantLong (oNm q.1) q.2.1 q.2.2 ∈ ALLg := List.forall_mem_cons.mpr ⟨(ch7 133 rfl rfl), List.forall_mem_cons.mpr ⟨(ch7 162 rfl rfl), List.forall_mem_cons.mpr ⟨(ch7 179 rfl rfl), List.forall_mem_cons.mpr ⟨(ch7 207 rfl rfl), List.forall_mem_cons.mpr ⟨(ch7 236 rfl rfl), List.forall_mem_cons.mpr ⟨(ch7 237 rfl rfl), List.forall_mem_cons.mpr ⟨(ch8 44 rfl rfl), List.forall_mem_cons.mpr ⟨(ch8 45 rfl rfl), List.forall_mem_cons.mpr ⟨(ch8 46 rfl rfl), List.forall_mem_cons.mpr ⟨(ch8 47 rfl rfl), List.forall_mem_cons.mpr ⟨(ch8 34 rfl rfl), List.forall_mem_cons.mpr ⟨(ch8 35 rfl rfl), fun _ h => absurd h List.not_mem_nil⟩⟩⟩⟩⟩⟩⟩⟩⟩⟩⟩⟩
def cwTab : List (Nat × Nat × Int64) := cwT0 ++ (cwT16 ++ (cwT32))
theorem cwOK : ∀ q ∈ cwTab, Cond.constantLong (oNm q.1) q.2.1 q.2.2 ∈ ALLg := List.forall_mem_append.mpr ⟨cwC0, List.forall_mem_append.mpr ⟨cwC16, cwC32⟩⟩
/-- what must be true of an entry -/
def okB (mi : Nat) (q : Ent) : Bool := match q with
  | (pc, i, len, x, y, _, v, w) => match i with
    | .iload _ | .aload _ | .lload _ => Nat.beq len 2
    | .istore k | .astore k => Nat.beq len 2 && Nat.blt k (mML mi)
    | .lstore k => Nat.beq len 2 && Nat.blt (k + 1) (mML mi)
    | .istore_n k | .astore_n k => Nat.beq len 1 && Nat.blt k.val (mML mi)
    | .lstore_n k => Nat.beq len 1 && Nat.blt (k.val + 1) (mML mi)
    | .iconst n => Nat.beq len 1 && decide (Int32.ofInt n = v)
    | .bipush n => Nat.beq len 2 && decide ((Int8.ofInt n).toInt32 = v)
    | .sipush n => Nat.beq len 3 && decide ((Int16.ofInt n).toInt32 = v)
    | .lconst n => Nat.beq len 1 && decide (Int64.ofNat (n : Nat) = w)
    | .ldc n => Nat.beq len 2 && (match y with
      | 0 => ctTab.contains (mOi mi, n, v)
      | _ => Nat.blt x 7 && decide (oNm (mOi mi) = sOwn x) && Nat.beq n (sIdx x))
    | .ldc_w n => Nat.beq len 3 && ctTab.contains (mOi mi, n, v)
    | .ldc2_w n => Nat.beq len 3 && cwTab.contains (mOi mi, n, w)
    | .iinc k n => Nat.beq len 3 && (decide (Int32.ofInt n = v) && Nat.blt k (mML mi))
    | .goto o | .ifCond _ o | .if_icmp _ o | .ifnonnull o => Nat.beq len 3 && decide ((pc : Int) + o = (x : Int))
    | .tableswitch d lo hi os => decide (hi - lo + 1 = (os.size : Int) ∧ (pc : Int) + d = (x : Int) ∧ (swL mi pc).length = os.size) && (List.range os.size).all (fun j => match os[j]? with | some o => decide ((pc : Int) + o = (((swL mi pc).getD j (0, 0)).2 : Nat) ∧ ((swL mi pc).getD j (0, 0)).1.toInt = lo + j) | none => false)
    | .getfield n => Nat.beq len 3 && (Nat.blt x 13 && (Nat.blt y (nf x) && flTab.contains (mOi mi, n, x, y)))
    | .putfield n => Nat.beq len 3 && (Nat.blt x 13 && (Nat.blt y (nf x) && (flTab.contains (mOi mi, n, x, y) && !((clT x) y).2.2.2)))
    | .invokevirtual n => Nat.beq len 3 && (mlTab.contains (mOi mi, n, x) && (Nat.beq x 910 || (Nat.beq x 911 || (Nat.blt x 230 && (Nat.beq (mKd x) 0 && (Nat.beq (mNa x) y && Nat.blt (mOi x) 13))))))
    | .invokestatic n => Nat.beq len 3 && (mlTab.contains (mOi mi, n, x) && (Nat.beq x 900 || (Nat.beq x 901 || (Nat.blt x 230 && (Nat.beq (mKd x) 1 && Nat.beq (mNa x) y)))))
    | .ireturn => Nat.beq len 1 && (match y with
      | 0 => decide (mRt mi = some .int)
      | _ => decide (mRt mi = some .boolean))
    | .lreturn => Nat.beq len 1 && decide (mRt mi = some .long)
    | .areturn => Nat.beq len 1 && (match mRt mi with
      | some (.object _) => true
      | _ => false)
    | .return_ => Nat.beq len 1 && decide (mRt mi = none)
    | _ => Nat.beq len 1
def retOK (mi : Nat) (i : Instr) (a : Option AV) : Prop := (i = .return_ ∧ a = none ∧ mRt mi = none) ∨ (i = .ireturn ∧ ∃ (n : Int32) (k : Nat), a = some (.int n, k) ∧ (mRt mi = some .int ∨ (mRt mi = some .boolean ∧ (n = 0 ∨ n = 1)))) ∨ (i = .lreturn ∧ ∃ (n : Int64) (k : Nat), a = some (.long n, k) ∧ mRt mi = some .long) ∨ (i = .areturn ∧ ∃ (b k : Nat) (t : String), a = some (.ref b, k) ∧ mRt mi = some (.object t))
theorem mlN_eq {x : Nat} (h : x < 230) : mlN x = mNm x := by
  unfold mlN
  split
  · omega
  · omega
  · omega
  · omega
  · rfl
section SNDX
variable {p : Program} {l : Launch} {e : Env} {R : Room} {s : State} {m : MethodId} {args : Array Value} {below : List Frame} {meth : Method} {c : Code} {cells slots : Nat} {Q : State → Prop}
variable {E : EnvT} {mi h : Nat}
theorem sw_mono {G G' : GT} (hk : ∀ pc lv st σ, G' pc lv st σ → G pc lv st σ) {lv : LVs} {st : List AV} {σ : Mem} {x : Int32} {d : Nat} : ∀ {ts : List (Int32 × Nat)}, swP G' lv st σ x d ts → swP G lv st σ x d ts
  | [], h => hk _ _ _ _ h
  | _ :: _, h => ⟨fun z => hk _ _ _ _ (h.1 z), fun z => sw_mono hk (h.2 z)⟩
theorem clR_oNm {x : Nat} (h : x < 13) : clR x = oNm x := by
  match x, h with
  | 0, _ => rfl
  | 1, _ => rfl
  | 2, _ => rfl
  | 3, _ => rfl
  | 4, _ => rfl
  | 5, _ => rfl
  | 6, _ => rfl
  | 7, _ => rfl
  | 8, _ => rfl
  | 9, _ => rfl
  | 10, _ => rfl
  | 11, _ => rfl
  | 12, _ => rfl
  | n + 13, h => omega
theorem fkRef : ∀ x, x < 13 → ∀ y, y < nf x → (match fk x y with | (t, _, k) => decide (t < 2 ∨ 3 < t ∨ (k ≠ 60 ∧ k ≠ 61 ∧ k ≠ 50))) = true := by decide +kernel
theorem fk4b : ∀ x, x < 13 → ∀ y, y < nf x → decide ((fk x y).1 = 4 → x = 2 ∧ y = 1) = true := by decide +kernel
theorem fld_rel {b x y d k : Nat} (hk : kd b = x) (hx : x < 13) (hy : y < nf x) (hf : fk x y = (2, d, k)) : wk (.ref (b + d), k) ∧ k ≠ 60 ∧ k ≠ 61 ∧ (k ≠ 50 ∨ b + d ≠ 0) := by
  have h1 := lay_ok b (kd_lt (by omega))
  unfold fldOkB at h1
  rw [hk, if_pos hx] at h1
  have h2 := List.all_eq_true.mp h1 y (List.mem_range.mpr hy)
  rw [hf] at h2
  have h3 := fkRef x hx y hy
  rw [hf] at h3
  simp only [decide_eq_true_eq] at h3
  have h4 : k ≠ 60 ∧ k ≠ 61 ∧ k ≠ 50 := by
    rcases h3 with q | q | q
    · omega
    · omega
    · exact q
  exact ⟨wk_of h2, h4.1, h4.2.1, Or.inl h4.2.2⟩
theorem fld_abs {b x y d k : Nat} (hk : kd b = x) (hx : x < 13) (hy : y < nf x) (hf : fk x y = (3, d, k)) : wk (.ref d, k) ∧ k ≠ 60 ∧ k ≠ 61 ∧ (k ≠ 50 ∨ d ≠ 0) := by
  have h1 := lay_ok b (kd_lt (by omega))
  unfold fldOkB at h1
  rw [hk, if_pos hx] at h1
  have h2 := List.all_eq_true.mp h1 y (List.mem_range.mpr hy)
  rw [hf] at h2
  have h3 := fkRef x hx y hy
  rw [hf] at h3
  simp only [decide_eq_true_eq] at h3
  have h4 : k ≠ 60 ∧ k ≠ 61 ∧ k ≠ 50 := by
    rcases h3 with q | q | q
    · omega
    · omega
    · exact q
  exact ⟨wk_of h2, h4.1, h4.2.1, Or.inl h4.2.2⟩
theorem tag_of {x y : Nat} {t : Nat × Nat × Nat} {ty : FieldType} (hx : x < 13) (hy : y < nf x) (hf : fk x y = t) (h : tagOk t (clTy x y) = true → clTy x y = ty := by intro h; simpa [tagOk] using h) : clTy x y = ty := h (hf ▸ (cl_ok x hx).2.2.2.2 y hy)
theorem fk4 : ∀ x i, (fk x i).1 = 4 → x = 2 ∧ i = 1 := by
  intro x i h
  by_cases hx : x < 13
  · by_cases hi : i < nf x
    · have h1 := fk4b x hx i hi
      simp only [decide_eq_true_eq] at h1
      exact h1 h
    · unfold fk at h
      unfold nf at hi
      rw [List.getD_eq_getElem?_getD (l := fkL.getD x []), List.getElem?_eq_none (by omega)] at h
      cases h
  · unfold fk at h
    rw [List.getD_eq_getElem?_getD (l := fkL), List.getElem?_eq_none (show fkL.length ≤ x by have : fkL.length = 13 := rfl; omega)] at h
    cases h
theorem ws_putI (A : Act E mi h p R s m args c cells slots) {pc x y n a kv : Nat} {lv : LVs} {st : List AV} {σ : Mem} {v : Int32} {ty : FieldType} (hd : decode (mCd mi) pc = .ok (.putfield n, 3)) (hx : x < 13) (hy : y < nf x) (hw : Cond.fieldLink (mOw mi) n ((clT x) y).1 ((clT x) y).2.1 ((clT x) y).2.2.1 ∈ ALLg) (hfin : ((clT x) y).2.2.2 = false) (hty : clTy x y = ty) (hn : narrow ty (.int v) = .int v) (hfit : fits ty (.int v) = true) (hf : (fk x y).1 = 0) (k : WG E mi p l e R s m args below meth c cells slots Q (pc + 3) lv st (sI σ a y v)) : WG E mi p l e R s m args below meth c cells slots Q pc lv ((.int v, kv) :: (.ref a, x) :: st) σ := by
  refine ws_putf A hd hx hy hw hfin hty (v := (.int v, kv)) hn hfit (fun _ => ?_) (fun _ i hi => ?_) (fun _ b hb => elt_sI hb) k
  · unfold concF
    rcases hq : fk x y with ⟨t0, t1, t2⟩
    rw [hq] at hf
    cases hf
    show Value.int (gI (sI σ a y v) a y) = .int v
    simp [gI, sI]
  · unfold concF
    rw [show gI (sI σ a y v) a i = gI σ a i from if_neg (fun q => hi q.2)]
    rfl
theorem ws_putL (A : Act E mi h p R s m args c cells slots) {pc x y n a kv k1 k2 : Nat} {lv : LVs} {st : List AV} {σ : Mem} {v : Int64} (hd : decode (mCd mi) pc = .ok (.putfield n, 3)) (hx : x < 13) (hy : y < nf x) (hw : Cond.fieldLink (mOw mi) n ((clT x) y).1 ((clT x) y).2.1 ((clT x) y).2.2.1 ∈ ALLg) (hfin : ((clT x) y).2.2.2 = false) (hty : clTy x y = .long) (hf : fk x y = (1, k1, k2)) (k : WG E mi p l e R s m args below meth c cells slots Q (pc + 3) lv st (sL σ a y v)) : WG E mi p l e R s m args below meth c cells slots Q pc lv ((.long v, kv) :: (.ref a, x) :: st) σ := by
  refine ws_putf A hd hx hy hw hfin hty (v := (.long v, kv)) rfl rfl (fun _ => ?_) (fun _ i hi => ?_) (fun _ b hb => elt_sL hb) k
  · unfold concF
    rw [hf]
    show Value.long (gL (sL σ a y v) a y) = .long v
    simp [gL, sL]
  · unfold concF
    rw [show gL (sL σ a y v) a i = gL σ a i from if_neg (fun q => hi q.2)]
    rfl
theorem concF_R {σ : Mem} {r b x i : Nat} (h : (fk x i).1 ≠ 4) : concF E (sR σ r) b x i = concF E σ b x i := by
  unfold concF
  rcases hq : fk x i with ⟨t0, t1, t2⟩
  rw [hq] at h
  split <;> first | rfl | (rename_i hz; cases hz; exact absurd rfl h)
theorem ws_putR (A : Act E mi h p R s m args c cells slots) {pc x y n a r k1 k2 : Nat} {lv : LVs} {st : List AV} {σ : Mem} (hd : decode (mCd mi) pc = .ok (.putfield n, 3)) (hx : x < 13) (hy : y < nf x) (hw : Cond.fieldLink (mOw mi) n ((clT x) y).1 ((clT x) y).2.1 ((clT x) y).2.2.1 ∈ ALLg) (hfin : ((clT x) y).2.2.2 = false) (hty : clTy x y = .object "OneAnvil$Program") (hf : fk x y = (4, k1, k2)) (k : WG E mi p l e R s m args below meth c cells slots Q (pc + 3) lv st (sR σ r)) : WG E mi p l e R s m args below meth c cells slots Q pc lv ((.ref r, 50) :: (.ref a, x) :: st) σ := by
  have h4 := fk4 x y (by rw [hf])
  refine ws_putf A hd hx hy hw hfin hty (v := (.ref r, 50)) ?_ ?_ (fun _ => ?_) (fun _ i hi => ?_) (fun hka b hb => ?_) k
  · rcases conc_rf E r 50 with ⟨q, hq⟩ | hq <;> rw [hq] <;> rfl
  · rcases conc_rf E r 50 with ⟨q, hq⟩ | hq <;> rw [hq] <;> rfl
  · unfold concF
    rw [hf]
    rfl
  · exact concF_R (fun z => hi (by have := fk4 x i z; omega))
  · unfold elt
    by_cases hkb : kd b < 13
    · rw [if_pos hkb, if_pos hkb]
      congr 2
      apply List.map_congr_left
      intro i hi
      refine concF_R (fun z => ?_)
      have h5 := fk4 _ _ z
      have h6 := forge_one b (kd_lt (by omega)) hkb
      have h7 := forge_one a (kd_lt (by omega)) (by omega)
      have h8 := List.all_eq_true.mp h6 i hi
      have h9 := List.all_eq_true.mp h7 y (List.mem_range.mpr (by rw [hka]; exact hy))
      rw [z] at h8
      rw [hka, hf] at h9
      simp only [Bool.or_eq_true, Bool.not_eq_true'] at h8 h9
      rcases h8 with h8 | h8
      · cases h8
      · rcases h9 with h9 | h9
        · cases h9
        · exact hb ((Nat.eq_of_beq_eq_true h8).trans (Nat.eq_of_beq_eq_true h9).symm)
    · rw [if_neg hkb, if_neg hkb]
      rfl

theorem snd (A : Act E mi h p R s m args c cells slots) (hmi : mi < 231) {RP : Option AV → Mem → Prop} {G' : GT} (hk : ∀ pc lv st σ, G' pc lv st σ → WG E mi p l e R s m args below meth c cells slots Q pc lv st σ)
    (hret : ∀ (a : Option AV) (σ : Mem), RP a σ → (∀ b, a = some b → wk b) → ∀ (pc : Nat) (i : Instr), decode (mCd mi) pc = .ok (i, 1) → retOK mi i a → ∀ (H : Heap) (locs : List Loc) (ls : Array Slot), Rel E σ H → va_S (eA E) s.heap H locs → W p l e R s m args below meth c H locs cells slots Q (F0 m pc ls (a.toList.map (conc E))))
    (q : Ent) (hd : decode (mCd mi) q.1 = .ok (q.2.1, q.2.2.1)) (hq : okB mi q = true) (lv : LVs) (st : List AV) (σ : Mem) (hst : stepP E mi h G' RP q lv st σ) : WG E mi p l e R s m args below meth c cells slots Q q.1 lv st σ := by
  obtain ⟨pc, i, len, x, y, z, v, w⟩ := q
  dsimp only at hd ⊢
  cases i
  case iload k =>
    dsimp only [okB] at hq
    obtain rfl : len = 2 := Nat.eq_of_beq_eq_true hq
    dsimp only [stepP] at hst
    split at hst
    · rename_i hn; exact ws_iload A hd hn (hk _ _ _ _ hst)
    · exact hst.elim
  case iload_n k =>
    dsimp only [okB] at hq
    obtain rfl : len = 1 := Nat.eq_of_beq_eq_true hq
    dsimp only [stepP] at hst
    split at hst
    · rename_i hn; exact ws_iload_n A hd hn (hk _ _ _ _ hst)
    · exact hst.elim
  case aload k =>
    dsimp only [okB] at hq
    obtain rfl : len = 2 := Nat.eq_of_beq_eq_true hq
    dsimp only [stepP] at hst
    split at hst
    · rename_i hn; exact ws_aload A hd hn (hk _ _ _ _ hst)
    · exact hst.elim
  case aload_n k =>
    dsimp only [okB] at hq
    obtain rfl : len = 1 := Nat.eq_of_beq_eq_true hq
    dsimp only [stepP] at hst
    split at hst
    · rename_i hn; exact ws_aload_n A hd hn (hk _ _ _ _ hst)
    · exact hst.elim
  case lload k =>
    dsimp only [okB] at hq
    obtain rfl : len = 2 := Nat.eq_of_beq_eq_true hq
    dsimp only [stepP] at hst
    split at hst
    · rename_i hn; exact ws_lload A hd hn (hk _ _ _ _ hst)
    · exact hst.elim
  case lload_n k =>
    dsimp only [okB] at hq
    obtain rfl : len = 1 := Nat.eq_of_beq_eq_true hq
    dsimp only [stepP] at hst
    split at hst
    · rename_i hn; exact ws_lload_n A hd hn (hk _ _ _ _ hst)
    · exact hst.elim
  case iconst k =>
    dsimp only [okB] at hq
    simp only [Bool.and_eq_true] at hq
    obtain ⟨hlen, hq⟩ := hq
    obtain rfl : len = 1 := Nat.eq_of_beq_eq_true hlen
    dsimp only [stepP] at hst
    exact ws_iconst A hd (of_decide_eq_true hq) (hk _ _ _ _ hst)
  case bipush k =>
    dsimp only [okB] at hq
    simp only [Bool.and_eq_true] at hq
    obtain ⟨hlen, hq⟩ := hq
    obtain rfl : len = 2 := Nat.eq_of_beq_eq_true hlen
    dsimp only [stepP] at hst
    exact ws_bipush A hd (of_decide_eq_true hq) (hk _ _ _ _ hst)
  case sipush k =>
    dsimp only [okB] at hq
    simp only [Bool.and_eq_true] at hq
    obtain ⟨hlen, hq⟩ := hq
    obtain rfl : len = 3 := Nat.eq_of_beq_eq_true hlen
    dsimp only [stepP] at hst
    exact ws_sipush A hd (of_decide_eq_true hq) (hk _ _ _ _ hst)
  case lconst k =>
    dsimp only [okB] at hq
    simp only [Bool.and_eq_true] at hq
    obtain ⟨hlen, hq⟩ := hq
    obtain rfl : len = 1 := Nat.eq_of_beq_eq_true hlen
    dsimp only [stepP] at hst
    exact ws_lconst A hd (of_decide_eq_true hq) (hk _ _ _ _ hst)
  case ldc k =>
    dsimp only [okB] at hq
    simp only [Bool.and_eq_true] at hq
    obtain ⟨hlen, hq⟩ := hq
    obtain rfl : len = 2 := Nat.eq_of_beq_eq_true hlen
    cases y with
    | zero =>
      dsimp only [stepP] at hst
      have hw := ctOK _ (List.contains_iff_mem.mp hq)
      exact ws_ldc A hd (by rw [mOw_oi mi hmi]; exact hw) (hk _ _ _ _ hst)
    | succ y =>
      dsimp only [stepP] at hst
      simp only [Bool.and_eq_true, decide_eq_true_eq] at hq
      obtain ⟨⟨h1, h2⟩, h3⟩ := hq
      exact ws_ldcS A hd (Nat.blt_eq.mp h1) (by rw [mOw_oi mi hmi]; exact h2) (Nat.eq_of_beq_eq_true h3) (hk _ _ _ _ hst)
  case ldc_w k =>
    dsimp only [okB] at hq
    simp only [Bool.and_eq_true] at hq
    obtain ⟨hlen, hq⟩ := hq
    obtain rfl : len = 3 := Nat.eq_of_beq_eq_true hlen
    dsimp only [stepP] at hst
    have hw := ctOK _ (List.contains_iff_mem.mp hq)
    exact ws_ldc_w A hd (by rw [mOw_oi mi hmi]; exact hw) (hk _ _ _ _ hst)
  case ldc2_w k =>
    dsimp only [okB] at hq
    simp only [Bool.and_eq_true] at hq
    obtain ⟨hlen, hq⟩ := hq
    obtain rfl : len = 3 := Nat.eq_of_beq_eq_true hlen
    dsimp only [stepP] at hst
    have hw := cwOK _ (List.contains_iff_mem.mp hq)
    exact ws_ldc2 A hd (by rw [mOw_oi mi hmi]; exact hw) (hk _ _ _ _ hst)
  case aconst_null =>
    dsimp only [okB] at hq
    obtain rfl : len = 1 := Nat.eq_of_beq_eq_true hq
    dsimp only [stepP] at hst
    exact ws_null A hd (hk _ _ _ _ hst)
  case istore k =>
    dsimp only [okB] at hq
    simp only [Bool.and_eq_true] at hq
    obtain ⟨hlen, hq⟩ := hq
    obtain rfl : len = 2 := Nat.eq_of_beq_eq_true hlen
    dsimp only [stepP] at hst
    split at hst
    · exact ws_istore A hd (Nat.blt_eq.mp hq) (hk _ _ _ _ hst)
    · exact hst.elim
  case istore_n k =>
    dsimp only [okB] at hq
    simp only [Bool.and_eq_true] at hq
    obtain ⟨hlen, hq⟩ := hq
    obtain rfl : len = 1 := Nat.eq_of_beq_eq_true hlen
    dsimp only [stepP] at hst
    split at hst
    · exact ws_istore_n A hd (Nat.blt_eq.mp hq) (hk _ _ _ _ hst)
    · exact hst.elim
  case astore k =>
    dsimp only [okB] at hq
    simp only [Bool.and_eq_true] at hq
    obtain ⟨hlen, hq⟩ := hq
    obtain rfl : len = 2 := Nat.eq_of_beq_eq_true hlen
    dsimp only [stepP] at hst
    split at hst
    · exact ws_astore A hd (Nat.blt_eq.mp hq) (hk _ _ _ _ hst)
    · exact hst.elim
  case astore_n k =>
    dsimp only [okB] at hq
    simp only [Bool.and_eq_true] at hq
    obtain ⟨hlen, hq⟩ := hq
    obtain rfl : len = 1 := Nat.eq_of_beq_eq_true hlen
    dsimp only [stepP] at hst
    split at hst
    · exact ws_astore_n A hd (Nat.blt_eq.mp hq) (hk _ _ _ _ hst)
    · exact hst.elim
  case lstore k =>
    dsimp only [okB] at hq
    simp only [Bool.and_eq_true] at hq
    obtain ⟨hlen, hq⟩ := hq
    obtain rfl : len = 2 := Nat.eq_of_beq_eq_true hlen
    dsimp only [stepP] at hst
    split at hst
    · exact ws_lstore A hd (Nat.blt_eq.mp hq) (hk _ _ _ _ hst)
    · exact hst.elim
  case lstore_n k =>
    dsimp only [okB] at hq
    simp only [Bool.and_eq_true] at hq
    obtain ⟨hlen, hq⟩ := hq
    obtain rfl : len = 1 := Nat.eq_of_beq_eq_true hlen
    dsimp only [stepP] at hst
    split at hst
    · exact ws_lstore_n A hd (Nat.blt_eq.mp hq) (hk _ _ _ _ hst)
    · exact hst.elim
  case iinc k n =>
    dsimp only [okB] at hq
    simp only [Bool.and_eq_true] at hq
    obtain ⟨hlen, hq⟩ := hq
    obtain rfl : len = 3 := Nat.eq_of_beq_eq_true hlen
    dsimp only [stepP] at hst
    simp only [Bool.and_eq_true, decide_eq_true_eq] at hq
    split at hst
    · rename_i hn; exact ws_iinc A hd hn hq.1 (Nat.blt_eq.mp hq.2) (hk _ _ _ _ hst)
    · exact hst.elim
  case iadd =>
    dsimp only [okB] at hq
    obtain rfl : len = 1 := Nat.eq_of_beq_eq_true hq
    dsimp only [stepP] at hst
    split at hst
    · exact ws_iadd A hd (hk _ _ _ _ hst)
    · exact hst.elim
  case isub =>
    dsimp only [okB] at hq
    obtain rfl : len = 1 := Nat.eq_of_beq_eq_true hq
    dsimp only [stepP] at hst
    split at hst
    · exact ws_isub A hd (hk _ _ _ _ hst)
    · exact hst.elim
  case imul =>
    dsimp only [okB] at hq
    obtain rfl : len = 1 := Nat.eq_of_beq_eq_true hq
    dsimp only [stepP] at hst
    split at hst
    · exact ws_imul A hd (hk _ _ _ _ hst)
    · exact hst.elim
  case iand =>
    dsimp only [okB] at hq
    obtain rfl : len = 1 := Nat.eq_of_beq_eq_true hq
    dsimp only [stepP] at hst
    split at hst
    · exact ws_iand A hd (hk _ _ _ _ hst)
    · exact hst.elim
  case ior =>
    dsimp only [okB] at hq
    obtain rfl : len = 1 := Nat.eq_of_beq_eq_true hq
    dsimp only [stepP] at hst
    split at hst
    · exact ws_ior A hd (hk _ _ _ _ hst)
    · exact hst.elim
  case ixor =>
    dsimp only [okB] at hq
    obtain rfl : len = 1 := Nat.eq_of_beq_eq_true hq
    dsimp only [stepP] at hst
    split at hst
    · exact ws_ixor A hd (hk _ _ _ _ hst)
    · exact hst.elim
  case ishl =>
    dsimp only [okB] at hq
    obtain rfl : len = 1 := Nat.eq_of_beq_eq_true hq
    dsimp only [stepP] at hst
    split at hst
    · exact ws_ishl A hd (hk _ _ _ _ hst)
    · exact hst.elim
  case ishr =>
    dsimp only [okB] at hq
    obtain rfl : len = 1 := Nat.eq_of_beq_eq_true hq
    dsimp only [stepP] at hst
    split at hst
    · exact ws_ishr A hd (hk _ _ _ _ hst)
    · exact hst.elim
  case iushr =>
    dsimp only [okB] at hq
    obtain rfl : len = 1 := Nat.eq_of_beq_eq_true hq
    dsimp only [stepP] at hst
    split at hst
    · exact ws_iushr A hd (hk _ _ _ _ hst)
    · exact hst.elim
  case ladd =>
    dsimp only [okB] at hq
    obtain rfl : len = 1 := Nat.eq_of_beq_eq_true hq
    dsimp only [stepP] at hst
    split at hst
    · exact ws_ladd A hd (hk _ _ _ _ hst)
    · exact hst.elim
  case lsub =>
    dsimp only [okB] at hq
    obtain rfl : len = 1 := Nat.eq_of_beq_eq_true hq
    dsimp only [stepP] at hst
    split at hst
    · exact ws_lsub A hd (hk _ _ _ _ hst)
    · exact hst.elim
  case lmul =>
    dsimp only [okB] at hq
    obtain rfl : len = 1 := Nat.eq_of_beq_eq_true hq
    dsimp only [stepP] at hst
    split at hst
    · exact ws_lmul A hd (hk _ _ _ _ hst)
    · exact hst.elim
  case land =>
    dsimp only [okB] at hq
    obtain rfl : len = 1 := Nat.eq_of_beq_eq_true hq
    dsimp only [stepP] at hst
    split at hst
    · exact ws_land A hd (hk _ _ _ _ hst)
    · exact hst.elim
  case lor =>
    dsimp only [okB] at hq
    obtain rfl : len = 1 := Nat.eq_of_beq_eq_true hq
    dsimp only [stepP] at hst
    split at hst
    · exact ws_lor A hd (hk _ _ _ _ hst)
    · exact hst.elim
  case lshl =>
    dsimp only [okB] at hq
    obtain rfl : len = 1 := Nat.eq_of_beq_eq_true hq
    dsimp only [stepP] at hst
    split at hst
    · exact ws_lshl A hd (hk _ _ _ _ hst)
    · exact hst.elim
  case lcmp =>
    dsimp only [okB] at hq
    obtain rfl : len = 1 := Nat.eq_of_beq_eq_true hq
    dsimp only [stepP] at hst
    split at hst
    · exact ws_lcmp A hd (hk _ _ _ _ hst)
    · exact hst.elim
  case i2l =>
    dsimp only [okB] at hq
    obtain rfl : len = 1 := Nat.eq_of_beq_eq_true hq
    dsimp only [stepP] at hst
    split at hst
    · exact ws_i2l A hd (hk _ _ _ _ hst)
    · exact hst.elim
  case i2b =>
    dsimp only [okB] at hq
    obtain rfl : len = 1 := Nat.eq_of_beq_eq_true hq
    dsimp only [stepP] at hst
    split at hst
    · exact ws_i2b A hd (hk _ _ _ _ hst)
    · exact hst.elim
  case l2i =>
    dsimp only [okB] at hq
    obtain rfl : len = 1 := Nat.eq_of_beq_eq_true hq
    dsimp only [stepP] at hst
    split at hst
    · exact ws_l2i A hd (hk _ _ _ _ hst)
    · exact hst.elim
  case dup2 =>
    dsimp only [okB] at hq
    obtain rfl : len = 1 := Nat.eq_of_beq_eq_true hq
    dsimp only [stepP] at hst
    split at hst
    · exact ws_dup2 A hd (hk _ _ _ _ hst)
    · exact hst.elim
  case pop =>
    dsimp only [okB] at hq
    obtain rfl : len = 1 := Nat.eq_of_beq_eq_true hq
    dsimp only [stepP] at hst
    split at hst
    · exact ws_pop A hd (hk _ _ _ _ hst)
    · exact hst.elim
  case idiv =>
    dsimp only [okB] at hq
    obtain rfl : len = 1 := Nat.eq_of_beq_eq_true hq
    dsimp only [stepP] at hst
    split at hst
    · exact ws_idiv A hd hst.1 (hk _ _ _ _ hst.2)
    · exact hst.elim
  case irem =>
    dsimp only [okB] at hq
    obtain rfl : len = 1 := Nat.eq_of_beq_eq_true hq
    dsimp only [stepP] at hst
    split at hst
    · exact ws_irem A hd hst.1 (hk _ _ _ _ hst.2)
    · exact hst.elim
  case ldiv =>
    dsimp only [okB] at hq
    obtain rfl : len = 1 := Nat.eq_of_beq_eq_true hq
    dsimp only [stepP] at hst
    split at hst
    · exact ws_ldiv A hd hst.1 (hk _ _ _ _ hst.2)
    · exact hst.elim
  case lrem =>
    dsimp only [okB] at hq
    obtain rfl : len = 1 := Nat.eq_of_beq_eq_true hq
    dsimp only [stepP] at hst
    split at hst
    · exact ws_lrem A hd hst.1 (hk _ _ _ _ hst.2)
    · exact hst.elim
  case dup =>
    dsimp only [okB] at hq
    obtain rfl : len = 1 := Nat.eq_of_beq_eq_true hq
    dsimp only [stepP] at hst
    split at hst
    · exact ws_dup_i A hd (hk _ _ _ _ hst)
    · exact ws_dup_r A hd (hk _ _ _ _ hst)
    · exact hst.elim
  case goto o =>
    dsimp only [okB] at hq
    simp only [Bool.and_eq_true] at hq
    obtain ⟨hlen, hq⟩ := hq
    obtain rfl : len = 3 := Nat.eq_of_beq_eq_true hlen
    dsimp only [stepP] at hst
    exact ws_goto A hd (of_decide_eq_true hq) (hk _ _ _ _ hst)
  case ifCond k o =>
    dsimp only [okB] at hq
    simp only [Bool.and_eq_true] at hq
    obtain ⟨hlen, hq⟩ := hq
    obtain rfl : len = 3 := Nat.eq_of_beq_eq_true hlen
    dsimp only [stepP] at hst
    have ht := of_decide_eq_true hq
    split at hst
    · cases k
      · exact ws_if_eq A hd ht ⟨fun z => hk _ _ _ _ (hst.1 z), fun z => hk _ _ _ _ (hst.2 z)⟩
      · exact ws_if_ne A hd ht ⟨fun z => hk _ _ _ _ (hst.1 z), fun z => hk _ _ _ _ (hst.2 z)⟩
      · exact ws_if_lt A hd ht ⟨fun z => hk _ _ _ _ (hst.1 z), fun z => hk _ _ _ _ (hst.2 z)⟩
      · exact ws_if_ge A hd ht ⟨fun z => hk _ _ _ _ (hst.1 z), fun z => hk _ _ _ _ (hst.2 z)⟩
      · exact ws_if_gt A hd ht ⟨fun z => hk _ _ _ _ (hst.1 z), fun z => hk _ _ _ _ (hst.2 z)⟩
      · exact ws_if_le A hd ht ⟨fun z => hk _ _ _ _ (hst.1 z), fun z => hk _ _ _ _ (hst.2 z)⟩
    · exact hst.elim
  case if_icmp k o =>
    dsimp only [okB] at hq
    simp only [Bool.and_eq_true] at hq
    obtain ⟨hlen, hq⟩ := hq
    obtain rfl : len = 3 := Nat.eq_of_beq_eq_true hlen
    dsimp only [stepP] at hst
    have ht := of_decide_eq_true hq
    split at hst
    · cases k
      · exact ws_ic_eq A hd ht ⟨fun z => hk _ _ _ _ (hst.1 z), fun z => hk _ _ _ _ (hst.2 z)⟩
      · exact ws_ic_ne A hd ht ⟨fun z => hk _ _ _ _ (hst.1 z), fun z => hk _ _ _ _ (hst.2 z)⟩
      · exact ws_ic_lt A hd ht ⟨fun z => hk _ _ _ _ (hst.1 z), fun z => hk _ _ _ _ (hst.2 z)⟩
      · exact ws_ic_ge A hd ht ⟨fun z => hk _ _ _ _ (hst.1 z), fun z => hk _ _ _ _ (hst.2 z)⟩
      · exact ws_ic_gt A hd ht ⟨fun z => hk _ _ _ _ (hst.1 z), fun z => hk _ _ _ _ (hst.2 z)⟩
      · exact ws_ic_le A hd ht ⟨fun z => hk _ _ _ _ (hst.1 z), fun z => hk _ _ _ _ (hst.2 z)⟩
    · exact hst.elim
  case ifnonnull o =>
    dsimp only [okB] at hq
    simp only [Bool.and_eq_true] at hq
    obtain ⟨hlen, hq⟩ := hq
    obtain rfl : len = 3 := Nat.eq_of_beq_eq_true hlen
    dsimp only [stepP] at hst
    have ht := of_decide_eq_true hq
    split at hst
    · rename_i a kk st2
      cases hb : Nat.beq kk 50 with
      | false => rw [hb] at hst; exact hst.elim
      | true =>
        rw [hb] at hst
        obtain rfl := Nat.eq_of_beq_eq_true hb
        exact ws_ifnn A hd ht ⟨fun z => hk _ _ _ _ (hst.1 z), fun z => hk _ _ _ _ (hst.2 z)⟩
    · exact hst.elim
  case tableswitch d lo hi os =>
    dsimp only [okB] at hq
    simp only [Bool.and_eq_true, decide_eq_true_eq] at hq
    obtain ⟨⟨h2, h5, h6⟩, h7⟩ := hq
    dsimp only [stepP] at hst
    split at hst
    · refine ws_switch A hd h2 h5 (fun j hj => ?_) h6 (sw_mono hk hst)
      have h8 := List.all_eq_true.mp h7 j (List.mem_range.mpr hj)
      revert h8
      cases os[j]? with
      | none => intro h8; cases h8
      | some o => intro h8; exact ⟨o, rfl, of_decide_eq_true h8⟩
    · exact hst.elim
  case arraylength =>
    dsimp only [okB] at hq
    obtain rfl : len = 1 := Nat.eq_of_beq_eq_true hq
    dsimp only [stepP] at hst
    split at hst
    · rename_i b k st2
      cases hb : Nat.beq k 60 with
      | true =>
        rw [hb] at hst
        obtain rfl := Nat.eq_of_beq_eq_true hb
        exact ws_slen A hd (hk _ _ _ _ hst)
      | false =>
        rw [hb] at hst
        rcases ha : ak k with ⟨t, n, f, s2, e2⟩
        rw [ha] at hst
        dsimp only [cond_false] at hst
        cases h8 : Nat.blt t 8 with
        | false => rw [h8] at hst; exact hst.elim
        | true => rw [h8] at hst; exact ws_alen A hd ha (Nat.blt_eq.mp h8) rfl (hk _ _ _ _ hst)
    · exact hst.elim
  case iaload =>
    dsimp only [okB] at hq
    obtain rfl : len = 1 := Nat.eq_of_beq_eq_true hq
    dsimp only [stepP] at hst
    split at hst
    · rename_i j n b k st2
      cases hb : Nat.beq k 60 with
      | true =>
        rw [hb] at hst
        obtain rfl := Nat.eq_of_beq_eq_true hb
        exact ws_sld A hd hst.1 (hk _ _ _ _ hst.2)
      | false =>
        rw [hb] at hst
        dsimp only [cond_false] at hst
        split at hst
        · rename_i ha; exact ws_iald A hd ha hst.1 (hk _ _ _ _ hst.2)
        · exact hst.elim
    · exact hst.elim
  case baload =>
    dsimp only [okB] at hq
    obtain rfl : len = 1 := Nat.eq_of_beq_eq_true hq
    dsimp only [stepP] at hst
    split at hst
    · split at hst
      · rename_i ha; exact ws_bald A hd ha hst.1 (hk _ _ _ _ hst.2)
      · rename_i ha; exact ws_zald A hd ha hst.1 (hk _ _ _ _ hst.2)
      · exact hst.elim
    · exact hst.elim
  case laload =>
    dsimp only [okB] at hq
    obtain rfl : len = 1 := Nat.eq_of_beq_eq_true hq
    dsimp only [stepP] at hst
    split at hst
    · split at hst
      · rename_i ha; exact ws_lald A hd ha hst.1 (hk _ _ _ _ hst.2)
      · exact hst.elim
    · exact hst.elim
  case aaload =>
    dsimp only [okB] at hq
    obtain rfl : len = 1 := Nat.eq_of_beq_eq_true hq
    dsimp only [stepP] at hst
    split at hst
    · rename_i j n b k st2
      rcases ha : ak k with ⟨t, n, f, s2, e2⟩
      rw [ha] at hst
      dsimp only at hst
      simp only [cond_eq_ite, Bool.and_eq_true] at hst
      split at hst
      · rename_i hc; exact ws_aald A hd ha (Nat.ble_eq.mp hc.1) (Nat.blt_eq.mp hc.2) hst.1 (hk _ _ _ _ hst.2)
      · exact hst.elim
    · exact hst.elim
  case iastore =>
    dsimp only [okB] at hq
    obtain rfl : len = 1 := Nat.eq_of_beq_eq_true hq
    dsimp only [stepP] at hst
    split at hst
    · split at hst
      · rename_i ha; exact ws_iast A hd ha hst.1 (hk _ _ _ _ hst.2)
      · exact hst.elim
    · exact hst.elim
  case bastore =>
    dsimp only [okB] at hq
    obtain rfl : len = 1 := Nat.eq_of_beq_eq_true hq
    dsimp only [stepP] at hst
    split at hst
    · split at hst
      · rename_i ha; exact ws_bast A hd ha hst.1 (hk _ _ _ _ hst.2)
      · rename_i ha; exact ws_zast A hd ha hst.1 (hk _ _ _ _ hst.2)
      · exact hst.elim
    · exact hst.elim
  case lastore =>
    dsimp only [okB] at hq
    obtain rfl : len = 1 := Nat.eq_of_beq_eq_true hq
    dsimp only [stepP] at hst
    split at hst
    · split at hst
      · rename_i ha; exact ws_last A hd ha hst.1 (hk _ _ _ _ hst.2)
      · exact hst.elim
    · exact hst.elim
  case getfield n =>
    dsimp only [okB] at hq
    simp only [Bool.and_eq_true] at hq
    obtain ⟨hlen, hq⟩ := hq
    obtain rfl : len = 3 := Nat.eq_of_beq_eq_true hlen
    dsimp only [stepP] at hst
    try simp only [Bool.and_eq_true] at hq
    obtain ⟨h1, h2, h3⟩ := hq
    have hw := flOK _ (List.contains_iff_mem.mp h3)
    have hx := Nat.blt_eq.mp h1
    have hy := Nat.blt_eq.mp h2
    split at hst
    · rename_i b k st2
      cases hb : Nat.beq k x with
      | false => rw [hb] at hst; exact hst.elim
      | true =>
        rw [hb] at hst
        obtain rfl := Nat.eq_of_beq_eq_true hb
        dsimp only [cond_true] at hst
        split at hst
        · rename_i hf; exact ws_getf A hd hx hy (by rw [mOw_oi mi hmi]; exact hw) (v := (.int (gI σ b y), 0)) (fun _ => by unfold concF; rw [hf]; rfl) (fun _ => trivial) (hk _ _ _ _ hst)
        · rename_i hf; exact ws_getf A hd hx hy (by rw [mOw_oi mi hmi]; exact hw) (v := (.long (gL σ b y), 0)) (fun _ => by unfold concF; rw [hf]; rfl) (fun _ => trivial) (hk _ _ _ _ hst)
        · rename_i d k2 hf; exact ws_getf A hd hx hy (by rw [mOw_oi mi hmi]; exact hw) (v := (.ref (b + d), k2)) (fun hkd => by have := fld_rel hkd hx hy hf; rw [conc_o E this.2.1 this.2.2.1 this.2.2.2]; unfold concF; rw [hf]; rfl) (fun hkd => (fld_rel hkd hx hy hf).1) (hk _ _ _ _ hst)
        · rename_i d k2 hf; exact ws_getf A hd hx hy (by rw [mOw_oi mi hmi]; exact hw) (v := (.ref d, k2)) (fun hkd => by have := fld_abs hkd hx hy hf; rw [conc_o E this.2.1 this.2.2.1 this.2.2.2]; unfold concF; rw [hf]; rfl) (fun hkd => (fld_abs hkd hx hy hf).1) (hk _ _ _ _ hst)
        · rename_i hf; exact ws_getf A hd hx hy (by rw [mOw_oi mi hmi]; exact hw) (v := (.ref (gR σ), 50)) (fun _ => by unfold concF; rw [hf]; rfl) (fun _ => Or.inr (Or.inr (Or.inl ⟨rfl, hst.1⟩))) (hk _ _ _ _ hst.2)
        · exact hst.elim
    · exact hst.elim
  case putfield n =>
    dsimp only [okB] at hq
    simp only [Bool.and_eq_true] at hq
    obtain ⟨hlen, hq⟩ := hq
    obtain rfl : len = 3 := Nat.eq_of_beq_eq_true hlen
    dsimp only [stepP] at hst
    try simp only [Bool.and_eq_true, Bool.not_eq_true'] at hq
    obtain ⟨h1, h2, h3, h4⟩ := hq
    have hw := flOK _ (List.contains_iff_mem.mp h3)
    have hx := Nat.blt_eq.mp h1
    have hy := Nat.blt_eq.mp h2
    split at hst
    · rename_i a ka b k st2
      cases hb : Nat.beq k x with
      | false => rw [hb] at hst; exact hst.elim
      | true =>
        rw [hb] at hst
        obtain rfl := Nat.eq_of_beq_eq_true hb
        dsimp only [cond_true] at hst
        split at hst
        · rename_i hf; exact ws_putI A hd hx hy (by rw [mOw_oi mi hmi]; exact hw) h4 (ty := .int) (tag_of hx hy hf) rfl rfl (by rw [hf]) (hk _ _ _ _ hst)
        · rename_i hf; exact ws_putI A hd hx hy (by rw [mOw_oi mi hmi]; exact hw) h4 (ty := .boolean) (tag_of hx hy hf) (by rcases hst.1 with z | z <;> subst z <;> decide) (by rcases hst.1 with z | z <;> subst z <;> decide) (by rw [hf]) (hk _ _ _ _ hst.2)
        · exact hst.elim
    · rename_i a ka b k st2
      cases hb : Nat.beq k x with
      | false => rw [hb] at hst; exact hst.elim
      | true =>
        rw [hb] at hst
        obtain rfl := Nat.eq_of_beq_eq_true hb
        dsimp only [cond_true] at hst
        split at hst
        · rename_i hf; exact ws_putL A hd hx hy (by rw [mOw_oi mi hmi]; exact hw) h4 (tag_of hx hy hf) hf (hk _ _ _ _ hst)
        · exact hst.elim
    · rename_i r b k st2
      cases hb : Nat.beq k x with
      | false => rw [hb] at hst; exact hst.elim
      | true =>
        rw [hb] at hst
        obtain rfl := Nat.eq_of_beq_eq_true hb
        dsimp only [cond_true] at hst
        split at hst
        · rename_i hf; exact ws_putR A hd hx hy (by rw [mOw_oi mi hmi]; exact hw) h4 (tag_of hx hy hf) hf (hk _ _ _ _ hst)
        · exact hst.elim
    · exact hst.elim
  case invokevirtual n =>
    dsimp only [okB] at hq
    simp only [Bool.and_eq_true] at hq
    obtain ⟨hlen, hq⟩ := hq
    obtain rfl : len = 3 := Nat.eq_of_beq_eq_true hlen
    dsimp only [stepP] at hst
    simp only [Bool.and_eq_true, Bool.or_eq_true] at hq
    obtain ⟨h1, h2⟩ := hq
    have hw := mlOK _ (List.contains_iff_mem.mp h1)
    split at hst
    · split at hst
      · simp only [cond_eq_ite, Bool.and_eq_true] at hst
        split at hst
        · rename_i hc; exact ws_strL A hd (by rw [mOw_oi mi hmi]; exact hw) (Nat.ble_eq.mp hc.1) (Nat.ble_eq.mp hc.2) (hk _ _ _ _ hst)
        · exact hst.elim
      · exact hst.elim
    · split at hst
      · simp only [cond_eq_ite, Bool.and_eq_true] at hst
        split at hst
        · rename_i hc; exact ws_strC A hd (by rw [mOw_oi mi hmi]; exact hw) (Nat.ble_eq.mp hc.1) (Nat.ble_eq.mp hc.2) hst.1 (hk _ _ _ _ hst.2)
        · exact hst.elim
      · exact hst.elim
    · rename_i h910 h911
      split at hst
      · rename_i b k rest hdr
        simp only [cond_eq_ite, Bool.and_eq_true] at hst
        split at hst
        · rename_i hc
          obtain ⟨a, σ2, h3, hM, hh, h50, hg⟩ := hst
          rcases h2 with h2 | h2 | h2
          · exact absurd (Nat.eq_of_beq_eq_true h2) h910
          · exact absurd (Nat.eq_of_beq_eq_true h2) h911
          · obtain ⟨h5, h6, h7, h8⟩ := h2
            have hx := Nat.blt_eq.mp h5
            have hna := Nat.eq_of_beq_eq_true h7
            have hst2 : st = (st.take y).reverse.reverse ++ (.ref b, k) :: rest := by rw [List.reverse_reverse, ← hdr, List.take_append_drop]
            rw [hst2]
            have hlen : (st.take y).reverse.length = mNa x := by
              have : y < st.length := by
                rcases Nat.lt_or_ge y st.length with q | q
                · exact q
                · rw [List.drop_eq_nil_of_le q] at hdr; cases hdr
              rw [List.length_reverse, List.length_take, hna]; omega
            exact ws_inv A hd hx (Nat.eq_of_beq_eq_true h6) hlen (by rw [mOw_oi mi hmi]; rw [mlN_eq hx] at hw; exact hw) ⟨mOi x, Nat.blt_eq.mp h8, Nat.eq_of_beq_eq_true hc.2, (clR_oNm (Nat.blt_eq.mp h8)).trans (mOw_oi x (by omega)).symm⟩ h50 (Nat.ble_eq.mp hc.1) hM hh (hk _ _ _ _ hg)
        · exact hst.elim
      · exact hst.elim
  case invokestatic n =>
    dsimp only [okB] at hq
    simp only [Bool.and_eq_true] at hq
    obtain ⟨hlen, hq⟩ := hq
    obtain rfl : len = 3 := Nat.eq_of_beq_eq_true hlen
    dsimp only [stepP] at hst
    simp only [Bool.and_eq_true, Bool.or_eq_true] at hq
    obtain ⟨h1, h2⟩ := hq
    have hw := mlOK _ (List.contains_iff_mem.mp h1)
    split at hst
    · split at hst
      · simp only [cond_eq_ite, Bool.and_eq_true] at hst
        split at hst
        · rename_i hc; exact ws_max A hd (by rw [mOw_oi mi hmi]; exact hw) (Nat.ble_eq.mp hc.1) (Nat.ble_eq.mp hc.2) (hk _ _ _ _ hst)
        · exact hst.elim
      · exact hst.elim
    · split at hst
      · simp only [cond_eq_ite, Bool.and_eq_true] at hst
        split at hst
        · rename_i hc; exact ws_min A hd (by rw [mOw_oi mi hmi]; exact hw) (Nat.ble_eq.mp hc.1) (Nat.ble_eq.mp hc.2) (hk _ _ _ _ hst)
        · exact hst.elim
      · exact hst.elim
    · rename_i h900 h901
      simp only [cond_eq_ite, Bool.and_eq_true] at hst
      split at hst
      · rename_i hc
        obtain ⟨a, σ2, h3, hM, hh, hg⟩ := hst
        rcases h2 with h2 | h2 | h2
        · exact absurd (Nat.eq_of_beq_eq_true h2) h900
        · exact absurd (Nat.eq_of_beq_eq_true h2) h901
        · obtain ⟨h5, h6, h7⟩ := h2
          have hx := Nat.blt_eq.mp h5
          have hna := Nat.eq_of_beq_eq_true h7
          have hst2 : st = (st.take y).reverse.reverse ++ st.drop y := by rw [List.reverse_reverse, List.take_append_drop]
          have hlen : (st.take y).reverse.length = mNa x := by
            have := Nat.ble_eq.mp hc.2
            rw [List.length_reverse, List.length_take, hna]; omega
          rw [hst2]
          exact ws_invS A hd hx (Nat.eq_of_beq_eq_true h6) hlen (by rw [mOw_oi mi hmi]; rw [mlN_eq hx] at hw; exact hw) (Nat.ble_eq.mp hc.1) hM hh (hk _ _ _ _ hg)
      · exact hst.elim
  case ireturn =>
    dsimp only [okB] at hq
    simp only [Bool.and_eq_true] at hq
    obtain ⟨hlen, hq⟩ := hq
    obtain rfl : len = 1 := Nat.eq_of_beq_eq_true hlen
    cases y with
    | zero =>
      dsimp only [stepP] at hst
      split at hst
      · intro hs hl H locs ls hR hS hlo
        exact hret _ _ hst (fun _ z => by cases z; trivial) pc _ hd (Or.inr (Or.inl ⟨rfl, _, _, rfl, Or.inl (of_decide_eq_true hq)⟩)) H locs ls hR hS
      · exact hst.elim
    | succ y =>
      dsimp only [stepP] at hst
      split at hst
      · intro hs hl H locs ls hR hS hlo
        exact hret _ _ hst.2 (fun _ z => by cases z; trivial) pc _ hd (Or.inr (Or.inl ⟨rfl, _, _, rfl, Or.inr ⟨of_decide_eq_true hq, hst.1⟩⟩)) H locs ls hR hS
      · exact hst.elim
  case lreturn =>
    dsimp only [okB] at hq
    simp only [Bool.and_eq_true] at hq
    obtain ⟨hlen, hq⟩ := hq
    obtain rfl : len = 1 := Nat.eq_of_beq_eq_true hlen
    dsimp only [stepP] at hst
    split at hst
    · intro hs hl H locs ls hR hS hlo
      exact hret _ _ hst (fun _ z => by cases z; trivial) pc _ hd (Or.inr (Or.inr (Or.inl ⟨rfl, _, _, rfl, of_decide_eq_true hq⟩))) H locs ls hR hS
    · exact hst.elim
  case areturn =>
    dsimp only [okB] at hq
    simp only [Bool.and_eq_true] at hq
    obtain ⟨hlen, hq⟩ := hq
    obtain rfl : len = 1 := Nat.eq_of_beq_eq_true hlen
    dsimp only [stepP] at hst
    split at hst
    · intro hs hl H locs ls hR hS hlo
      split at hq
      · rename_i t ht
        exact hret _ _ hst (fun _ z => by cases z; exact wkS_hd hs) pc _ hd (Or.inr (Or.inr (Or.inr ⟨rfl, _, _, _, rfl, ht⟩))) H locs ls hR hS
      · cases hq
    · exact hst.elim
  case return_ =>
    dsimp only [okB] at hq
    simp only [Bool.and_eq_true] at hq
    obtain ⟨hlen, hq⟩ := hq
    obtain rfl : len = 1 := Nat.eq_of_beq_eq_true hlen
    dsimp only [stepP] at hst
    split at hst
    · intro hs hl H locs ls hR hS hlo
      exact hret _ _ hst (fun _ z => by cases z) pc _ hd (Or.inl ⟨rfl, rfl, of_decide_eq_true hq⟩) H locs ls hR hS
    · exact hst.elim
  all_goals exact hst.elim
end SNDX
