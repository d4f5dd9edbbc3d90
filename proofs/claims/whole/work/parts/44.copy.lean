/-! COPIES -/
def Cpy (c0 c1 L : Nat) (σ0 σ : Mem) (D : Nat → Nat → Prop) : Prop := (∀ i j, D i j → gI σ (c0 + i) j = gI σ0 (c1 + i) j) ∧ ∀ i, i ≤ L → gI σ (c1 + i) = gI σ0 (c1 + i)
theorem Cpy.step {c0 c1 L : Nat} {σ0 σ : Mem} {D : Nat → Nat → Prop} (h : Cpy c0 c1 L σ0 σ D) (hd : c0 + L < c1 ∨ c1 + L < c0) (i k : Nat) (hi : i ≤ L) : Cpy c0 c1 L σ0 (sI σ (c0 + i) k (gI σ (c1 + i) k)) (fun a b => D a b ∨ (a = i ∧ b = k)) := by
  refine ⟨fun a b q => ?_, fun a ha => by rw [gI_ne _ _ _ (by omega)]; exact h.2 a ha⟩
  rw [gI_sI]
  by_cases hab : a = i ∧ b = k
  · rw [if_pos ⟨by omega, hab.2⟩, h.2 i hi, hab.1, hab.2]
  · rw [if_neg (fun z => hab ⟨by omega, z.2⟩)]
    exact h.1 a b (q.resolve_right hab)
theorem Cpy.weak {c0 c1 L : Nat} {σ0 σ : Mem} {D D' : Nat → Nat → Prop} (h : Cpy c0 c1 L σ0 σ D) (w : ∀ a b, D' a b → D a b) : Cpy c0 c1 L σ0 σ D' := ⟨fun i j q => h.1 i j (w i j q), h.2⟩
def PRep (c : Nat) (σ : Mem) (D : Nat → Nat → Prop) (A : Dat) : Prop := ∀ i j, D i j → gI σ (c + i) j = w32 (A i j)
theorem PRep.upd {c : Nat} {σ : Mem} {D : Nat → Nat → Prop} {A : Dat} (h : PRep c σ D A) (i k : Nat) {v : Int} (hv : v = A i k) : PRep c (sI σ (c + i) k (w32 v)) (fun a b => D a b ∨ (a = i ∧ b = k)) A := fun a b q => by
  rw [gI_sI]
  by_cases hab : a = i ∧ b = k
  · rw [if_pos ⟨by omega, hab.2⟩, hv, hab.1, hab.2]
  · rw [if_neg (fun z => hab ⟨by omega, z.2⟩)]
    exact h a b (q.resolve_right hab)
theorem PRep.weak {c : Nat} {σ : Mem} {D D' : Nat → Nat → Prop} {A : Dat} (h : PRep c σ D A) (w : ∀ a b, D' a b → D a b) : PRep c σ D' A := fun i j q => h i j (w i j q)
theorem cp_m7_copyFrom_10 {F c0 c1 : Nat} {σ0 : Mem} (hd : c0 + 9 < c1 ∨ c1 + 9 < c0) : ∀ (d n k : Nat) (σ : Mem), k + d = 3 → d < n → Cpy c0 c1 9 σ0 σ (fun a b => (a = 0 ∧ b = 0) ∨ (1 ≤ a ∧ a ≤ 5 ∧ b < k)) → ∃ σ', m7_copyFrom_10 F c0 c1 n (w32 (k : Int)) σ = m7_copyFrom_83 F c0 c1 F (0 : Int32) σ' ∧ Cpy c0 c1 9 σ0 σ' (fun a b => (a = 0 ∧ b = 0) ∨ (1 ≤ a ∧ a ≤ 5 ∧ b < 3)) := by
  intro d
  induction d with
  | zero =>
    intro n k σ h1 h2 h
    obtain ⟨n, rfl⟩ : ∃ k, n = k + 1 := ⟨n - 1, by omega⟩
    refine ⟨σ, ?_, Cpy.weak h (fun a b q => by omega)⟩
    unfold m7_copyFrom_10
    rw [if_pos (by rw [wl_3, w_le (by omega) (by omega) (by omega) (by omega)]; omega)]
  | succ d ih =>
    intro n k σ h1 h2 h
    obtain ⟨n, rfl⟩ : ∃ k, n = k + 1 := ⟨n - 1, by omega⟩
    unfold m7_copyFrom_10
    rw [if_neg (by rw [wl_3, w_le (by omega) (by omega) (by omega) (by omega)]; omega)]
    simp (disch := omega) only [w_inB, gd_T, w_natk, w_succ]
    exact ih n (k + 1) _ (by omega) (by omega) (Cpy.weak (Cpy.step (Cpy.step (Cpy.step (Cpy.step (Cpy.step h hd 1 k (by decide)) hd 2 k (by decide)) hd 3 k (by decide)) hd 4 k (by decide)) hd 5 k (by decide)) (fun a b q => by omega))
theorem cp_m7_copyFrom_83 {F c0 c1 : Nat} {σ0 : Mem} (hd : c0 + 9 < c1 ∨ c1 + 9 < c0) : ∀ (d n k : Nat) (σ : Mem), k + d = 8 → d < n → Cpy c0 c1 9 σ0 σ (fun a b => (a = 0 ∧ b = 0) ∨ (1 ≤ a ∧ a ≤ 5 ∧ b < 3) ∨ (6 ≤ a ∧ a ≤ 8 ∧ b < k)) → ∃ σ', m7_copyFrom_83 F c0 c1 n (w32 (k : Int)) σ = m7_copyFrom_133 F c0 c1 F (0 : Int32) σ' ∧ Cpy c0 c1 9 σ0 σ' (fun a b => (a = 0 ∧ b = 0) ∨ (1 ≤ a ∧ a ≤ 5 ∧ b < 3) ∨ (6 ≤ a ∧ a ≤ 8 ∧ b < 8)) := by
  intro d
  induction d with
  | zero =>
    intro n k σ h1 h2 h
    obtain ⟨n, rfl⟩ : ∃ k, n = k + 1 := ⟨n - 1, by omega⟩
    refine ⟨σ, ?_, Cpy.weak h (fun a b q => by omega)⟩
    unfold m7_copyFrom_83
    rw [if_pos (by rw [wl_8, w_le (by omega) (by omega) (by omega) (by omega)]; omega)]
  | succ d ih =>
    intro n k σ h1 h2 h
    obtain ⟨n, rfl⟩ : ∃ k, n = k + 1 := ⟨n - 1, by omega⟩
    unfold m7_copyFrom_83
    rw [if_neg (by rw [wl_8, w_le (by omega) (by omega) (by omega) (by omega)]; omega)]
    simp (disch := omega) only [w_inB, gd_T, w_natk, w_succ]
    exact ih n (k + 1) _ (by omega) (by omega) (Cpy.weak (Cpy.step (Cpy.step (Cpy.step h hd 6 k (by decide)) hd 7 k (by decide)) hd 8 k (by decide)) (fun a b q => by omega))
theorem cp_m7_copyFrom_133 {F c0 c1 : Nat} {σ0 : Mem} (hd : c0 + 9 < c1 ∨ c1 + 9 < c0) : ∀ (d n k : Nat) (σ : Mem), k + d = 4 → d < n → Cpy c0 c1 9 σ0 σ (fun a b => (a = 0 ∧ b = 0) ∨ (1 ≤ a ∧ a ≤ 5 ∧ b < 3) ∨ (6 ≤ a ∧ a ≤ 8 ∧ b < 8) ∨ (9 ≤ a ∧ a ≤ 9 ∧ b < k)) → ∃ σ', m7_copyFrom_133 F c0 c1 n (w32 (k : Int)) σ = some σ' ∧ Cpy c0 c1 9 σ0 σ' (fun a b => (a = 0 ∧ b = 0) ∨ (1 ≤ a ∧ a ≤ 5 ∧ b < 3) ∨ (6 ≤ a ∧ a ≤ 8 ∧ b < 8) ∨ (9 ≤ a ∧ a ≤ 9 ∧ b < 4)) := by
  intro d
  induction d with
  | zero =>
    intro n k σ h1 h2 h
    obtain ⟨n, rfl⟩ : ∃ k, n = k + 1 := ⟨n - 1, by omega⟩
    refine ⟨σ, ?_, Cpy.weak h (fun a b q => by omega)⟩
    unfold m7_copyFrom_133
    rw [if_pos (by rw [wl_3, w_lt (by omega) (by omega) (by omega) (by omega)]; omega)]
  | succ d ih =>
    intro n k σ h1 h2 h
    obtain ⟨n, rfl⟩ : ∃ k, n = k + 1 := ⟨n - 1, by omega⟩
    unfold m7_copyFrom_133
    rw [if_neg (by rw [wl_3, w_lt (by omega) (by omega) (by omega) (by omega)]; omega)]
    simp (disch := omega) only [w_inB, gd_T, w_natk, w_succ]
    exact ih n (k + 1) _ (by omega) (by omega) (Cpy.weak (Cpy.step h hd 9 k (by decide)) (fun a b q => by omega))
theorem cp_m4_copyFrom_50 {F c0 c1 : Nat} {σ0 : Mem} (hd : c0 + 8 < c1 ∨ c1 + 8 < c0) : ∀ (d n k : Nat) (σ : Mem), k + d = 3 → d < n → Cpy c0 c1 8 σ0 σ (fun a b => (a = 0 ∧ b < 6) ∨ (1 ≤ a ∧ a ≤ 1 ∧ b < k)) → ∃ σ', m4_copyFrom_50 F c0 c1 n (w32 (k : Int)) σ = m4_copyFrom_75 F c0 c1 F (0 : Int32) σ' ∧ Cpy c0 c1 8 σ0 σ' (fun a b => (a = 0 ∧ b < 6) ∨ (1 ≤ a ∧ a ≤ 1 ∧ b < 3)) := by
  intro d
  induction d with
  | zero =>
    intro n k σ h1 h2 h
    obtain ⟨n, rfl⟩ : ∃ k, n = k + 1 := ⟨n - 1, by omega⟩
    refine ⟨σ, ?_, Cpy.weak h (fun a b q => by omega)⟩
    unfold m4_copyFrom_50
    rw [if_pos (by rw [wl_3, w_le (by omega) (by omega) (by omega) (by omega)]; omega)]
  | succ d ih =>
    intro n k σ h1 h2 h
    obtain ⟨n, rfl⟩ : ∃ k, n = k + 1 := ⟨n - 1, by omega⟩
    unfold m4_copyFrom_50
    rw [if_neg (by rw [wl_3, w_le (by omega) (by omega) (by omega) (by omega)]; omega)]
    simp (disch := omega) only [w_inB, gd_T, w_natk, w_succ]
    exact ih n (k + 1) _ (by omega) (by omega) (Cpy.weak (Cpy.step h hd 1 k (by decide)) (fun a b q => by omega))
theorem cp_m4_copyFrom_75 {F c0 c1 : Nat} {σ0 : Mem} (hd : c0 + 8 < c1 ∨ c1 + 8 < c0) : ∀ (d n k : Nat) (σ : Mem), k + d = 8 → d < n → Cpy c0 c1 8 σ0 σ (fun a b => (a = 0 ∧ b < 6) ∨ (1 ≤ a ∧ a ≤ 1 ∧ b < 3) ∨ (2 ≤ a ∧ a ≤ 7 ∧ b < k)) → ∃ σ', m4_copyFrom_75 F c0 c1 n (w32 (k : Int)) σ = m4_copyFrom_161 F c0 c1 F (0 : Int32) σ' ∧ Cpy c0 c1 8 σ0 σ' (fun a b => (a = 0 ∧ b < 6) ∨ (1 ≤ a ∧ a ≤ 1 ∧ b < 3) ∨ (2 ≤ a ∧ a ≤ 7 ∧ b < 8)) := by
  intro d
  induction d with
  | zero =>
    intro n k σ h1 h2 h
    obtain ⟨n, rfl⟩ : ∃ k, n = k + 1 := ⟨n - 1, by omega⟩
    refine ⟨σ, ?_, Cpy.weak h (fun a b q => by omega)⟩
    unfold m4_copyFrom_75
    rw [if_pos (by rw [wl_8, w_le (by omega) (by omega) (by omega) (by omega)]; omega)]
  | succ d ih =>
    intro n k σ h1 h2 h
    obtain ⟨n, rfl⟩ : ∃ k, n = k + 1 := ⟨n - 1, by omega⟩
    unfold m4_copyFrom_75
    rw [if_neg (by rw [wl_8, w_le (by omega) (by omega) (by omega) (by omega)]; omega)]
    simp (disch := omega) only [w_inB, gd_T, w_natk, w_succ]
    exact ih n (k + 1) _ (by omega) (by omega) (Cpy.weak (Cpy.step (Cpy.step (Cpy.step (Cpy.step (Cpy.step (Cpy.step h hd 2 k (by decide)) hd 3 k (by decide)) hd 4 k (by decide)) hd 5 k (by decide)) hd 6 k (by decide)) hd 7 k (by decide)) (fun a b q => by omega))
theorem cp_m4_copyFrom_161 {F c0 c1 : Nat} {σ0 : Mem} (hd : c0 + 8 < c1 ∨ c1 + 8 < c0) : ∀ (d n k : Nat) (σ : Mem), k + d = 3 → d < n → Cpy c0 c1 8 σ0 σ (fun a b => (a = 0 ∧ b < 6) ∨ (1 ≤ a ∧ a ≤ 1 ∧ b < 3) ∨ (2 ≤ a ∧ a ≤ 7 ∧ b < 8) ∨ (8 ≤ a ∧ a ≤ 8 ∧ b < k)) → ∃ σ', m4_copyFrom_161 F c0 c1 n (w32 (k : Int)) σ = some σ' ∧ Cpy c0 c1 8 σ0 σ' (fun a b => (a = 0 ∧ b < 6) ∨ (1 ≤ a ∧ a ≤ 1 ∧ b < 3) ∨ (2 ≤ a ∧ a ≤ 7 ∧ b < 8) ∨ (8 ≤ a ∧ a ≤ 8 ∧ b < 3)) := by
  intro d
  induction d with
  | zero =>
    intro n k σ h1 h2 h
    obtain ⟨n, rfl⟩ : ∃ k, n = k + 1 := ⟨n - 1, by omega⟩
    refine ⟨σ, ?_, Cpy.weak h (fun a b q => by omega)⟩
    unfold m4_copyFrom_161
    rw [if_pos (by rw [wl_3, w_le (by omega) (by omega) (by omega) (by omega)]; omega)]
  | succ d ih =>
    intro n k σ h1 h2 h
    obtain ⟨n, rfl⟩ : ∃ k, n = k + 1 := ⟨n - 1, by omega⟩
    unfold m4_copyFrom_161
    rw [if_neg (by rw [wl_3, w_le (by omega) (by omega) (by omega) (by omega)]; omega)]
    simp (disch := omega) only [w_inB, gd_T, w_natk, w_succ]
    exact ih n (k + 1) _ (by omega) (by omega) (Cpy.weak (Cpy.step h hd 8 k (by decide)) (fun a b q => by omega))
theorem cp_m3_copyFrom_10 {F c0 c1 : Nat} {σ0 : Mem} (hd : c0 + 3 < c1 ∨ c1 + 3 < c0) : ∀ (d n k : Nat) (σ : Mem), k + d = 10 → d < n → Cpy c0 c1 3 σ0 σ (fun a b => (a = 0 ∧ b = 0) ∨ (1 ≤ a ∧ a ≤ 3 ∧ b < k)) → ∃ σ', m3_copyFrom_10 F c0 c1 n (w32 (k : Int)) σ = some σ' ∧ Cpy c0 c1 3 σ0 σ' (fun a b => (a = 0 ∧ b = 0) ∨ (1 ≤ a ∧ a ≤ 3 ∧ b < 10)) := by
  intro d
  induction d with
  | zero =>
    intro n k σ h1 h2 h
    obtain ⟨n, rfl⟩ : ∃ k, n = k + 1 := ⟨n - 1, by omega⟩
    refine ⟨σ, ?_, Cpy.weak h (fun a b q => by omega)⟩
    unfold m3_copyFrom_10
    rw [if_pos (by rw [wl_10, w_le (by omega) (by omega) (by omega) (by omega)]; omega)]
  | succ d ih =>
    intro n k σ h1 h2 h
    obtain ⟨n, rfl⟩ : ∃ k, n = k + 1 := ⟨n - 1, by omega⟩
    unfold m3_copyFrom_10
    rw [if_neg (by rw [wl_10, w_le (by omega) (by omega) (by omega) (by omega)]; omega)]
    simp (disch := omega) only [w_inB, gd_T, w_natk, w_succ]
    exact ih n (k + 1) _ (by omega) (by omega) (Cpy.weak (Cpy.step (Cpy.step (Cpy.step h hd 1 k (by decide)) hd 2 k (by decide)) hd 3 k (by decide)) (fun a b q => by omega))
theorem cpS_ok {F c0 c1 : Nat} {σ : Mem} {A : Dat} (hd : c0 + 9 < c1 ∨ c1 + 9 < c0) (hF : 100 ≤ F) (h : RepS c1 σ A) : ∃ σ', m7_copyFrom F c0 c1 σ = some σ' ∧ RepS c0 σ' A := by
  have h0 : Cpy c0 c1 9 σ (sI σ c0 0 (gI σ c1 0)) (fun a b => (a = 0 ∧ b = 0) ∨ (1 ≤ a ∧ a ≤ 5 ∧ b < 0)) := Cpy.weak (Cpy.step (D := fun _ _ => False) ⟨fun i j q => q.elim, fun i hi => rfl⟩ hd 0 0 (by decide)) (fun a b q => by omega)
  obtain ⟨σ1, m1, h1⟩ := cp_m7_copyFrom_10 (F := F) hd 3 F 0 _ (by omega) (by omega) h0
  obtain ⟨σ2, m2, h2⟩ := cp_m7_copyFrom_83 (F := F) hd 8 F 0 σ1 (by omega) (by omega) (Cpy.weak h1 (fun a b q => by omega))
  obtain ⟨σ3, m3, h3⟩ := cp_m7_copyFrom_133 (F := F) hd 4 F 0 σ2 (by omega) (by omega) (Cpy.weak h2 (fun a b q => by omega))
  refine ⟨σ3, ?_, fun i hi j hj => ?_⟩
  · unfold m7_copyFrom
    rw [show (0 : Int32) = w32 ((0 : Nat) : Int) from rfl]
    refine m1.trans ?_
    rw [show (0 : Int32) = w32 ((0 : Nat) : Int) from rfl, m2, show (0 : Int32) = w32 ((0 : Nat) : Int) from rfl, m3]
  · rw [h3.1 i j (by unfold slen at hj; split at hj; omega; split at hj; omega; split at hj <;> omega)]
    exact h i hi j hj
theorem cpP_ok {F c0 c1 : Nat} {σ : Mem} {P : Dat} (hd : c0 + 8 < c1 ∨ c1 + 8 < c0) (hF : 100 ≤ F) (h : RepP c1 σ P) (ht : P 0 0 = 0 ∨ P 0 0 = 1) : ∃ σ', m4_copyFrom F c0 c1 σ = some σ' ∧ RepP c0 σ' P := by
  have h0 := Cpy.step (Cpy.step (Cpy.step (Cpy.step (Cpy.step (Cpy.step (D := fun _ _ => False) (c0 := c0) (c1 := c1) (L := 8) (σ0 := σ) (σ := σ) ⟨fun i j q => q.elim, fun i hi => rfl⟩ hd 0 0 (by decide)) hd 0 1 (by decide)) hd 0 2 (by decide)) hd 0 3 (by decide)) hd 0 4 (by decide)) hd 0 5 (by decide)
  obtain ⟨σ1, m1, h1⟩ := cp_m4_copyFrom_50 (F := F) hd 3 F 0 _ (by omega) (by omega) (Cpy.weak h0 (fun a b q => by omega))
  obtain ⟨σ2, m2, h2⟩ := cp_m4_copyFrom_75 (F := F) hd 8 F 0 σ1 (by omega) (by omega) (Cpy.weak h1 (fun a b q => by omega))
  obtain ⟨σ3, m3, h3⟩ := cp_m4_copyFrom_161 (F := F) hd 3 F 0 σ2 (by omega) (by omega) (Cpy.weak h2 (fun a b q => by omega))
  refine ⟨σ3, ?_, fun i hi j hj => ?_⟩
  · unfold m4_copyFrom
    have e0 : gI σ c1 0 = w32 (P 0 0) := h.at 0 0
    rw [gd_pos (by rw [e0]; rcases ht with q | q <;> rw [q] <;> decide), show (0 : Int32) = w32 ((0 : Nat) : Int) from rfl]
    refine m1.trans ?_
    rw [show (0 : Int32) = w32 ((0 : Nat) : Int) from rfl, m2, show (0 : Int32) = w32 ((0 : Nat) : Int) from rfl, m3]
  · rw [h3.1 i j (by unfold plen at hj; split at hj; omega; split at hj; omega; split at hj <;> omega)]
    exact h i hi j hj
/-- notes at the cell c: how many; at, part, wear -/
def RepN (c : Nat) (σ : Mem) (N : Dat) : Prop := gI σ c 0 = w32 (N 0 0) ∧ ∀ i, 1 ≤ i → i ≤ 3 → ∀ j, j < 10 → gI σ (c + i) j = w32 (N i j)
theorem RepN.fr {W : Nat → Prop} {σ σ' : Mem} {c : Nat} {N : Dat} (h : RepN c σ N) (f : Fr W σ σ') (hw : ∀ i, i ≤ 3 → ¬ W (c + i)) : RepN c σ' N := ⟨by rw [f.gI (show ¬ W c from hw 0 (by decide))]; exact h.1, fun i h1 h2 j hj => by rw [f.gI (hw i h2)]; exact h.2 i h1 h2 j hj⟩
theorem cpN_ok {F c0 c1 : Nat} {σ : Mem} {N : Dat} (hd : c0 + 3 < c1 ∨ c1 + 3 < c0) (hF : 100 ≤ F) (h : RepN c1 σ N) : ∃ σ', m3_copyFrom F c0 c1 σ = some σ' ∧ RepN c0 σ' N := by
  have h0 : Cpy c0 c1 3 σ (sI σ c0 0 (gI σ c1 0)) (fun a b => (a = 0 ∧ b = 0) ∨ (1 ≤ a ∧ a ≤ 3 ∧ b < 0)) := Cpy.weak (Cpy.step (D := fun _ _ => False) ⟨fun i j q => q.elim, fun i hi => rfl⟩ hd 0 0 (by decide)) (fun a b q => by omega)
  obtain ⟨σ1, m1, h1⟩ := cp_m3_copyFrom_10 (F := F) hd 10 F 0 _ (by omega) (by omega) h0
  refine ⟨σ1, ?_, ?_, fun i q1 q2 j hj => ?_⟩
  · unfold m3_copyFrom
    rw [show (0 : Int32) = w32 ((0 : Nat) : Int) from rfl]
    exact m1
  · exact (h1.1 0 0 (Or.inl ⟨rfl, rfl⟩)).trans h.1
  · rw [h1.1 i j (by omega)]
    exact h.2 i q1 q2 j hj
/-- a state at the begin of a plan -/
def beginA (P : Dat) : Dat := fun i j => if i = 6 then P 5 j else if i = 7 then -1 else if i = 8 then (j : Int) else if i = 9 then (if j < 3 then P 8 j else 0) else 0
theorem bg_7 {F c0 c1 : Nat} {P : Dat} (hd : c0 + 9 < c1 ∨ c1 + 8 < c0) : ∀ (d n k : Nat) (σ : Mem), k + d = 3 → d < n → RepP c1 σ P → PRep c0 σ (fun a b => (a = 0 ∧ b = 0) ∨ (1 ≤ a ∧ a ≤ 5 ∧ b < k)) (beginA P) → ∃ σ', m7_begin_7 F c0 c1 n (w32 (k : Int)) σ = m7_begin_55 F c0 c1 F (0 : Int32) σ' ∧ RepP c1 σ' P ∧ PRep c0 σ' (fun a b => (a = 0 ∧ b = 0) ∨ (1 ≤ a ∧ a ≤ 5 ∧ b < 3)) (beginA P) := by
  intro d
  induction d with
  | zero =>
    intro n k σ h1 h2 hP h
    obtain ⟨n, rfl⟩ : ∃ k, n = k + 1 := ⟨n - 1, by omega⟩
    refine ⟨σ, ?_, hP, PRep.weak h (fun a b q => by omega)⟩
    unfold m7_begin_7
    rw [if_pos (by rw [wl_3, w_le (by omega) (by omega) (by omega) (by omega)]; omega)]
  | succ d ih =>
    intro n k σ h1 h2 hP h
    obtain ⟨n, rfl⟩ : ∃ k, n = k + 1 := ⟨n - 1, by omega⟩
    have e5 := hP.at 5 k (by decide) (by show k < 8; omega)
    unfold m7_begin_7
    rw [if_neg (by rw [wl_3, w_le (by omega) (by omega) (by omega) (by omega)]; omega)]
    simp (disch := omega) only [w_inB, gd_T, w_natk, w_succ, wl_0, wl_m1, e5]
    exact ih n (k + 1) _ (by omega) (by omega) (RepP.ne (RepP.ne (RepP.ne (RepP.ne (RepP.ne hP (by omega)) (by omega)) (by omega)) (by omega)) (by omega)) (PRep.weak (PRep.upd (PRep.upd (PRep.upd (PRep.upd (PRep.upd h 1 k (v := 0) (by unfold beginA; simp)) 2 k (v := 0) (by unfold beginA; simp)) 3 k (v := 0) (by unfold beginA; simp)) 4 k (v := 0) (by unfold beginA; simp)) 5 k (v := 0) (by unfold beginA; simp)) (fun a b q => by omega))
theorem bg_55 {F c0 c1 : Nat} {P : Dat} (hd : c0 + 9 < c1 ∨ c1 + 8 < c0) : ∀ (d n k : Nat) (σ : Mem), k + d = 8 → d < n → RepP c1 σ P → PRep c0 σ (fun a b => (a = 0 ∧ b = 0) ∨ (1 ≤ a ∧ a ≤ 5 ∧ b < 3) ∨ (6 ≤ a ∧ a ≤ 8 ∧ b < k)) (beginA P) → ∃ σ', m7_begin_55 F c0 c1 n (w32 (k : Int)) σ = m7_begin_95 F c0 c1 F (0 : Int32) σ' ∧ RepP c1 σ' P ∧ PRep c0 σ' (fun a b => (a = 0 ∧ b = 0) ∨ (1 ≤ a ∧ a ≤ 5 ∧ b < 3) ∨ (6 ≤ a ∧ a ≤ 8 ∧ b < 8)) (beginA P) := by
  intro d
  induction d with
  | zero =>
    intro n k σ h1 h2 hP h
    obtain ⟨n, rfl⟩ : ∃ k, n = k + 1 := ⟨n - 1, by omega⟩
    refine ⟨σ, ?_, hP, PRep.weak h (fun a b q => by omega)⟩
    unfold m7_begin_55
    rw [if_pos (by rw [wl_8, w_le (by omega) (by omega) (by omega) (by omega)]; omega)]
  | succ d ih =>
    intro n k σ h1 h2 hP h
    obtain ⟨n, rfl⟩ : ∃ k, n = k + 1 := ⟨n - 1, by omega⟩
    have e5 := hP.at 5 k (by decide) (by show k < 8; omega)
    unfold m7_begin_55
    rw [if_neg (by rw [wl_8, w_le (by omega) (by omega) (by omega) (by omega)]; omega)]
    simp (disch := omega) only [w_inB, gd_T, w_natk, w_succ, wl_0, wl_m1, e5]
    exact ih n (k + 1) _ (by omega) (by omega) (RepP.ne (RepP.ne (RepP.ne hP (by omega)) (by omega)) (by omega)) (PRep.weak (PRep.upd (PRep.upd (PRep.upd h 6 k (v := P 5 k) (by unfold beginA; simp)) 7 k (v := -1) (by unfold beginA; simp)) 8 k (v := (k : Int)) (by unfold beginA; simp)) (fun a b q => by omega))
theorem bg_95 {F c0 c1 : Nat} {P : Dat} (hd : c0 + 9 < c1 ∨ c1 + 8 < c0) : ∀ (d n k : Nat) (σ : Mem), k + d = 3 → d < n → RepP c1 σ P → PRep c0 σ (fun a b => (a = 0 ∧ b = 0) ∨ (1 ≤ a ∧ a ≤ 5 ∧ b < 3) ∨ (6 ≤ a ∧ a ≤ 8 ∧ b < 8) ∨ (a = 9 ∧ b < k)) (beginA P) → ∃ σ', m7_begin_95 F c0 c1 n (w32 (k : Int)) σ = some σ' ∧ PRep c0 σ' (fun a b => (a = 0 ∧ b = 0) ∨ (1 ≤ a ∧ a ≤ 5 ∧ b < 3) ∨ (6 ≤ a ∧ a ≤ 8 ∧ b < 8) ∨ (a = 9 ∧ b < 4)) (beginA P) := by
  intro d
  induction d with
  | zero =>
    intro n k σ h1 h2 hP h
    obtain ⟨n, rfl⟩ : ∃ k, n = k + 1 := ⟨n - 1, by omega⟩
    unfold m7_begin_95
    rw [if_pos (by rw [wl_3, w_le (by omega) (by omega) (by omega) (by omega)]; omega), gd_pos (by decide), show (3 : Int32).toNatClampNeg = 3 from rfl, show (0 : Int32) = w32 0 from rfl]
    exact ⟨_, rfl, PRep.weak (PRep.upd h 9 3 (v := 0) (by unfold beginA; simp)) (fun a b q => by omega)⟩
  | succ d ih =>
    intro n k σ h1 h2 hP h
    obtain ⟨n, rfl⟩ : ∃ k, n = k + 1 := ⟨n - 1, by omega⟩
    have e8 := hP.at 8 k (by decide) (by show k < 3; omega)
    unfold m7_begin_95
    rw [if_neg (by rw [wl_3, w_le (by omega) (by omega) (by omega) (by omega)]; omega)]
    simp (disch := omega) only [w_inB, gd_T, w_natk, w_succ, e8]
    exact ih n (k + 1) _ (by omega) (by omega) (hP.ne (by omega)) (PRep.weak (PRep.upd h 9 k (v := P 8 k) (by unfold beginA; simp; omega)) (fun a b q => by omega))
theorem begin_ok {F c0 c1 : Nat} {σ : Mem} {P : Dat} (hd : c0 + 9 < c1 ∨ c1 + 8 < c0) (hF : 100 ≤ F) (hP : RepP c1 σ P) : ∃ σ', m7_begin F c0 c1 σ = some σ' ∧ RepS c0 σ' (beginA P) := by
  have h0 : PRep c0 (sI σ c0 0 (w32 0)) (fun a b => (a = 0 ∧ b = 0) ∨ (1 ≤ a ∧ a ≤ 5 ∧ b < 0)) (beginA P) := PRep.weak (PRep.upd (D := fun _ _ => False) (fun i j q => q.elim) 0 0 (v := 0) (by unfold beginA; simp)) (fun a b q => by omega)
  obtain ⟨σ1, m1, hP1, h1⟩ := bg_7 (F := F) hd 3 F 0 _ (by omega) (by omega) (hP.ne (by omega)) h0
  obtain ⟨σ2, m2, hP2, h2⟩ := bg_55 (F := F) hd 8 F 0 σ1 (by omega) (by omega) hP1 (PRep.weak h1 (fun a b q => by omega))
  obtain ⟨σ3, m3, h3⟩ := bg_95 (F := F) hd 3 F 0 σ2 (by omega) (by omega) hP2 (PRep.weak h2 (fun a b q => by omega))
  refine ⟨σ3, ?_, fun i hi j hj => ?_⟩
  · unfold m7_begin
    rw [show (0 : Int32) = w32 ((0 : Nat) : Int) from rfl]
    refine m1.trans ?_
    rw [show (0 : Int32) = w32 ((0 : Nat) : Int) from rfl, m2, show (0 : Int32) = w32 ((0 : Nat) : Int) from rfl, m3]
  · exact h3 i j (by unfold slen at hj; split at hj; omega; split at hj; omega; split at hj <;> omega)
