/-! TEXTS, 9: the reference reads a whole RULE -/
def oneC (B : Nat → Int) (L i : Nat) (s : St) (M : Dat) : Except Int (St × Dat) :=
  if isK B L kStr (sk B L (sp s)) = true then
    if i = 12 then .error (1 + 8 * (sk B L (sp s) : Int) + ((4 : Nat) : Int))
    else match sumS B L (to s (sk B L (sp s) + rn B L 97 122 (sk B L (sp s)))) with
      | .error f => .error f
      | .ok s2 => match tstS B L s2 with
        | .error f => .error f
        | .ok s3 => .ok (s3, clM M i (sl s) (sl s2) (sl s3))
  else .error (1 + 8 * (sk B L (sp s) : Int) + ((0 : Nat) : Int))
def nxtC (B : Nat → Int) (L d i : Nat) (z : St × Dat) : Rz :=
  if ch B L (sk B L (sp z.1)) = 59 then rulL B L d (i + 1) (to z.1 (sk B L (sp z.1) + 1)) z.2
  else if ch B L (sk B L (sp z.1)) = -1 then .ok (i + 1, to z.1 (sk B L (sp z.1)), z.2)
  else erz (sk B L (sp z.1)) 0
theorem rulL_one {B : Nat → Int} {L d i : Nat} {s : St} {M : Dat} : rulL B L (d + 1) i s M = match oneC B L i s M with
    | .error f => .error f
    | .ok z => nxtC B L d i z := by
  unfold oneC
  rw [rulL]
  split
  · split
    · rfl
    · cases sumS B L (to s (sk B L (sp s) + rn B L 97 122 (sk B L (sp s)))) with
      | error f => rfl
      | ok s2 =>
        dsimp only
        cases tstS B L s2 with
        | error f => rfl
        | ok s3 => rfl
  · rfl
def KK (k : Nat) (σ σ' : Mem) : Prop := KL k σ σ' ∧ (∀ j, j < 48 * k → gI σ' 487 j = gI σ 487 j) ∧ ∀ j, j < k → gI σ' 488 j = gI σ 488 j
theorem KK.rf (k : Nat) (σ : Mem) : KK k σ σ := ⟨KL.rf k σ, fun _ _ => rfl, fun _ _ => rfl⟩
theorem KK.trans {k : Nat} {σ σ1 σ2 : Mem} (h : KK k σ σ1) (g : KK k σ1 σ2) : KK k σ σ2 := ⟨h.1.trans g.1, fun j hj => (g.2.1 j hj).trans (h.2.1 j hj), fun j hj => (g.2.2 j hj).trans (h.2.2 j hj)⟩
theorem KK.of {k : Nat} {σ σ1 : Mem} (h : KL k σ σ1) (h7 : gI σ1 487 = gI σ 487) (h8 : gI σ1 488 = gI σ 488) : KK k σ σ1 := ⟨h, fun j _ => by rw [h7], fun j _ => by rw [h8]⟩
theorem Qs.kk {k : Nat} {σ σ1 : Mem} (h : Qs σ σ1) : KK k σ σ1 := KK.of h.k (h.c (by decide)) (h.c (by decide))
theorem KK.s {k : Nat} {σ σ1 : Mem} (h : KK k σ σ1) {c j : Nat} {v : Int32} (hc : (c ≠ 485 ∧ c ≠ 487 ∧ c ≠ 488) ∨ (c = 487 ∧ 48 * k ≤ j) ∨ (c = 488 ∧ k ≤ j)) : KK k σ (sI σ1 c j v) := by
  refine ⟨fun j' hj => ?_, fun j' hj => ?_, fun j' hj => ?_⟩
  · rw [gI_sI, if_neg (by omega)]; exact h.1 j' hj
  · rw [gI_sI, if_neg (by omega)]; exact h.2.1 j' hj
  · rw [gI_sI, if_neg (by omega)]; exact h.2.2 j' hj
def CR (k i : Nat) (M : Dat) (σ : Mem) : Prop := gI σ 488 k = w32 (i : Int) ∧ ∀ j, j < i → gI σ 487 (48 * k + 4 * j) = w32 (M 2 j) ∧ gI σ 487 (48 * k + 4 * j + 1) = w32 (M 3 j) ∧ gI σ 487 (48 * k + 4 * j + 2) = w32 (if M 3 j = M 4 j then -1 else M 3 j) ∧ gI σ 487 (48 * k + 4 * j + 3) = w32 (M 4 j)
theorem CR.same {k i : Nat} {M : Dat} {σ σ1 : Mem} (h : CR k i M σ) (h7 : gI σ1 487 = gI σ 487) (h8 : gI σ1 488 = gI σ 488) : CR k i M σ1 := ⟨by rw [h8]; exact h.1, fun j hj => by rw [h7]; exact h.2 j hj⟩
theorem SR.n7 {B : Nat → Int} {L k : Nat} {s : St} {σ : Mem} (h : SR B L k s σ) {c j : Nat} {v : Int32} (hc : c = 487 ∨ c = 488 ∨ (c = 483 ∧ j = 14)) : SR B L k s (sI σ c j v) := by
  obtain ⟨h1, h2, h3, h4, h5⟩ := h
  exact ⟨h1.ne (by omega), by rw [gI_sI, if_neg (by omega)]; exact h2, by rw [gI_sI, if_neg (by omega)]; exact h3, by rw [gI_sI, if_neg (by omega)]; exact h4, fun i hi => by rw [gI_sI, if_neg (by omega)]; exact h5 i hi⟩
def OC2 (B : Nat → Int) (L k i : Nat) (x : Except Int (St × Dat)) (y : Int32) (σ : Mem) : Prop := match x with
  | .ok z => y = 1 ∧ SR B L k z.1 σ ∧ CR k (i + 1) z.2 σ
  | .error f => y = 0 ∧ gI σ 483 9 = w32 f
/-- the rows that a clause under way has written -/
theorem strikeHere_r {F : Nat} {B : Nat → Int} {L k i : Nat} {s : St} {M : Dat} {σ : Mem} (hT : Txt B L) (hF : 1000 ≤ F) (hk : k < 6) (hi : i < 12) (h : SR B L k s σ) (hl : sl s ≤ sp s) (hp : sp s ≤ L) (hn : sn s ≤ 60) (hM : CR k i M σ) : ∃ y σ', m12_isStrikeHere F σ = some (y, σ') ∧ KK k σ σ' ∧ OC2 B L k i (match sumS B L (to s (sp s + rn B L 97 122 (sp s))) with
      | .error f => .error f
      | .ok s2 => match tstS B L s2 with
        | .error f => .error f
        | .ok s3 => .ok (s3, clM M i (sl s) (sl s2) (sl s3))) y σ' := by
  have hL := hT.1
  obtain ⟨σ1, m1, t1, q1⟩ := passWord_r (F := F) hT h.1 (by omega) hF
  have rr := (rn_rg (B := B) (L := L) (p := sp s) (lo := 97) (hi := 122)).1
  have S1 := h.q q1 t1
  have M1 : CR k i M σ1 := hM.same (q1.c (by decide)) (q1.c (by decide))
  have hpl : sp s ≤ sp s + rn B L 97 122 (sp s) ∧ sp s + rn B L 97 122 (sp s) ≤ L := by omega
  generalize sp s + rn B L 97 122 (sp s) = pp at *
  have eat : (48 : Int32) * w32 (k : Int) + (4 : Int32) * w32 (i : Int) = w32 ((48 * k + 4 * i : Nat) : Int) := by
    rw [show (48 : Int32) = w32 48 from rfl, show (4 : Int32) = w32 4 from rfl, w_mul, w_mul, w_add]; congr 1 <;> omega
  have ea1 : w32 ((48 * k + 4 * i : Nat) : Int) + (1 : Int32) = w32 ((48 * k + 4 * i + 1 : Nat) : Int) := w_succ _
  have ea2 : w32 ((48 * k + 4 * i : Nat) : Int) + (2 : Int32) = w32 ((48 * k + 4 * i + 2 : Nat) : Int) := by rw [wl_2, w_add]; congr 1
  have ea3 : w32 ((48 * k + 4 * i : Nat) : Int) + (3 : Int32) = w32 ((48 * k + 4 * i + 3 : Nat) : Int) := by rw [wl_3, w_add]; congr 1
  unfold m12_isStrikeHere
  rw [m1, Option.bind_some, S1.2.1, gd_pos (w_inB (by omega) (by omega) (by omega)), gd_pos (w_inB (by omega) (by omega) (by omega)), w_natk (by omega), M1.1, eat, gd_pos (w_inB (by omega) (by omega) (by omega)), w_natk (by omega), S1.2.2.2.1]
  dsimp only
  rw [ea1, ea2]
  -- the clause's begin
  have S2 : SR B L k (to s pp) (sI σ1 487 (48 * k + 4 * i) (w32 (sl (to s pp) : Int))) := S1.n7 (Or.inl rfl)
  have K2 : KK k σ (sI σ1 487 (48 * k + 4 * i) (w32 (sl (to s pp) : Int))) := q1.kk.s (by omega)
  obtain ⟨y3, σ3, m3, o3, k3⟩ := sum_r (F := F) hT hF hk S2 (show sl s ≤ pp by omega) hpl.2 hn
  have f3 := f12_sum m3
  have c7 : gI σ3 487 = gI (sI σ1 487 (48 * k + 4 * i) (w32 (sl s : Int))) 487 := f3.gI (by unfold Wm12_sum; omega)
  have c8 : gI σ3 488 = gI σ1 488 := (f3.gI (by unfold Wm12_sum; omega)).trans (gI_ne _ _ _ (by decide))
  have K3 : KK k σ σ3 := K2.trans (KK.of k3 (f3.gI (by unfold Wm12_sum; omega)) (f3.gI (by unfold Wm12_sum; omega)))
  have m3 : m12_sum F (sI σ1 487 (48 * k + 4 * i) (w32 (sl (to s pp) : Int))) = _ := m3
  rw [m3, Option.bind_some]
  dsimp only
  cases hv : sumS B L (to s pp) with
  | error f =>
    rw [hv] at o3
    rw [if_pos o3.1]
    exact ⟨0, σ3, rfl, K3, rfl, o3.2⟩
  | ok s2 =>
    rw [hv] at o3
    obtain ⟨⟨a1, a2, a3, a4, a5, a6, -, -⟩, -⟩ := sumS_ok (s := to s pp) hT hn hv
    have a1 : pp < sp s2 := a1
    have a4 : sl s2 + pp ≤ sp s2 + sl s := a4
    rw [if_neg (by rw [o3.1]; decide), o3.2.2.1, gd_pos (w_inB (by omega) (by omega) (by omega)), w_natk (by omega), gd_pos (w_inB (by omega) (by omega) (by omega)), w_natk (by omega), gd_pos (w_inB (by omega) (by omega) (by omega)), w_natk (by omega), o3.2.2.2.2.1]
    have S5 : SR B L k s2 (sI (sI σ3 487 (48 * k + 4 * i + 1) (w32 (sl s2 : Int))) 487 (48 * k + 4 * i + 2) (-1 : Int32)) := (o3.2.n7 (Or.inl rfl)).n7 (Or.inl rfl)
    have K5 : KK k σ (sI (sI σ3 487 (48 * k + 4 * i + 1) (w32 (sl s2 : Int))) 487 (48 * k + 4 * i + 2) (-1 : Int32)) := (K3.s (by omega)).s (by omega)
    have r5 : ∀ j, gI (sI (sI σ3 487 (48 * k + 4 * i + 1) (w32 (sl s2 : Int))) 487 (48 * k + 4 * i + 2) (-1 : Int32)) 487 j = if j = 48 * k + 4 * i + 2 then -1 else if j = 48 * k + 4 * i + 1 then w32 (sl s2 : Int) else if j = 48 * k + 4 * i then w32 (sl s : Int) else gI σ1 487 j := by
      intro j
      rw [gI_sI, gI_sI, c7, gI_sI]
      by_cases z2 : j = 48 * k + 4 * i + 2
      · rw [if_pos ⟨rfl, z2⟩, if_pos z2]
      · rw [if_neg (by omega), if_neg z2]
        by_cases z1 : j = 48 * k + 4 * i + 1
        · rw [if_pos ⟨rfl, z1⟩, if_pos z1]
        · rw [if_neg (by omega), if_neg z1]
          by_cases z0 : j = 48 * k + 4 * i
          · rw [if_pos ⟨rfl, z0⟩, if_pos z0]
          · rw [if_neg (by omega), if_neg z0]
    have r8 : gI (sI (sI σ3 487 (48 * k + 4 * i + 1) (w32 (sl s2 : Int))) 487 (48 * k + 4 * i + 2) (-1 : Int32)) 488 = gI σ1 488 := by
      rw [gI_ne _ _ _ (by decide), gI_ne _ _ _ (by decide)]; exact c8
    generalize (sI (sI σ3 487 (48 * k + 4 * i + 1) (w32 (sl s2 : Int))) 487 (48 * k + 4 * i + 2) (-1 : Int32)) = σ5 at *
    -- the clause's end
    have fin : ∀ (s3 : St) (σ6 : Mem), SR B L k s3 σ6 → KK k σ σ6 → gI σ6 488 = gI σ1 488 → (∀ j, j < 48 * k + 4 * i → 48 * k ≤ j → gI σ6 487 j = gI σ1 487 j) → gI σ6 487 (48 * k + 4 * i) = w32 (sl s : Int) → gI σ6 487 (48 * k + 4 * i + 1) = w32 (sl s2 : Int) → gI σ6 487 (48 * k + 4 * i + 2) = w32 (if (sl s2 : Int) = (sl s3 : Int) then -1 else (sl s2 : Int)) → ∃ y σ', m12_isStrikeHere_110 F (w32 ((48 * k + 4 * i : Nat) : Int)) σ6 = some (y, σ') ∧ KK k σ σ' ∧ OC2 B L k i (.ok (s3, clM M i (sl s) (sl s2) (sl s3))) y σ' := by
      intro s3 σ6 S6 K6 h8 h7 h70 h71 h72
      unfold m12_isStrikeHere_110
      rw [S6.2.1, gd_pos (w_inB (by omega) (by omega) (by omega)), ea3, gd_pos (w_inB (by omega) (by omega) (by omega)), w_natk (by omega), w_natk (by omega), S6.2.2.2.1]
      dsimp only
      rw [gI_nec (c := 487) (c' := 483) (by decide), S6.2.1, gd_pos (w_inB (by omega) (by omega) (by omega)), gd_pos (w_inB (by omega) (by omega) (by omega)), w_natk (by omega), gI_nec (c := 487) (c' := 488) (by decide), h8, M1.1, w_succ]
      refine ⟨1, _, rfl, (K6.s (by omega)).s (by omega), rfl, (S6.n7 (Or.inl rfl)).n7 (Or.inr (Or.inl rfl)), gI_eq .., fun j hj => ?_⟩
      have g7 : ∀ j, gI (sI (sI σ6 487 (48 * k + 4 * i + 3) (w32 (sl s3 : Int))) 488 k (w32 ((i + 1 : Nat) : Int))) 487 j = if j = 48 * k + 4 * i + 3 then w32 (sl s3 : Int) else gI σ6 487 j := by
        intro j
        rw [gI_nec (by decide), gI_sI]
        by_cases z : j = 48 * k + 4 * i + 3
        · rw [if_pos ⟨rfl, z⟩, if_pos z]
        · rw [if_neg (fun y => z y.2), if_neg z]
      rw [g7, g7, g7, g7]
      show _ = w32 (clM M i (sl s) (sl s2) (sl s3) 2 j) ∧ _ = w32 (clM M i (sl s) (sl s2) (sl s3) 3 j) ∧ _ = w32 (if clM M i (sl s) (sl s2) (sl s3) 3 j = clM M i (sl s) (sl s2) (sl s3) 4 j then -1 else clM M i (sl s) (sl s2) (sl s3) 3 j) ∧ _ = w32 (clM M i (sl s) (sl s2) (sl s3) 4 j)
      by_cases z : j = i
      · rw [z, clM_2, clM_3, clM_4, if_neg (by omega), if_neg (by omega), if_neg (by omega), if_pos rfl]
        exact ⟨h70, h71, h72, rfl⟩
      · rw [clM_lo z, clM_lo z, clM_lo z, if_neg (show ¬ 48 * k + 4 * j = 48 * k + 4 * i + 3 by omega), if_neg (show ¬ 48 * k + 4 * j + 1 = 48 * k + 4 * i + 3 by omega), if_neg (show ¬ 48 * k + 4 * j + 2 = 48 * k + 4 * i + 3 by omega), if_neg (show ¬ 48 * k + 4 * j + 3 = 48 * k + 4 * i + 3 by omega), h7 _ (by omega) (by omega), h7 _ (by omega) (by omega), h7 _ (by omega) (by omega), h7 _ (by omega) (by omega)]
        exact M1.2 j (by omega)
    have q2 := sk_rg (B := B) (L := L) (p := sp s2)
    obtain ⟨σ6, m6, t6, q6⟩ := isWord_r (F := F) hT S5.1 (by omega) hF [105, 102] 26982 (by decide) (by decide) (by decide)
    have S6 := S5.q q6 t6
    have eI : isK B L [105, 102] (sk B L (sp s2)) = isK B L kIf (sk B L (sp s2)) := rfl
    rw [eI] at m6
    unfold m12_takesWord tstS
    rw [m6, Option.bind_some]
    dsimp only
    by_cases zI : isK B L kIf (sk B L (sp s2)) = true
    · obtain ⟨σ7, m7, t7, q7⟩ := passWord_r (F := F) hT t6 (by omega) hF
      have rr2 := (rn_rg (B := B) (L := L) (p := sk B L (sp s2)) (lo := 97) (hi := 122)).1
      have S7 := S6.q q7 t7
      have hpp2 : sp s2 ≤ sk B L (sp s2) + rn B L 97 122 (sk B L (sp s2)) ∧ sk B L (sp s2) + rn B L 97 122 (sk B L (sp s2)) ≤ L := by omega
      have S7 : SR B L k (to s2 (sk B L (sp s2) + rn B L 97 122 (sk B L (sp s2)))) σ7 := S7
      rw [if_pos zI, if_neg (by decide), m7, Option.bind_some, if_pos zI]
      try dsimp only
      rw [Option.bind_some]
      try dsimp only
      generalize sk B L (sp s2) + rn B L 97 122 (sk B L (sp s2)) = p2 at *
      rw [if_neg (by decide), S7.2.1, gd_pos (w_inB (by omega) (by omega) (by omega)), gd_pos (w_inB (by omega) (by omega) (by omega)), w_natk (by omega), S7.2.2.2.1]
      have S8 : SR B L k (to s2 p2) (sI σ7 487 (48 * k + 4 * i + 2) (w32 (sl (to s2 p2) : Int))) := S7.n7 (Or.inl rfl)
      have K8 : KK k σ (sI σ7 487 (48 * k + 4 * i + 2) (w32 (sl (to s2 p2) : Int))) := (K5.trans (q6.trans q7).kk).s (by omega)
      obtain ⟨y9, σ9, m9, o9, k9⟩ := tested_r (F := F) hT hF hk S8 (show sl s2 ≤ p2 by omega) hpp2.2 a6
      have f9 := f12_tested m9
      rw [m9, Option.bind_some]
      have K9 := K8.trans (KK.of k9 (f9.gI (by unfold Wm12_tested; omega)) (f9.gI (by unfold Wm12_tested; omega)))
      dsimp only
      cases hw : tesS B L (facS B L 10) (to s2 p2) with
      | error f =>
        rw [hw] at o9
        rw [if_pos o9.1]
        exact ⟨0, σ9, rfl, K9, rfl, o9.2⟩
      | ok s3 =>
        rw [hw] at o9
        obtain ⟨⟨b1, b2, b3, b4, b5, b6, -, -⟩, -⟩ := tesS_ok (s := to s2 p2) hT (facS_ok hT 10) a6 hw
        have b3 : sl s2 < sl s3 := b3
        rw [if_neg (by rw [o9.1]; decide)]
        have g7 : ∀ j, gI σ9 487 j = if j = 48 * k + 4 * i + 2 then w32 (sl s2 : Int) else gI σ5 487 j := fun j => by
          rw [f9.gI (by unfold Wm12_tested; omega), gI_sI]
          by_cases z : j = 48 * k + 4 * i + 2
          · rw [if_pos ⟨rfl, z⟩, if_pos z]; rfl
          · rw [if_neg (by omega), if_neg z, (q6.trans q7).c (by decide)]
        refine fin s3 σ9 o9.2 K9 ?_ (fun j h1 h2 => ?_) ?_ ?_ ?_
        · rw [f9.gI (by unfold Wm12_tested; omega), gI_ne _ _ _ (by decide), (q6.trans q7).c (by decide)]; exact r8
        · rw [g7, if_neg (by omega), r5, if_neg (by omega), if_neg (by omega), if_neg (by omega)]
        · rw [g7, if_neg (by omega), r5, if_neg (by omega), if_neg (by omega), if_pos rfl]
        · rw [g7, if_neg (by omega), r5, if_neg (by omega), if_pos rfl]
        · rw [g7, if_pos rfl, if_neg (by omega)]
    · rw [if_neg zI, if_pos rfl, if_neg zI, Option.bind_some]
      dsimp only
      rw [if_pos rfl]
      refine fin (to s2 (sk B L (sp s2))) σ6 S6 (K5.trans q6.kk) ?_ (fun j h1 h2 => ?_) ?_ ?_ ?_
      · rw [q6.c (by decide)]; exact r8
      · rw [q6.c (by decide), r5, if_neg (by omega), if_neg (by omega), if_neg (by omega)]
      · rw [q6.c (by decide), r5, if_neg (by omega), if_neg (by omega), if_pos rfl]
      · rw [q6.c (by decide), r5, if_neg (by omega), if_pos rfl]
      · rw [q6.c (by decide), r5, if_pos rfl]
        show (-1 : Int32) = w32 (if (sl s2 : Int) = (sl s2 : Int) then -1 else (sl s2 : Int))
        rw [if_pos rfl]; rfl
theorem clause_r {F : Nat} {B : Nat → Int} {L k i : Nat} {s : St} {M : Dat} {σ : Mem} (hT : Txt B L) (hF : 1000 ≤ F) (hk : k < 6) (hi : i ≤ 12) (h : SR B L k s σ) (hl : sl s ≤ sp s) (hp : sp s ≤ L) (hn : sn s ≤ 60) (hM : CR k i M σ) (h14 : gI σ 483 14 = w32 (i : Int)) : ∃ y σ', m12_clauseHere F σ = some (y, σ') ∧ KK k σ σ' ∧ OC2 B L k i (oneC B L i s M) y σ' ∧ (y = 1 → gI σ' 483 14 = w32 ((i + 1 : Nat) : Int)) := by
  have hL := hT.1
  obtain ⟨σ1, m1, t1, q1⟩ := see_r (F := F) hT h.1 (by omega) hF
  have q := sk_rg (B := B) (L := L) (p := sp s)
  obtain ⟨σ2, m2, t2, q2⟩ := isWord_r (F := F) hT t1 (by omega) hF kStr 126943972911973 (by decide) (by decide) (by decide)
  rw [sk_sk] at m2 t2
  have S2 := h.q (q1.trans q2) t2
  have Q2 := q1.trans q2
  have c11 : gI σ1 483 11 = w32 (k : Int) := by rw [q1.j (by unfold V8; omega)]; exact h.2.1
  unfold m12_clauseHere oneC
  rw [m1, Option.bind_some]
  dsimp only
  rw [c11, if_neg (by rw [wl_6, w_eq (by omega) (by omega) (by omega) (by omega)]; omega), t1.2.2.1]
  unfold m12_clauseHere_24
  rw [if_pos rfl, m2, Option.bind_some]
  dsimp only
  by_cases zS : isK B L kStr (sk B L (sp s)) = true
  · rw [if_pos zS, if_neg (by decide), if_pos zS]
    unfold m12_clauseHere_56 m12_clauseHere_71
    have c14 : gI σ2 483 14 = w32 (i : Int) := by rw [Q2.j (by unfold V8; omega)]; exact h14
    rw [if_pos rfl, c14]
    by_cases z12 : i = 12
    · rw [if_pos (by rw [z12]; rfl), if_pos z12]
      obtain ⟨σ3, m3, e3, q3⟩ := fails_r (F := F) (a := sk B L (sp s)) (c := 4) t2 (by decide)
      have m3 : m12_fails F (4 : Int32) (w32 (sk B L (sp s) : Int)) σ2 = _ := m3
      rw [m3, Option.bind_some]
      dsimp only
      rw [gd_pos (Or.inl rfl)]
      exact ⟨0, σ3, rfl, (Q2.trans q3).kk, ⟨rfl, e3⟩, fun z => absurd z (by decide)⟩
    · rw [if_neg (by rw [wl_12, w_eq (by omega) (by omega) (by omega) (by omega)]; omega), if_neg z12, w_succ]
      dsimp only
      rw [if_pos rfl]
      have S3 : SR B L k (to s (sk B L (sp s))) (sI σ2 483 14 (w32 ((i + 1 : Nat) : Int))) := S2.n7 (Or.inr (Or.inr ⟨rfl, rfl⟩))
      have M3 : CR k i M (sI σ2 483 14 (w32 ((i + 1 : Nat) : Int))) := hM.same (by rw [gI_ne _ _ _ (by decide)]; exact Q2.c (by decide)) (by rw [gI_ne _ _ _ (by decide)]; exact Q2.c (by decide))
      obtain ⟨y4, σ4, m4, k4, o4⟩ := strikeHere_r (F := F) hT hF hk (by omega) S3 (show sl s ≤ sk B L (sp s) by omega) (show sk B L (sp s) ≤ L by omega) hn M3
      have s4 := f12_isStrikeHere_s m4
      have c4 : gI σ4 483 14 = w32 ((i + 1 : Nat) : Int) := by rw [s4 14 (by unfold Vm12_isStrikeHere; omega), gI_eq]
      have K4 : KK k σ σ4 := (Q2.kk.s (by omega)).trans k4
      have o4 : OC2 B L k i (match sumS B L (to s (sk B L (sp s) + rn B L 97 122 (sk B L (sp s)))) with
      | .error f => .error f
      | .ok s2 => match tstS B L s2 with
        | .error f => .error f
        | .ok s3 => .ok (s3, clM M i (sl s) (sl s2) (sl s3))) y4 σ4 := o4
      have hy : y4 = 0 ∨ y4 = 1 := by
        generalize (match sumS B L (to s (sk B L (sp s) + rn B L 97 122 (sk B L (sp s)))) with
          | .error f => .error f
          | .ok s2 => match tstS B L s2 with
            | .error f => .error f
            | .ok s3 => .ok (s3, clM M i (sl s) (sl s2) (sl s3)) : Except Int (St × Dat)) = xx at o4
        cases xx with
        | error f => exact Or.inl o4.1
        | ok z => exact Or.inr o4.1
      rw [m4, Option.bind_some]
      dsimp only
      rw [gd_pos hy]
      exact ⟨y4, σ4, rfl, K4, o4, fun _ => c4⟩
  · rw [if_neg zS, if_pos rfl, if_neg zS]
    unfold m12_clauseHere_49
    obtain ⟨σ3, m3, e3, q3⟩ := fails_r (F := F) (a := sk B L (sp s)) (c := 0) t2 (by decide)
    have m3 : m12_fails F (0 : Int32) (w32 (sk B L (sp s) : Int)) σ2 = _ := m3
    rw [m3, Option.bind_some]
    dsimp only
    rw [gd_pos (Or.inl rfl)]
    exact ⟨0, σ3, rfl, (Q2.trans q3).kk, ⟨rfl, e3⟩, fun z => absurd z (by decide)⟩
def OZ2 (k : Nat) (x : Rz) (y : Int32) (σ : Mem) : Prop := gI σ 483 1 = w32 0 ∧ match x with
  | .ok z => y = 1 ∧ (∀ i, i < sl z.2.1 → gI σ 485 (400 * k + i) = w32 (enc (sr z.2.1 i) : Int)) ∧ CR k z.1 z.2.2 σ
  | .error f => y = 0 ∧ gI σ 483 9 = w32 f
theorem r88_bad {F : Nat} {σ : Mem} {f : Int} (h : gI σ 483 9 = w32 f) (hf : f ≠ 0 ∧ -1000000 ≤ f ∧ f ≤ 1000000) {k : Nat} : ∃ σ', m12_readsAll_88 F σ = some (0, σ') ∧ KK k σ σ' ∧ OZ2 k (.error f) 0 σ' := by
  unfold m12_readsAll_88
  dsimp only
  rw [gI_nej (by decide), h, if_neg (by rw [wl_0, w_eq (by omega) (by omega) (by omega) (by omega)]; omega)]
  exact ⟨_, rfl, (KK.rf k σ).s (by omega), gI_eq .., rfl, by rw [gI_nej (by decide)]; exact h⟩
/-- a FAULT is a small number, and none is 0 -/
def EB (L : Nat) (x : Re) : Prop := ∀ f, x = .error f → 1 ≤ f ∧ f ≤ 1 + 8 * (L : Int) + 10
theorem EB.ok {L : Nat} {s : St} : EB L (.ok s) := fun f h => by cases h
theorem EB.er {L p c : Nat} (hp : p ≤ L) (hc : c ≤ 10) : EB L (er p c) := fun f h => by
  cases h
  omega
theorem EB.bnd {L : Nat} {x : Re} {g : St → Re} (hx : EB L x) (hg : ∀ s, x = .ok s → EB L (g s)) : EB L (bnd x g) := by
  cases x with
  | ok s => exact hg s rfl
  | error e => exact hx
theorem valS_eb {B : Nat → Int} {L : Nat} {s : St} (hp : sp s ≤ L) : EB L (valS B L s) := by
  have q := sk_rg (B := B) (L := L) (p := sp s)
  unfold valS
  dsimp only
  repeat' split
  all_goals first | exact EB.ok | exact EB.er (by omega) (by decide)
theorem sumL_eb {B : Nat → Int} {L : Nat} (hT : Txt B L) : ∀ (d : Nat) (w : Int) (s : St), sp s ≤ L → sn s ≤ 60 → EB L (sumL B L d w s)
  | 0, _, _, _, _ => EB.ok
  | d + 1, w, s, hp, hn => by
    have q := sk_rg (B := B) (L := L) (p := sp s)
    unfold sumL
    dsimp only
    by_cases z0 : sgn (ch B L (sk B L (sp s))) = 0
    · rw [if_pos z0]; exact EB.ok
    · have hlt : sk B L (sp s) < L := sk_lt (fun e => z0 (by rw [e, sgn_m1]))
      have hpn : sn (pend w s) = sn s := by unfold pend; split <;> rfl
      rw [if_neg z0]
      split
      · refine EB.bnd (valS_eb (show sk B L (sp s) + 1 ≤ L by omega)) (fun s1 h1 => ?_)
        obtain ⟨⟨a1, a2, a3, a4, a5, a6, -, -⟩, -⟩ := valS_ok (s := to (pend w s) (sk B L (sp s) + 1)) hT (show sn (pend w s) ≤ 60 by omega) h1
        exact sumL_eb hT d _ s1 a2 a6
      · refine EB.bnd (valS_eb (show sk B L (sp s) + 1 ≤ L by omega)) (fun s1 h1 => ?_)
        obtain ⟨⟨a1, a2, a3, a4, a5, a6, -, -⟩, -⟩ := valS_ok (s := to s (sk B L (sp s) + 1)) hT hn h1
        exact sumL_eb hT d _ (pt s1 _) a2 a6
theorem sumS_eb {B : Nat → Int} {L : Nat} {s : St} (hT : Txt B L) (hp : sp s ≤ L) (hn : sn s ≤ 60) : EB L (sumS B L s) := by
  refine EB.bnd (valS_eb hp) (fun s1 h1 => ?_)
  obtain ⟨⟨a1, a2, a3, a4, a5, a6, -, -⟩, -⟩ := valS_ok hT hn h1
  exact sumL_eb hT 401 0 s1 a2 a6
theorem cmpS_eb {B : Nat → Int} {L : Nat} {s : St} (hT : Txt B L) (hp : sp s ≤ L) (hn : sn s ≤ 60) : EB L (cmpS B L s) := by
  refine EB.bnd (sumS_eb hT hp hn) (fun s1 h1 => ?_)
  obtain ⟨⟨a1, a2, a3, a4, a5, a6, -, -⟩, -⟩ := sumS_ok hT hn h1
  have q := sk_rg (B := B) (L := L) (p := sp s1)
  dsimp only
  split
  · rename_i hc
    have hlt : sk B L (sp s1) < L := ch_lt (B := B) (L := L) (by omega)
    split
    · exact EB.er (by omega) (by decide)
    · have hal : (decide (ch B L (sk B L (sp s1)) ≠ 61) && decide (ch B L (sk B L (sp s1) + 1) = 61)) = true → sk B L (sp s1) + 1 < L := fun h => by
        rw [Bool.and_eq_true, decide_eq_true_eq, decide_eq_true_eq] at h
        exact ch_lt (B := B) (L := L) (by omega)
      refine EB.bnd (sumS_eb hT ?_ (show sn s1 + 1 ≤ 60 by omega)) (fun s2 h2 => EB.ok)
      show (if (decide (ch B L (sk B L (sp s1)) ≠ 61) && decide (ch B L (sk B L (sp s1) + 1) = 61)) = true then sk B L (sp s1) + 2 else sk B L (sp s1) + 1) ≤ L
      split
      · rename_i h; have := hal h; omega
      · omega
  · exact EB.er (by omega) (by decide)
def FE (L : Nat) (fact : St → Re) : Prop := ∀ s, sp s ≤ L → sn s ≤ 60 → EB L (fact s)
theorem tesL_eb {B : Nat → Int} {L : Nat} {fact : St → Re} (hf : FOk L fact) (he : FE L fact) : ∀ (d : Nat) (w : Bool) (s : St), sp s ≤ L → sn s ≤ 60 → EB L (tesL B L fact d w s)
  | 0, _, _, _, _ => EB.ok
  | d + 1, w, s, hp, hn => by
    have q := sk_rg (B := B) (L := L) (p := sp s)
    have rr := (rn_rg (B := B) (L := L) (p := sk B L (sp s)) (lo := 97) (hi := 122)).1
    rw [tesL_s]
    split
    · exact EB.ok
    · split
      · have e1 : sp (if w = true then pt (to s (sk B L (sp s) + rn B L 97 122 (sk B L (sp s)))) (-32) else to s (sk B L (sp s) + rn B L 97 122 (sk B L (sp s)))) = sk B L (sp s) + rn B L 97 122 (sk B L (sp s)) ∧ sn (if w = true then pt (to s (sk B L (sp s) + rn B L 97 122 (sk B L (sp s)))) (-32) else to s (sk B L (sp s) + rn B L 97 122 (sk B L (sp s)))) = sn s := by cases w <;> exact ⟨rfl, rfl⟩
        refine EB.bnd (he _ (by rw [e1.1]; omega) (by rw [e1.2]; exact hn)) (fun s1 h1 => ?_)
        obtain ⟨⟨a1, a2, a3, a4, a5, a6, -, -⟩, -⟩ := hf _ s1 (by rw [e1.2]; exact hn) h1
        exact tesL_eb hf he d true s1 a2 a6
      · refine EB.bnd (he _ (show sk B L (sp s) + rn B L 97 122 (sk B L (sp s)) ≤ L by omega) hn) (fun s1 h1 => ?_)
        obtain ⟨⟨a1, a2, a3, a4, a5, a6, -, -⟩, -⟩ := hf (to s (sk B L (sp s) + rn B L 97 122 (sk B L (sp s)))) s1 hn h1
        exact tesL_eb hf he d w (pt s1 (-31)) a2 a6
theorem tesS_eb {B : Nat → Int} {L : Nat} {fact : St → Re} (hf : FOk L fact) (he : FE L fact) {s : St} (hp : sp s ≤ L) (hn : sn s ≤ 60) : EB L (tesS B L fact s) := by
  refine EB.bnd (he s hp hn) (fun s1 h1 => ?_)
  obtain ⟨⟨a1, a2, a3, a4, a5, a6, -, -⟩, -⟩ := hf s s1 hn h1
  exact tesL_eb hf he 401 false s1 a2 a6
theorem facS_eb {B : Nat → Int} {L : Nat} (hT : Txt B L) : ∀ e, FE L (facS B L e)
  | 0 => fun s hp hn => by
    have q := sk_rg (B := B) (L := L) (p := sp s)
    unfold facS
    dsimp only
    split
    · exact EB.er (by omega) (by decide)
    · exact cmpS_eb hT (show sk B L (sp s) ≤ L by omega) hn
  | e + 1 => fun s hp hn => by
    have q := sk_rg (B := B) (L := L) (p := sp s)
    have rr := (rn_rg (B := B) (L := L) (p := sk B L (sp s)) (lo := 97) (hi := 122)).1
    unfold facS
    dsimp only
    split
    · exact EB.bnd (facS_eb hT e _ (show sk B L (sp s) + rn B L 97 122 (sk B L (sp s)) ≤ L by omega) hn) (fun s1 h1 => EB.ok)
    · split
      · rename_i h91
        have hlt : sk B L (sp s) < L := ch_lt (B := B) (L := L) (by omega)
        refine EB.bnd (tesS_eb (facS_ok hT e) (facS_eb hT e) (show sk B L (sp s) + 1 ≤ L by omega) hn) (fun s1 h1 => ?_)
        obtain ⟨⟨a1, a2, a3, a4, a5, a6, -, -⟩, -⟩ := tesS_ok (s := to s (sk B L (sp s) + 1)) hT (facS_ok hT e) hn h1
        have q1 := sk_rg (B := B) (L := L) (p := sp s1)
        unfold clsS
        dsimp only
        split
        · exact EB.ok
        · exact EB.er (by omega) (by decide)
      · exact cmpS_eb hT (show sk B L (sp s) ≤ L by omega) hn
theorem oneC_err {B : Nat → Int} {L i : Nat} {s : St} {M : Dat} {f : Int} (hT : Txt B L) (hp : sp s ≤ L) (hn : sn s ≤ 60) (h : oneC B L i s M = .error f) : f ≠ 0 ∧ -1000000 ≤ f ∧ f ≤ 1000000 := by
  have hL := hT.1
  have q := sk_rg (B := B) (L := L) (p := sp s)
  have rr := (rn_rg (B := B) (L := L) (p := sk B L (sp s)) (lo := 97) (hi := 122)).1
  unfold oneC at h
  split at h
  · split at h
    · cases h; omega
    · split at h
      · rename_i f1 e1
        cases h
        have := sumS_eb (B := B) (s := to s (sk B L (sp s) + rn B L 97 122 (sk B L (sp s)))) hT (show _ ≤ L from by show sk B L (sp s) + rn B L 97 122 (sk B L (sp s)) ≤ L; omega) hn _ e1
        omega
      · rename_i s2 e2
        obtain ⟨⟨a1, a2, a3, a4, a5, a6, -, -⟩, -⟩ := sumS_ok (s := to s (sk B L (sp s) + rn B L 97 122 (sk B L (sp s)))) hT hn e2
        split at h
        · rename_i f3 e3
          cases h
          have q2 := sk_rg (B := B) (L := L) (p := sp s2)
          have rr2 := (rn_rg (B := B) (L := L) (p := sk B L (sp s2)) (lo := 97) (hi := 122)).1
          unfold tstS at e3
          split at e3
          · have := tesS_eb (B := B) (facS_ok hT 10) (facS_eb hT 10) (s := to s2 (sk B L (sp s2) + rn B L 97 122 (sk B L (sp s2)))) (show sk B L (sp s2) + rn B L 97 122 (sk B L (sp s2)) ≤ L by omega) a6 _ e3
            omega
          · cases e3
        · cases h
  · cases h; omega
theorem oneC_ok {B : Nat → Int} {L i : Nat} {s : St} {M : Dat} {z : St × Dat} (hT : Txt B L) (hl : sl s ≤ sp s) (hp : sp s ≤ L) (hn : sn s ≤ 60) (h : oneC B L i s M = .ok z) : sl z.1 ≤ sp z.1 ∧ sp z.1 ≤ L ∧ sn z.1 ≤ 60 ∧ i ≠ 12 := by
  have q := sk_rg (B := B) (L := L) (p := sp s)
  have rr := (rn_rg (B := B) (L := L) (p := sk B L (sp s)) (lo := 97) (hi := 122)).1
  unfold oneC at h
  split at h
  · split at h
    · cases h
    · rename_i h12
      split at h
      · cases h
      · rename_i s2 e2
        obtain ⟨⟨a1, a2, a3, a4, a5, a6, -, -⟩, -⟩ := sumS_ok (s := to s (sk B L (sp s) + rn B L 97 122 (sk B L (sp s)))) hT hn e2
        have a4 : sl s2 + (sk B L (sp s) + rn B L 97 122 (sk B L (sp s))) ≤ sp s2 + sl s := a4
        split at h
        · cases h
        · rename_i s3 e3
          cases h
          have q2 := sk_rg (B := B) (L := L) (p := sp s2)
          rcases tstS_ok hT a6 a2 e3 with e | ⟨⟨b1, b2, b3, b4, b5, b6, -, -⟩, -⟩
          · subst e
            exact ⟨show sl s2 ≤ sk B L (sp s2) by omega, show sk B L (sp s2) ≤ L by omega, a6, h12⟩
          · exact ⟨show sl s3 ≤ sp s3 by omega, b2, b6, h12⟩
  · cases h
theorem rd35_r {F : Nat} {B : Nat → Int} {L k : Nat} (hT : Txt B L) (hF : 1000 ≤ F) (hk : k < 6) : ∀ (d i n : Nat) (z : St × Dat) (σ : Mem), i < 12 → 12 - i ≤ d → 13 - i < n → SR B L k z.1 σ → CR k (i + 1) z.2 σ → sl z.1 ≤ sp z.1 → sp z.1 ≤ L → sn z.1 ≤ 60 → gI σ 483 14 = w32 ((i + 1 : Nat) : Int) → ∃ y σ', m12_readsAll_35 F n (1 : Int32) σ = some (y, σ') ∧ KK k σ σ' ∧ OZ2 k (nxtC B L d i z) y σ' := by
  have hL := hT.1
  intro d
  induction d with
  | zero => intro i n z σ h1 h2; omega
  | succ d ih =>
    intro i n z σ hi hd hn hS hM hl hp h60 h14
    obtain ⟨n, rfl⟩ : ∃ k, n = k + 1 := ⟨n - 1, by omega⟩
    have q := sk_rg (B := B) (L := L) (p := sp z.1)
    obtain ⟨σ1, m1, t1, q1⟩ := see_r (F := F) hT hS.1 (by omega) hF
    have hch := ch_rg (p := sk B L (sp z.1)) hT
    have S1 := hS.q q1 t1
    unfold m12_readsAll_35 nxtC
    rw [if_neg (by decide), m1, Option.bind_some]
    dsimp only
    by_cases z59 : ch B L (sk B L (sp z.1)) = 59
    · have hlt : sk B L (sp z.1) < L := ch_lt (B := B) (L := L) (by omega)
      rw [if_pos (by rw [z59]; rfl), if_pos z59, t1.2.2.1, w_succ]
      have Q2 : Qs σ1 (sI σ1 483 8 (w32 ((sk B L (sp z.1) + 1 : Nat) : Int))) := (Qs.rf σ1).s (by unfold V8; omega)
      have S2 := S1.q Q2 (t1.at (sk B L (sp z.1) + 1))
      have S2 : SR B L k (to z.1 (sk B L (sp z.1) + 1)) (sI σ1 483 8 (w32 ((sk B L (sp z.1) + 1 : Nat) : Int))) := S2
      have M2 : CR k (i + 1) z.2 (sI σ1 483 8 (w32 ((sk B L (sp z.1) + 1 : Nat) : Int))) := hM.same ((q1.trans Q2).c (by decide)) ((q1.trans Q2).c (by decide))
      obtain ⟨y3, σ3, m3, k3, o3, c3⟩ := clause_r (F := F) hT hF hk (show i + 1 ≤ 12 by omega) S2 (show sl z.1 ≤ sk B L (sp z.1) + 1 by omega) hlt h60 M2 (by rw [(q1.trans Q2).j (by unfold V8; omega)]; exact h14)
      have K3 := (q1.trans Q2).kk.trans k3
      rw [m3, Option.bind_some, rulL_one]
      dsimp only
      cases hv : oneC B L (i + 1) (to z.1 (sk B L (sp z.1) + 1)) z.2 with
      | error f =>
        rw [hv] at o3
        obtain ⟨e1, e2⟩ := o3
        subst e1
        have hf := oneC_err (s := to z.1 (sk B L (sp z.1) + 1)) hT hlt h60 hv
        obtain ⟨σ4, m4, k4, o4⟩ := r88_bad (F := F) (k := k) e2 hf
        obtain ⟨n, rfl⟩ : ∃ q, n = q + 1 := ⟨n - 1, by omega⟩
        refine ⟨0, σ4, ?_, K3.trans k4, o4⟩
        show (if (0 : Int32) = 0 then m12_readsAll_66 F 0 σ3 else _) = _
        rw [if_pos rfl]
        unfold m12_readsAll_66
        rw [if_pos rfl]
        exact m4
      | ok z2 =>
        rw [hv] at o3
        obtain ⟨e1, S4, M4⟩ := o3
        obtain ⟨b1, b2, b3, b4⟩ := oneC_ok (s := to z.1 (sk B L (sp z.1) + 1)) hT (show sl z.1 ≤ sk B L (sp z.1) + 1 by omega) hlt h60 hv
        have c4 := c3 e1
        subst e1
        obtain ⟨y5, σ5, m5, k5, o5⟩ := ih (i + 1) n z2 σ3 (by omega) (by omega) (by omega) S4 M4 b1 b2 b3 c4
        exact ⟨y5, σ5, m5, K3.trans k5, o5⟩
    · rw [if_neg (by rw [wl_59, w_eq (by omega) (by omega) (by omega) (by omega)]; exact z59), if_neg z59]
      obtain ⟨σ2, m2, t2, q2⟩ := see_r (F := F) hT t1 (by omega) hF
      rw [sk_sk] at m2 t2
      have S2 := S1.q q2 t2
      unfold m12_readsAll_66
      rw [if_neg (by decide), m2, Option.bind_some]
      dsimp only
      by_cases zm : ch B L (sk B L (sp z.1)) = -1
      · rw [if_pos (by rw [zm]; rfl), if_pos zm]
        unfold m12_readsAll_88
        dsimp only
        rw [gI_nej (by decide), t2.2.2.2, if_pos (show w32 0 = (0 : Int32) from rfl)]
        refine ⟨1, _, rfl, (q1.trans q2).kk.s (by omega), gI_eq .., rfl, fun j hj => ?_, ?_⟩
        · rw [gI_nec (by decide)]; exact S2.2.2.2.2 j hj
        · exact hM.same (by rw [gI_ne _ _ _ (by decide)]; exact (q1.trans q2).c (by decide)) (by rw [gI_ne _ _ _ (by decide)]; exact (q1.trans q2).c (by decide))
      · rw [if_neg (by rw [wl_m1, w_eq (by omega) (by omega) (by omega) (by omega)]; exact zm), if_neg zm, t2.2.2.1]
        obtain ⟨σ3, m3, e3, q3⟩ := fails_r (F := F) (a := sk B L (sp z.1)) (c := 0) t2 (by decide)
        have m3 : m12_fails F (0 : Int32) (w32 (sk B L (sp z.1) : Int)) σ2 = _ := m3
        rw [m3, Option.bind_some]
        dsimp only
        obtain ⟨σ4, m4, k4, o4⟩ := r88_bad (F := F) (k := k) e3 (by omega)
        exact ⟨0, σ4, m4, ((q1.trans q2).trans q3).kk.trans k4, o4⟩
theorem readsAll_r {F : Nat} {B : Nat → Int} {L k : Nat} {σ : Mem} (hT : Txt B L) (hF : 1000 ≤ F) (hk : k < 6) (h1 : gI σ 483 1 = w32 (L : Int)) (h2 : ∀ i, i < L → gI σ 484 i = (w32 (B i)).toInt8.toInt32) (h3 : gI σ 483 11 = w32 (k : Int)) (h4 : gI σ 488 k = w32 0) : ∃ y σ', m12_readsAll F σ = some (y, σ') ∧ KK k σ σ' ∧ OZ2 k (rulS B L) y σ' := by
  unfold m12_readsAll
  rw [h3, gd_pos (w_inB (by omega) (by omega) (by omega)), w_natk (by omega)]
  dsimp only
  have S0 : SR B L k (0, 0, 0, fun _ => 0) (sI (sI (sI (sI (sI σ 486 k (0 : Int32)) 483 14 (0 : Int32)) 483 8 (0 : Int32)) 483 9 (0 : Int32)) 483 12 (0 : Int32)) := by
    refine ⟨⟨?_, fun i hi => ?_, ?_, ?_⟩, ?_, ?_, ?_, fun i hi => absurd hi (Nat.not_lt_zero i)⟩
    · rw [gI_nej (by decide), gI_nej (by decide), gI_nej (by decide), gI_nej (by decide), gI_nec (by decide)]; exact h1
    · rw [gI_nec (by decide), gI_nec (by decide), gI_nec (by decide), gI_nec (by decide), gI_nec (by decide)]; exact h2 i hi
    · rw [gI_nej (by decide), gI_nej (by decide), gI_eq]; rfl
    · rw [gI_nej (by decide), gI_eq]; rfl
    · rw [gI_nej (by decide), gI_nej (by decide), gI_nej (by decide), gI_nej (by decide), gI_nec (by decide)]; exact h3
    · rw [gI_eq]; rfl
    · rw [gI_nec (by decide), gI_nec (by decide), gI_nec (by decide), gI_nec (by decide), gI_eq]; rfl
  have K0 : KK k σ (sI (sI (sI (sI (sI σ 486 k (0 : Int32)) 483 14 (0 : Int32)) 483 8 (0 : Int32)) 483 9 (0 : Int32)) 483 12 (0 : Int32)) := (((((KK.rf k σ).s (by omega)).s (by omega)).s (by omega)).s (by omega)).s (by omega)
  have M0 : CR k 0 (fun _ _ => 0) (sI (sI (sI (sI (sI σ 486 k (0 : Int32)) 483 14 (0 : Int32)) 483 8 (0 : Int32)) 483 9 (0 : Int32)) 483 12 (0 : Int32)) := by
    refine ⟨?_, fun j hj => absurd hj (Nat.not_lt_zero j)⟩
    rw [gI_nec (by decide), gI_nec (by decide), gI_nec (by decide), gI_nec (by decide), gI_nec (by decide)]; exact h4
  have c14 : gI (sI (sI (sI (sI (sI σ 486 k (0 : Int32)) 483 14 (0 : Int32)) 483 8 (0 : Int32)) 483 9 (0 : Int32)) 483 12 (0 : Int32)) 483 14 = w32 ((0 : Nat) : Int) := by
    rw [gI_nej (by decide), gI_nej (by decide), gI_nej (by decide), gI_eq]; rfl
  generalize (sI (sI (sI (sI (sI σ 486 k (0 : Int32)) 483 14 (0 : Int32)) 483 8 (0 : Int32)) 483 9 (0 : Int32)) 483 12 (0 : Int32)) = σ0 at *
  obtain ⟨y1, σ1, m1, k1, o1, c1⟩ := clause_r (F := F) hT hF hk (Nat.zero_le 12) S0 (Nat.le_refl _) (Nat.zero_le _) (Nat.zero_le _) M0 c14
  rw [m1, Option.bind_some]
  dsimp only
  unfold rulS
  rw [rulL_one]
  cases hv : oneC B L 0 (0, 0, 0, fun _ => 0) (fun _ _ => 0) with
  | error f =>
    rw [hv] at o1
    obtain ⟨e1, e2⟩ := o1
    subst e1
    have hf := oneC_err (s := (0, 0, 0, fun _ => 0)) hT (Nat.zero_le _) (Nat.zero_le _) hv
    obtain ⟨σ4, m4, k4, o4⟩ := r88_bad (F := F) (k := k) e2 hf
    obtain ⟨G, rfl⟩ : ∃ q, F = q + 1 := ⟨F - 1, by omega⟩
    refine ⟨0, σ4, ?_, (K0.trans k1).trans k4, o4⟩
    show (if (0 : Int32) = 0 then m12_readsAll_66 (G + 1) 0 σ1 else _) = _
    rw [if_pos rfl]
    unfold m12_readsAll_66
    rw [if_pos rfl]
    exact m4
  | ok z =>
    rw [hv] at o1
    obtain ⟨e1, S1, M1⟩ := o1
    obtain ⟨b1, b2, b3, b4⟩ := oneC_ok (s := (0, 0, 0, fun _ => 0)) hT (Nat.le_refl _) (Nat.zero_le _) (Nat.zero_le _) hv
    have c4 := c1 e1
    subst e1
    obtain ⟨y2, σ2, m2, k2, o2⟩ := rd35_r (F := F) hT hF hk 12 0 F z σ1 (by decide) (by decide) (by omega) S1 M1 b1 b2 b3 c4
    exact ⟨y2, σ2, m2, (K0.trans k1).trans k2, o2⟩
