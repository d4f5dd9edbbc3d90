/-! READERS: smith, job, worn, count -/
def Rds (a b : Option Int32) : Prop := ∃ r, a = some r ∧ b = some r
theorem earned_c {F m : Nat} {σ : Mem} {P A : Dat} {p : Int} (hP : RepP 17 σ P) (hS : RepS 26 σ A) (bP : Bd 1000 P) (bA : Bd 800000000 A) (hp : -1000 ≤ p ∧ p ≤ 1000) (hm : P 0 5 = (m : Int)) (hm8 : m ≤ 8) (hF : 100 ≤ F) : m7_earnedBy F 26 17 (w32 p) σ = some (w32 (earnN P A p)) := by
  have e5 : gI σ 17 5 = w32 (m : Int) := by rw [← hm]; exact hP.at 0 5
  have loop : ∀ (d n j : Nat) (s : Int), j + d = m → d < n → m7_earnedBy_5 F 26 17 (w32 p) σ n (w32 s) (w32 (j : Int)) = some (w32 (earnL P A p d j s)) := by
    intro d
    induction d with
    | zero =>
      intro n j s h1 h2
      obtain ⟨n, rfl⟩ : ∃ k, n = k + 1 := ⟨n - 1, by omega⟩
      unfold m7_earnedBy_5
      rw [e5, if_pos (by rw [w_le (by omega) (by omega) (by omega) (by omega)]; omega)]; rfl
    | succ d ih =>
      intro n j s h1 h2
      obtain ⟨n, rfl⟩ : ∃ k, n = k + 1 := ⟨n - 1, by omega⟩
      have e2 : gI σ (17 + 2) j = w32 (P 2 j) := hP.at 2 j
      have e6 : gI σ (26 + 6) j = w32 (A 6 j) := hS.at 6 j
      have e7 : gI σ (17 + 7) j = w32 (P 7 j) := hP.at 7 j
      have b2 := bP 2 j
      have b6 := bA 6 j
      unfold m7_earnedBy_5 earnL
      rw [e5, if_neg (by rw [w_le (by omega) (by omega) (by omega) (by omega)]; omega), gd_pos (w_inB (by omega) (by omega) (by omega)), w_natk (by omega), e2, w_succ]
      by_cases h : P 2 j = p
      · rw [if_pos (by rw [h]), gd_pos (w_inB (by omega) (by omega) (by omega)), e6]
        by_cases g : A 6 j = 0
        · rw [if_pos (by rw [g]; rfl), gd_pos (w_inB (by omega) (by omega) (by omega)), e7, w_add, if_pos ⟨h, g⟩]
          exact ih n (j + 1) _ (by omega) (by omega)
        · rw [if_neg (by rw [wl_0, w_eq (by omega) (by omega) (by omega) (by omega)]; exact g), if_neg (fun z => g z.2), wl_0, w_add, Int.add_zero]
          exact ih n (j + 1) _ (by omega) (by omega)
      · rw [if_neg (by rw [w_eq (by omega) (by omega) (by omega) (by omega)]; exact h), if_neg (fun z => h z.1), wl_0, w_add, Int.add_zero]
        exact ih n (j + 1) _ (by omega) (by omega)
  unfold m7_earnedBy earnN
  rw [hm, Int.toNat_natCast]
  exact loop m F 0 0 (by omega) (by omega)
theorem smith_q {F t : Nat} {S : Ab} {σ : Mem} (hC : CInv S σ) (hR : RInv S σ) (wf : Wf t S) (ht : t ≤ 600) (hF : 10000 ≤ F) (x y : Int32) : Rds (m11_smith F x y σ) (m12_smith F x y σ) := by
  obtain ⟨c, rfl, c1, c2⟩ := arg x
  have wPl := wf.1.1
  have wI := wf.1.2.1.1
  obtain ⟨m5, hm, hm8⟩ := wPl.1.2.1
  obtain ⟨n4, hn, hn3⟩ := wPl.1.2.2.1
  have bP := wPl.1.1
  have bA := wI.bd (show t ≤ 9000 by omega)
  have hE := hR.E wf
  have hs := hasSmith_c (F := F) (z := c) hC.1.1 wPl.1 c1 c2
  have hr := isSmith_r (F := F) (z := c) hE.1 wPl.1 c1 c2
  by_cases hc : 0 ≤ c ∧ c < wP (sW S) 0 4
  · obtain ⟨p, rfl⟩ : ∃ p : Nat, c = p := ⟨c.toNat, by omega⟩
    rw [if_pos hc] at hs hr
    have hj := jobOf_ok (F := F) (p := (p : Int)) hC.1.1 hC.1.2.1 (bP.mono (by decide)) (bA.mono (by decide)) (by omega) hm hm8 (by omega)
    have sa : ∀ i, 1 ≤ i → i ≤ 5 → gI σ (26 + i) p = w32 (wA (sW S) i p) ∧ gI σ 493 (sidx i p) = w32 (wA (sW S) i p) := fun i h1 h2 => ⟨hC.1.2.1 i (by omega) p (by rcases (show i = 1 ∨ i = 2 ∨ i = 3 ∨ i = 4 ∨ i = 5 by omega) with rfl | rfl | rfl | rfl | rfl <;> (show p < 3; omega)), hE.1.1 i p (by omega) (by rcases (show i = 1 ∨ i = 2 ∨ i = 3 ∨ i = 4 ∨ i = 5 by omega) with rfl | rfl | rfl | rfl | rfl <;> exact hc.2)⟩
    have hp3 : p < 3 := by omega
    unfold m11_smith m12_smith
    rw [hs, hr, Option.bind_some, Option.bind_some, if_neg (show ¬ (1 : Int32) = 0 by decide), if_neg (show ¬ (1 : Int32) = 0 by decide), hj, Option.bind_some]
    by_cases y0 : y = 0
    · subst y0
      rw [if_pos rfl, if_pos rfl, gd_pos (w_inB (by omega) (by omega) (by omega)), w_natk (by omega), so_0 hp3, Option.bind_some]
      obtain ⟨u, v⟩ := sa 1 (by decide) (by decide)
      exact ⟨_, rfl, congrArg some (v.trans u.symm)⟩
    rw [if_neg y0, if_neg y0]
    by_cases y1 : y = 1
    · subst y1
      have mj := jobNow_r (F := F) (K := Kp) (p := p) hE.1 hE.2.1 wI.1 wPl.1 (bA.mono (by decide)) (by decide) hp3 (by omega)
      rw [jbs_Kp] at mj
      rw [if_pos rfl, if_pos rfl, mj, Option.bind_some]
      exact ⟨_, rfl, rfl⟩
    rw [if_neg y1, if_neg y1]
    by_cases y2 : y = 2
    · subst y2
      rw [if_pos rfl, if_pos rfl]
      have mj := jobNow_r (F := F) (K := Kp) (p := p) hE.1 hE.2.1 wI.1 wPl.1 (bA.mono (by decide)) (by decide) hp3 (by omega)
      rw [jbs_Kp] at mj
      obtain ⟨g1, g2, -⟩ := jobN_rg (P := wP (sW S)) (A := wA (sW S)) (p := (p : Int)) hm
      by_cases hj1 : jobN (wP (sW S)) (wA (sW S)) p = -1
      · refine ⟨0, ?_, ?_⟩
        · rw [hj1, if_pos (show w32 (-1) = (-1 : Int32) from rfl)]
        · unfold m12_isHot
          rw [mj, Option.bind_some, hj1]
          rfl
      · have mh := isHot_r (F := F) (K := Kp) (p := p) hE.1 hE.2.1 wI.1 wPl.1 (bA.mono (by decide)) (by decide) hc.2 (by rw [jbs_Kp]; exact hj1) (by omega)
        rw [jbs_Kp] at mh
        obtain ⟨j, hjj⟩ : ∃ j : Nat, jobN (wP (sW S)) (wA (sW S)) p = j := ⟨(jobN (wP (sW S)) (wA (sW S)) p).toNat, by omega⟩
        rw [hjj, Int.toNat_natCast] at mh
        have e23 : gI σ 23 j = w32 (wP (sW S) 6 j) := hC.1.1.at 6 j
        have b6 := bP 6 j
        have b1 := bA 1 p
        obtain ⟨u, -⟩ := sa 1 (by decide) (by decide)
        have u : gI σ 27 p = w32 (wA (sW S) 1 p) := u
        rw [mh, Option.bind_some, hjj, if_neg (by rw [wl_m1, w_eq (by omega) (by omega) (by omega) (by omega)]; omega), gd_pos (w_inB (by omega) (by omega) (by omega)), gd_pos (w_inB (by omega) (by omega) (by omega)), w_natk (by omega), w_natk (by omega), u, e23]
        by_cases hh : wA (sW S) 1 p < wP (sW S) 6 j
        · rw [if_pos (by rw [w_lt (by omega) (by omega) (by omega) (by omega)]; exact hh), if_pos hh]
          exact ⟨_, rfl, rfl⟩
        · rw [if_neg (by rw [w_lt (by omega) (by omega) (by omega) (by omega)]; exact hh), if_neg hh]
          exact ⟨_, rfl, rfl⟩
    rw [if_neg y2, if_neg y2]
    by_cases y3 : y = 3
    · subst y3
      rw [if_pos rfl, if_pos rfl, gd_pos (w_inB (by omega) (by omega) (by omega)), w_natk (by omega), show (3 : Int32) - (2 : Int32) = 1 from rfl, so_1 hp3, Option.bind_some]
      obtain ⟨u, v⟩ := sa 2 (by decide) (by decide)
      exact ⟨_, rfl, congrArg some (v.trans u.symm)⟩
    rw [if_neg y3, if_neg y3]
    by_cases y4 : y = 4
    · subst y4
      rw [if_pos rfl, if_pos rfl, gd_pos (w_inB (by omega) (by omega) (by omega)), w_natk (by omega), show (4 : Int32) - (2 : Int32) = 2 from rfl, so_2 hp3, Option.bind_some]
      obtain ⟨u, v⟩ := sa 3 (by decide) (by decide)
      exact ⟨_, rfl, congrArg some (v.trans u.symm)⟩
    rw [if_neg y4, if_neg y4]
    by_cases y5 : y = 5
    · subst y5
      have v : gI σ 493 (13 + 7 * p) = w32 (wA (sW S) 10 p) := hE.1.1 10 p (by decide) hc.2
      rw [if_pos rfl, if_pos rfl, earned_c hC.1.1 hC.1.2.1 bP bA (by omega) hm hm8 (by omega), show (5 : Int32) - (2 : Int32) = 3 from rfl, so_3 hp3, Option.bind_some, Option.bind_some, v, wf.1.2.1.2.2.1 p hc.2]
      exact ⟨_, rfl, rfl⟩
    rw [if_neg y5, if_neg y5]
    by_cases y6 : y = 6
    · subst y6
      rw [if_pos rfl, if_pos rfl, gd_pos (w_inB (by omega) (by omega) (by omega)), w_natk (by omega), show (6 : Int32) - (2 : Int32) = 4 from rfl, so_4 hp3, Option.bind_some]
      obtain ⟨u, v⟩ := sa 4 (by decide) (by decide)
      exact ⟨_, rfl, congrArg some (v.trans u.symm)⟩
    rw [if_neg y6, if_neg y6]
    by_cases y7 : y = 7
    · subst y7
      have v : gI σ 493 (15 + 7 * p) = w32 (wP (sW S) 1 p) := hE.1.2.2.1 p hc.2
      have u : gI σ 18 p = w32 (wP (sW S) 1 p) := hC.1.1.at 1 p
      rw [if_pos rfl, if_pos rfl, gd_pos (w_inB (by omega) (by omega) (by omega)), w_natk (by omega), show (7 : Int32) - (2 : Int32) = 5 from rfl, so_5 hp3, Option.bind_some]
      exact ⟨_, rfl, congrArg some (v.trans u.symm)⟩
    rw [if_neg y7, if_neg y7]
    by_cases y8 : y = 8
    · subst y8
      rw [if_pos rfl, if_pos rfl, gd_pos (w_inB (by omega) (by omega) (by omega)), w_natk (by omega), show (8 : Int32) - (2 : Int32) = 6 from rfl, so_6 hp3, Option.bind_some]
      obtain ⟨u, v⟩ := sa 5 (by decide) (by decide)
      exact ⟨_, rfl, congrArg some (v.trans u.symm)⟩
    rw [if_neg y8, if_neg y8]
    exact ⟨_, rfl, rfl⟩
  · rw [if_neg hc] at hs hr
    refine ⟨-2, ?_, ?_⟩
    · unfold m11_smith
      rw [hs, Option.bind_some, if_pos rfl]
    · unfold m12_smith
      rw [hr, Option.bind_some, if_pos rfl]
theorem job_q {F t : Nat} {S : Ab} {σ : Mem} (hC : CInv S σ) (hR : RInv S σ) (wf : Wf t S) (x y : Int32) : Rds (m11_job F x y σ) (m12_job F x y σ) := by
  obtain ⟨c, rfl, c1, c2⟩ := arg x
  obtain ⟨b, rfl, b1, b2⟩ := arg y
  have wPl := wf.1.1
  obtain ⟨m5, hm, hm8⟩ := wPl.1.2.1
  have hE := hR.E wf
  have hs := hasJob_c (F := F) (z := c) hC.1.1 wPl.1 c1 c2
  have hr := isJob_r (F := F) (z := c) hE.1 wPl.1 c1 c2
  have inW : m12_in F (w32 b).toInt64 (0 : Int64) (5 : Int64) σ = some (if 0 ≤ b ∧ b ≤ 5 then (1 : Int32) else 0) := in_r rfl rfl b1 b2 (by decide) (by decide)
  by_cases hc : 0 ≤ c ∧ c < wP (sW S) 0 5
  · obtain ⟨j, rfl⟩ : ∃ j : Nat, c = j := ⟨c.toNat, by omega⟩
    rw [if_pos hc] at hs hr
    have hj8 : j < 8 := by omega
    obtain ⟨q1, q2, q3, q4, -⟩ := hE.1.2.2.2.1 j hc.2
    have a6 : gI σ 493 (33 + 8 * j) = w32 (wA (sW S) 6 j) := hE.1.1 6 j (by decide) hc.2
    have a7 : gI σ 493 (36 + 8 * j) = w32 (wA (sW S) 7 j) := hE.1.1 7 j (by decide) hc.2
    have d2 : gI σ 19 j = w32 (wP (sW S) 2 j) := hC.1.1.at 2 j
    have d3 : gI σ 20 j = w32 (wP (sW S) 3 j) := hC.1.1.at 3 j
    have d6 : gI σ 23 j = w32 (wP (sW S) 6 j) := hC.1.1.at 6 j
    have d7 : gI σ 24 j = w32 (wP (sW S) 7 j) := hC.1.1.at 7 j
    have s6 : gI σ 32 j = w32 (wA (sW S) 6 j) := hC.1.2.1.at 6 j
    have s7 : gI σ 33 j = w32 (wA (sW S) 7 j) := hC.1.2.1.at 7 j
    unfold m11_job m12_job
    rw [hs, hr, Option.bind_some, Option.bind_some, if_neg (show ¬ (1 : Int32) = 0 by decide), if_neg (show ¬ (1 : Int32) = 0 by decide), inW, Option.bind_some]
    by_cases hb : 0 ≤ b ∧ b ≤ 5
    · rw [if_pos hb, if_neg (show ¬ (1 : Int32) = 0 by decide)]
      rcases (show b = 0 ∨ b = 1 ∨ b = 2 ∨ b = 3 ∨ b = 4 ∨ b = 5 by omega) with rfl | rfl | rfl | rfl | rfl | rfl
      · rw [if_pos (show w32 0 = (0 : Int32) from rfl), gd_pos (w_inB (by omega) (by omega) (by omega)), w_natk (by omega), show w32 0 = (0 : Int32) from rfl, jo_0 hj8, Option.bind_some]
        exact ⟨_, rfl, congrArg some (q1.trans d2.symm)⟩
      · rw [if_neg (show ¬ w32 1 = (0 : Int32) by decide), if_pos (show w32 1 = (1 : Int32) from rfl), gd_pos (w_inB (by omega) (by omega) (by omega)), w_natk (by omega), show w32 1 = (1 : Int32) from rfl, jo_1 hj8, Option.bind_some]
        exact ⟨_, rfl, congrArg some (q2.trans d3.symm)⟩
      · rw [if_neg (show ¬ w32 2 = (0 : Int32) by decide), if_neg (show ¬ w32 2 = (1 : Int32) by decide), if_pos (show w32 2 = (2 : Int32) from rfl), gd_pos (w_inB (by omega) (by omega) (by omega)), w_natk (by omega), show w32 2 = (2 : Int32) from rfl, jo_2 hj8, Option.bind_some]
        exact ⟨_, rfl, congrArg some (a6.trans s6.symm)⟩
      · rw [if_neg (show ¬ w32 3 = (0 : Int32) by decide), if_neg (show ¬ w32 3 = (1 : Int32) by decide), if_neg (show ¬ w32 3 = (2 : Int32) by decide), if_pos (show w32 3 = (3 : Int32) from rfl), gd_pos (w_inB (by omega) (by omega) (by omega)), w_natk (by omega), show w32 3 = (3 : Int32) from rfl, jo_3 hj8, Option.bind_some]
        exact ⟨_, rfl, congrArg some (q3.trans d6.symm)⟩
      · rw [if_neg (show ¬ w32 4 = (0 : Int32) by decide), if_neg (show ¬ w32 4 = (1 : Int32) by decide), if_neg (show ¬ w32 4 = (2 : Int32) by decide), if_neg (show ¬ w32 4 = (3 : Int32) by decide), if_pos (show w32 4 = (4 : Int32) from rfl), gd_pos (w_inB (by omega) (by omega) (by omega)), w_natk (by omega), show w32 4 = (4 : Int32) from rfl, jo_4 hj8, Option.bind_some]
        exact ⟨_, rfl, congrArg some (q4.trans d7.symm)⟩
      · rw [if_neg (show ¬ w32 5 = (0 : Int32) by decide), if_neg (show ¬ w32 5 = (1 : Int32) by decide), if_neg (show ¬ w32 5 = (2 : Int32) by decide), if_neg (show ¬ w32 5 = (3 : Int32) by decide), if_neg (show ¬ w32 5 = (4 : Int32) by decide), if_pos (show w32 5 = (5 : Int32) from rfl), gd_pos (w_inB (by omega) (by omega) (by omega)), w_natk (by omega), show w32 5 = (5 : Int32) from rfl, jo_5 hj8, Option.bind_some]
        exact ⟨_, rfl, congrArg some (a7.trans s7.symm)⟩
    · rw [if_neg hb, if_pos (show (0 : Int32) = 0 from rfl), if_neg (show ¬ w32 b = (0 : Int32) by rw [wl_0, w_eq (by omega) (by omega) (by omega) (by omega)]; omega), if_neg (show ¬ w32 b = (1 : Int32) by rw [wl_1, w_eq (by omega) (by omega) (by omega) (by omega)]; omega), if_neg (show ¬ w32 b = (2 : Int32) by rw [wl_2, w_eq (by omega) (by omega) (by omega) (by omega)]; omega), if_neg (show ¬ w32 b = (3 : Int32) by rw [wl_3, w_eq (by omega) (by omega) (by omega) (by omega)]; omega), if_neg (show ¬ w32 b = (4 : Int32) by rw [wl_4, w_eq (by omega) (by omega) (by omega) (by omega)]; omega), if_neg (show ¬ w32 b = (5 : Int32) by rw [wl_5, w_eq (by omega) (by omega) (by omega) (by omega)]; omega)]
      exact ⟨_, rfl, rfl⟩
  · rw [if_neg hc] at hs hr
    refine ⟨-2, ?_, ?_⟩
    · unfold m11_job
      rw [hs, Option.bind_some, if_pos rfl]
    · unfold m12_job
      rw [hr, Option.bind_some, if_pos rfl]
theorem worn_q {F t : Nat} {S : Ab} {σ : Mem} (hC : CInv S σ) (hR : RInv S σ) (wf : Wf t S) (x : Int32) : Rds (m11_worn F x σ) (m12_worn F x σ) := by
  obtain ⟨c, rfl, c1, c2⟩ := arg x
  have wPl := wf.1.1
  have hE := hR.E wf
  have hs := hasPart_c (F := F) (z := c) hC.1.1 wPl c1 c2
  have inW : m12_in F (w32 c).toInt64 (0 : Int64) (2 : Int64) σ = some (if 0 ≤ c ∧ c ≤ 2 then (1 : Int32) else 0) := in_r rfl rfl c1 c2 (by decide) (by decide)
  have hr := isSmithy_r (F := F) hE.1 wPl
  by_cases h1 : wP (sW S) 0 0 = 1
  · rw [if_pos h1] at hr
    by_cases hc : 0 ≤ c ∧ c ≤ 2
    · obtain ⟨k, rfl⟩ : ∃ k : Nat, c = k := ⟨c.toNat, by omega⟩
      rw [if_pos ⟨h1, hc⟩] at hs
      have ix : (95 : Int32) + w32 (k : Int) = w32 ((95 + k : Nat) : Int) := by rw [wl_95, w_add]; congr 1
      have u : gI σ 35 k = w32 (wA (sW S) 9 k) := hC.1.2.1.at 9 k
      have v : gI σ 493 (95 + k) = w32 (wA (sW S) 9 k) := hE.1.1 9 k (by decide) (by show k < 3; omega)
      refine ⟨w32 (wA (sW S) 9 k), ?_, ?_⟩
      · unfold m11_worn
        rw [hs, Option.bind_some, if_neg (by decide), gd_pos (w_inB (by omega) (by omega) (by omega)), w_natk (by omega), u]
      · unfold m12_worn
        rw [hr, Option.bind_some, if_neg (by decide), inW, Option.bind_some, if_pos hc, if_neg (by decide), ix, gd_pos (w_inB (by omega) (by omega) (by omega)), w_natk (by omega), v]
    · rw [if_neg (fun z => hc z.2)] at hs
      refine ⟨-1, ?_, ?_⟩
      · unfold m11_worn
        rw [hs, Option.bind_some, if_pos rfl]
      · unfold m12_worn
        rw [hr, Option.bind_some, if_neg (by decide), inW, Option.bind_some, if_neg hc, if_pos rfl]
  · rw [if_neg h1] at hr
    rw [if_neg (fun z => h1 z.1)] at hs
    refine ⟨-1, ?_, ?_⟩
    · unfold m11_worn
      rw [hs, Option.bind_some, if_pos rfl]
    · unfold m12_worn
      rw [hr, Option.bind_some, if_pos rfl]
