/-! ACTS: note, image, back -/
theorem SaidR.cp {f g : Nat → Int32} {P A : Dat} (h : SaidR f P A) (wPl : WfPl P) (e : ∀ k, k < 132 → g k = f k) : SaidR g P A := by
  obtain ⟨m5, hm, hm8⟩ := wPl.1.2.1
  obtain ⟨n4, hn, hn3⟩ := wPl.1.2.2.1
  exact ⟨h.1.same (by omega) (by omega) (fun k hk => e k (by omega)), fun k hk => by rw [e _ (by omega)]; exact h.2 k hk⟩
theorem NoteR.cp {f g : Nat → Int32} {N : Dat} (h : NoteR f N) (h10 : N 0 0 ≤ 10) (e : ∀ k, k < 132 → g k = f k) : NoteR g N :=
  ⟨by rw [e _ (by omega)]; exact h.1, fun i hi => by rw [e _ (by omega), e _ (by omega), e _ (by omega)]; exact h.2 i hi⟩
theorem RInv.N {σ σ' : Mem} {S : Ab} {N : Dat} (hR : RInv S σ) (wPl : WfPl (wP (sW S))) (f : Fr (fun c => c = 493) σ σ') (e : ∀ k, k < 101 → gI σ' 493 k = gI σ 493 k) (n : NoteR (gI σ' 493) N) : RInv (stW S (wP (sW S), wA (sW S), N, wF (sW S), wX (sW S)) (sPc S) (sH S)) σ' := by
  obtain ⟨m5, hm, hm8⟩ := wPl.1.2.1
  obtain ⟨n4, hn, hn3⟩ := wPl.1.2.2.1
  refine hR.W ⟨hR.1.1.1.same (by omega) (by omega) (fun k hk => e k (by omega)), fun k hk => by rw [e _ (by omega)]; exact hR.1.1.2 k hk⟩ n ?_ ?_ (fun j hj => by rw [f.gI (by decide)]) ?_ (fun i hi => ?_) (fun c hc => f.gI (by omega))
  · rw [f.gI (by decide)]; exact hR.2.1.1
  · rw [f.gI (by decide)]; exact hR.2.1.2.1
  · rw [f.gI (by decide)]; exact hR.2.2.2.2.1.1
  · rw [f.gI (by decide)]; exact hR.2.2.2.2.1.2 i hi
theorem CInv.N {V : Nat → Prop} {σ σ' : Mem} {S : Ab} {N : Dat} (hC : CInv S σ) (rc : sRc S ≤ 6) (f : Fr V σ σ') (hv : ∀ c, V c → 36 ≤ c ∧ c ≤ 39) (h : RepN 36 σ' N) : CInv (stW S (wP (sW S), wA (sW S), N, wF (sW S), wX (sW S)) (sPc S) (sH S)) σ' := by
  obtain ⟨a, b, d, e, g⟩ := hC.1
  exact hC.W0 rc f (fun c z => by have := hv c z; omega) ⟨a.fr f (fun i hi z => by have := hv _ z; omega), b.fr f (fun i hi z => by have := hv _ z; omega), h, by rw [f.gI (fun z => by have := hv _ z; omega)]; exact e, by rw [f.gI (fun z => by have := hv _ z; omega)]; exact g⟩
theorem note_q {F t : Nat} {S : Ab} {σ : Mem} (hC : CInv S σ) (hR : RInv S σ) (wfx : Wfx t S) (x y z : Int32) : Acts t (m11_note F x y z σ) (m12_note F x y z) := by
  obtain ⟨a, rfl, a1, a2⟩ := arg x
  obtain ⟨b, rfl, b1, b2⟩ := arg y
  obtain ⟨c, rfl, c1, c2⟩ := arg z
  have wf := wfx.1
  have wPl := wf.1.1
  have hwN := wf.1.2.2.1
  have rc6 := wf.2.1.1
  by_cases hm1 : a = -1
  · have m1 : m11_note F (w32 a) (w32 b) (w32 c) σ = some ((0 : Int32), sI σ 36 0 (0 : Int32)) := by
      unfold m11_note
      rw [if_pos (by rw [hm1]; rfl)]
    have f1 := f11_note m1
    have hR1 := hR.cls wf f1 (fun c z => by unfold Wm11_note at z; omega)
    have m2 : m12_note F (w32 a) (w32 b) (w32 c) (sI σ 36 0 (0 : Int32)) = some ((0 : Int32), sI (sI σ 36 0 (0 : Int32)) 493 131 (0 : Int32)) := by
      unfold m12_note
      rw [if_pos (by rw [hm1]; rfl), gd_pos (by decide)]; rfl
    have f2 := f12_note m2
    have hd := hC.1.2.2.1
    have hC1 := hC.N (N := up (wN (sW S)) 0 0 0) rc6 f1 (fun c z => by unfold Wm11_note at z; omega) ⟨by rw [gI_eq, up_eq]; rfl, fun i h1 h2 j hj => by rw [gI_nec (by omega), up_ne (Or.inl (by omega))]; exact hd.2 i h1 h2 j hj⟩
    refine ⟨_, ⟨wf.W (w := (wP (sW S), wA (sW S), up (wN (sW S)) 0 0 0, wF (sW S), wX (sW S))) ⟨wPl, wf.1.2.1, ⟨?_, ?_, fun i hi => ?_⟩, wf.1.2.2.2⟩ rfl, wfx.2⟩, _, _, _, m1, m2, hC1.fr rc6 f2 (fun c z => by unfold Wm12_note at z; unfold Scr; omega), hR1.N wPl ((Fr.rf (fun c => c = 493) _).sI rfl) (fun k hk => by rw [gI_nej (by omega)]) ⟨by rw [gI_eq, up_eq]; rfl, fun i hi => ?_⟩⟩
    · show 0 ≤ up (wN (sW S)) 0 0 0 0 0
      rw [up_eq]; omega
    · show up (wN (sW S)) 0 0 0 0 0 ≤ 10
      rw [up_eq]; omega
    · have hi : (i : Int) < up (wN (sW S)) 0 0 0 0 0 := hi
      rw [up_eq] at hi; omega
    · rw [up_eq] at hi; omega
  · have hs := hasPart_c (F := F) (z := b) hC.1.1 wPl b1 b2
    have inA : ∀ τ, m12_in F (w32 a).toInt64 (0 : Int64) (99 : Int64) τ = some (if 0 ≤ a ∧ a ≤ 99 then (1 : Int32) else 0) := fun τ => in_r rfl rfl a1 a2 (by decide) (by decide)
    have inB' : ∀ τ, m12_in F (w32 b).toInt64 (0 : Int64) (2 : Int64) τ = some (if 0 ≤ b ∧ b ≤ 2 then (1 : Int32) else 0) := fun τ => in_r rfl rfl b1 b2 (by decide) (by decide)
    have inC : ∀ τ, m12_in F (w32 c).toInt64 (0 : Int64) (9999 : Int64) τ = some (if 0 ≤ c ∧ c ≤ 9999 then (1 : Int32) else 0) := fun τ => in_r rfl rfl c1 c2 (by decide) (by decide)
    have hr : ∀ σ1, RInv S σ1 → m12_isSmithy F σ1 = _ := fun σ1 h => isSmithy_r (F := F) (h.E wf).1 wPl
    have e36 : gI σ 36 0 = w32 (wN (sW S) 0 0) := hC.1.2.2.1.1
    have r131 : ∀ σ1, RInv S σ1 → gI σ1 493 131 = w32 (wN (sW S) 0 0) := fun σ1 h => h.1.2.1
    by_cases ok : (wP (sW S) 0 0 = 1 ∧ 0 ≤ b ∧ b ≤ 2) ∧ (0 ≤ a ∧ a ≤ 99) ∧ (0 ≤ c ∧ c ≤ 9999) ∧ wN (sW S) 0 0 < 10
    · obtain ⟨k1, k2, k3, k4⟩ := ok
      have hw0 := hwN.1
      obtain ⟨k, hk⟩ : ∃ k : Nat, wN (sW S) 0 0 = k := ⟨(wN (sW S) 0 0).toNat, by omega⟩
      rw [if_pos k1] at hs
      obtain ⟨N', hN'⟩ : ∃ N', N' = up (up (up (up (wN (sW S)) 1 k a) 2 k b) 3 k c) 0 0 ((k + 1 : Nat) : Int) := ⟨_, rfl⟩
      have n0 : N' 0 0 = ((k + 1 : Nat) : Int) := by rw [hN', up_eq]
      have nk : ∀ q, N' 1 q = (if q = k then a else wN (sW S) 1 q) ∧ N' 2 q = (if q = k then b else wN (sW S) 2 q) ∧ N' 3 q = (if q = k then c else wN (sW S) 3 q) := fun q => by
        rw [hN']
        by_cases e : q = k
        · subst e; simp [up_at]
        · simp [up_at, e]
      obtain ⟨σ1, hσ1⟩ : ∃ σ1, σ1 = sI (sI (sI (sI σ 37 k (w32 a)) 38 k (w32 b)) 39 k (w32 c)) 36 0 (w32 ((k + 1 : Nat) : Int)) := ⟨_, rfl⟩
      have m1 : m11_note F (w32 a) (w32 b) (w32 c) σ = some (w32 ((k + 1 : Nat) : Int), σ1) := by
        unfold m11_note
        rw [if_neg (by rw [wl_m1, w_eq (by omega) (by omega) (by omega) (by omega)]; exact hm1), hs, Option.bind_some, if_neg (by decide), if_neg (by rw [wl_0, w_lt (by omega) (by omega) (by omega) (by omega)]; omega), if_neg (by rw [wl_100, w_le (by omega) (by omega) (by omega) (by omega)]; omega), if_neg (by rw [wl_0, w_lt (by omega) (by omega) (by omega) (by omega)]; omega), if_pos (by rw [wl_9999, w_le (by omega) (by omega) (by omega) (by omega)]; omega), e36, if_pos (by rw [wl_10, w_lt (by omega) (by omega) (by omega) (by omega)]; omega)]
        unfold m3_add
        rw [e36, hk, if_neg (by rw [wl_10, w_le (by omega) (by omega) (by omega) (by omega)]; omega), gd_pos (w_inB (by omega) (by omega) (by omega)), w_natk (by omega)]
        show Option.bind (gd (inB (gI (sI σ 37 k (w32 a)) 36 0) 10 = true) (gd (inB (gI (sI (sI σ 37 k (w32 a)) 38 (gI (sI σ 37 k (w32 a)) 36 0).toNatClampNeg (w32 b)) 36 0) 10 = true) (some (sI (sI (sI (sI σ 37 k (w32 a)) 38 (gI (sI σ 37 k (w32 a)) 36 0).toNatClampNeg (w32 b)) 39 (gI (sI (sI σ 37 k (w32 a)) 38 (gI (sI σ 37 k (w32 a)) 36 0).toNatClampNeg (w32 b)) 36 0).toNatClampNeg (w32 c)) 36 0 (gI (sI (sI (sI σ 37 k (w32 a)) 38 (gI (sI σ 37 k (w32 a)) 36 0).toNatClampNeg (w32 b)) 39 (gI (sI (sI σ 37 k (w32 a)) 38 (gI (sI σ 37 k (w32 a)) 36 0).toNatClampNeg (w32 b)) 36 0).toNatClampNeg (w32 c)) 36 0 + (1 : Int32)))))) _ = _
        have z1 : gI (sI σ 37 k (w32 a)) 36 0 = w32 (k : Int) := by rw [gI_nec (by decide), e36, hk]
        rw [z1, w_natk (by omega)]
        have z2 : gI (sI (sI σ 37 k (w32 a)) 38 k (w32 b)) 36 0 = w32 (k : Int) := by rw [gI_nec (by decide), z1]
        rw [z2, w_natk (by omega)]
        have z3 : gI (sI (sI (sI σ 37 k (w32 a)) 38 k (w32 b)) 39 k (w32 c)) 36 0 = w32 (k : Int) := by rw [gI_nec (by decide), z2]
        rw [z3, w_succ, ← hσ1, gd_pos (w_inB (by omega) (by omega) (by omega)), gd_pos (w_inB (by omega) (by omega) (by omega)), Option.bind_some, show gI σ1 36 0 = w32 ((k + 1 : Nat) : Int) by rw [hσ1, gI_eq]]
      have f1 := f11_note m1
      have hR1 := hR.cls wf f1 (fun c z => by unfold Wm11_note at z; omega)
      have hC1 := hC.N (N := N') rc6 f1 (fun c z => by unfold Wm11_note at z; omega) ⟨by rw [hσ1, gI_eq, n0], fun i h1 h2 j hj => by
        have hd := hC.1.2.2.1.2 i h1 h2 j hj
        have hd : gI σ (36 + i) j = w32 (wN (sW S) i j) := hd
        obtain ⟨n1, n2, n3⟩ := nk j
        rcases (show i = 1 ∨ i = 2 ∨ i = 3 by omega) with rfl | rfl | rfl
        · rw [hσ1, gI_nec (by decide), gI_nec (by decide), gI_nec (by decide), n1]
          by_cases e : j = k
          · rw [if_pos e, e, gI_eq]
          · rw [if_neg e, gI_nej (by omega)]; exact hd
        · rw [hσ1, gI_nec (by decide), gI_nec (by decide), n2]
          by_cases e : j = k
          · rw [if_pos e, e, gI_eq]
          · rw [if_neg e, gI_nej (by omega), gI_nec (by decide)]; exact hd
        · rw [hσ1, gI_nec (by decide), n3]
          by_cases e : j = k
          · rw [if_pos e, e, gI_eq]
          · rw [if_neg e, gI_nej (by omega), gI_nec (by decide), gI_nec (by decide)]; exact hd⟩
      have hr := hr _ hR1
      rw [if_pos k1.1] at hr
      have iA := inA
      have iB := inB'
      have iC := inC
      rw [if_pos k2] at iA
      rw [if_pos k1.2] at iB
      rw [if_pos k3] at iC
      have x1 : (101 : Int32) + (3 : Int32) * w32 (k : Int) = w32 ((101 + 3 * k : Nat) : Int) := by rw [wl_101, wl_3, w_mul, w_add]; congr 1 <;> omega
      have x2 : (101 : Int32) + (3 : Int32) * w32 (k : Int) + (1 : Int32) = w32 ((102 + 3 * k : Nat) : Int) := by rw [x1, w_succ]; congr 2 <;> omega
      have x3 : (101 : Int32) + (3 : Int32) * w32 (k : Int) + (2 : Int32) = w32 ((103 + 3 * k : Nat) : Int) := by rw [x1, wl_2, w_add]; congr 1; omega
      obtain ⟨σ2, hσ2⟩ : ∃ σ2, σ2 = sI (sI (sI (sI σ1 493 (101 + 3 * k) (w32 a)) 493 (102 + 3 * k) (w32 b)) 493 (103 + 3 * k) (w32 c)) 493 131 (w32 ((k + 1 : Nat) : Int)) := ⟨_, rfl⟩
      have m2 : m12_note F (w32 a) (w32 b) (w32 c) σ1 = some (w32 ((k + 1 : Nat) : Int), σ2) := by
        unfold m12_note
        rw [if_neg (by rw [wl_m1, w_eq (by omega) (by omega) (by omega) (by omega)]; exact hm1), hr, Option.bind_some, if_neg (by decide), iA, Option.bind_some, if_neg (by decide), iB, Option.bind_some, if_neg (by decide), iC, Option.bind_some, if_neg (by decide), gd_pos (by decide), show (131 : Int32).toNatClampNeg = 131 from rfl, r131 σ1 hR1, if_neg (by rw [wl_10, w_eq (by omega) (by omega) (by omega) (by omega)]; omega), gd_pos (by decide), hk, x2, x3, x1, gd_pos (w_inB (by omega) (by omega) (by omega)), w_natk (by omega), gd_pos (w_inB (by omega) (by omega) (by omega)), w_natk (by omega), gd_pos (w_inB (by omega) (by omega) (by omega)), w_natk (by omega), gd_pos (by decide), gd_pos (by decide)]
        have z3 : gI (sI (sI (sI σ1 493 (101 + 3 * k) (w32 a)) 493 (102 + 3 * k) (w32 b)) 493 (103 + 3 * k) (w32 c)) 493 131 = w32 (k : Int) := by rw [gI_nej (by omega), gI_nej (by omega), gI_nej (by omega), r131 σ1 hR1, hk]
        show gd (inB (131 : Int32) 132 = true) (some (gI (sI (sI (sI (sI σ1 493 (101 + 3 * k) (w32 a)) 493 (102 + 3 * k) (w32 b)) 493 (103 + 3 * k) (w32 c)) 493 131 (gI (sI (sI (sI σ1 493 (101 + 3 * k) (w32 a)) 493 (102 + 3 * k) (w32 b)) 493 (103 + 3 * k) (w32 c)) 493 131 + (1 : Int32))) 493 131, sI (sI (sI (sI σ1 493 (101 + 3 * k) (w32 a)) 493 (102 + 3 * k) (w32 b)) 493 (103 + 3 * k) (w32 c)) 493 131 (gI (sI (sI (sI σ1 493 (101 + 3 * k) (w32 a)) 493 (102 + 3 * k) (w32 b)) 493 (103 + 3 * k) (w32 c)) 493 131 + (1 : Int32)))) = _
        rw [z3, w_succ, ← hσ2, gd_pos (by decide), show gI σ2 493 131 = w32 ((k + 1 : Nat) : Int) by rw [hσ2, gI_eq]]
      have f2 := f12_note m2
      have f2' : Fr (fun c => c = 493) σ1 σ2 := by rw [hσ2]; exact ((((Fr.rf (fun c => c = 493) σ1).sI rfl).sI rfl).sI rfl).sI rfl
      refine ⟨_, ⟨wf.W (w := (wP (sW S), wA (sW S), N', wF (sW S), wX (sW S))) ⟨wPl, wf.1.2.1, ⟨?_, ?_, fun i hi => ?_⟩, wf.1.2.2.2⟩ rfl, wfx.2⟩, _, _, _, m1, m2, hC1.fr rc6 f2 (fun c z => by unfold Wm12_note at z; unfold Scr; omega), hR1.N wPl f2' (fun q hq => ?_) ⟨by rw [hσ2, gI_eq, n0], fun i hi => ?_⟩⟩
      · show 0 ≤ N' 0 0
        omega
      · show N' 0 0 ≤ 10
        omega
      · have hi : (i : Int) < N' 0 0 := hi
        obtain ⟨n1, n2, n3⟩ := nk i
        show 0 ≤ N' 1 i ∧ N' 1 i ≤ 99 ∧ 0 ≤ N' 2 i ∧ N' 2 i ≤ 2 ∧ 0 ≤ N' 3 i ∧ N' 3 i ≤ 9999
        rw [n1, n2, n3]
        by_cases e : i = k
        · rw [if_pos e, if_pos e, if_pos e]; omega
        · rw [if_neg e, if_neg e, if_neg e]
          exact hwN.2.2 i (by show (i : Int) < wN (sW S) 0 0; omega)
      · rw [hσ2, gI_nej (by omega), gI_nej (by omega), gI_nej (by omega), gI_nej (by omega)]
      · obtain ⟨n1, n2, n3⟩ := nk i
        rw [n1, n2, n3, hσ2]
        by_cases e : i = k
        · rw [if_pos e, if_pos e, if_pos e, e]
          refine ⟨?_, ?_, ?_⟩
          · rw [gI_nej (by omega), gI_nej (by omega), gI_nej (by omega), gI_eq]
          · rw [gI_nej (by omega), gI_nej (by omega), gI_eq]
          · rw [gI_nej (by omega), gI_eq]
        · rw [if_neg e, if_neg e, if_neg e]
          have hh := hR1.1.2.2 i (by show (i : Int) < wN (sW S) 0 0; omega)
          rw [gI_nej (by omega), gI_nej (by omega), gI_nej (by omega), gI_nej (by omega), gI_nej (by omega), gI_nej (by omega), gI_nej (by omega), gI_nej (by omega), gI_nej (by omega), gI_nej (by omega), gI_nej (by omega), gI_nej (by omega)]
          exact hh
    · refine ⟨S, wfx, -2, σ, σ, ?_, ?_, hC, hR⟩
      · unfold m11_note
        rw [if_neg (by rw [wl_m1, w_eq (by omega) (by omega) (by omega) (by omega)]; exact hm1)]
        by_cases k1 : wP (sW S) 0 0 = 1 ∧ 0 ≤ b ∧ b ≤ 2
        · rw [if_pos k1] at hs
          rw [hs, Option.bind_some, if_neg (by decide)]
          by_cases k2 : a < 0
          · rw [if_pos (by rw [wl_0, w_lt (by omega) (by omega) (by omega) (by omega)]; exact k2)]
          · rw [if_neg (by rw [wl_0, w_lt (by omega) (by omega) (by omega) (by omega)]; exact k2)]
            by_cases k3 : 100 ≤ a
            · rw [if_pos (by rw [wl_100, w_le (by omega) (by omega) (by omega) (by omega)]; exact k3)]
            · rw [if_neg (by rw [wl_100, w_le (by omega) (by omega) (by omega) (by omega)]; exact k3)]
              by_cases k4 : c < 0
              · rw [if_pos (by rw [wl_0, w_lt (by omega) (by omega) (by omega) (by omega)]; exact k4)]
              · rw [if_neg (by rw [wl_0, w_lt (by omega) (by omega) (by omega) (by omega)]; exact k4)]
                by_cases k5 : c ≤ 9999
                · have n0 := hwN.1
                  have n1 := hwN.2.1
                  rw [if_pos (by rw [wl_9999, w_le (by omega) (by omega) (by omega) (by omega)]; exact k5), e36, if_neg (by rw [wl_10, w_lt (by omega) (by omega) (by omega) (by omega)]; omega)]
                · rw [if_neg (by rw [wl_9999, w_le (by omega) (by omega) (by omega) (by omega)]; exact k5)]
        · rw [if_neg k1] at hs
          rw [hs, Option.bind_some, if_pos rfl]
      · have hr := hr σ hR
        unfold m12_note
        rw [if_neg (by rw [wl_m1, w_eq (by omega) (by omega) (by omega) (by omega)]; exact hm1)]
        by_cases k0 : wP (sW S) 0 0 = 1
        · rw [if_pos k0] at hr
          rw [hr, Option.bind_some, if_neg (by decide), inA, Option.bind_some]
          by_cases k2 : 0 ≤ a ∧ a ≤ 99
          · rw [if_pos k2, if_neg (by decide), inB', Option.bind_some]
            by_cases k3 : 0 ≤ b ∧ b ≤ 2
            · rw [if_pos k3, if_neg (by decide), inC, Option.bind_some]
              by_cases k4 : 0 ≤ c ∧ c ≤ 9999
              · have n1 := hwN.2.1
                rw [if_pos k4, if_neg (by decide), gd_pos (by decide), show (131 : Int32).toNatClampNeg = 131 from rfl, r131 σ hR, if_pos (by rw [wl_10, w_eq (by omega) (by omega) (by omega) (by omega)]; omega)]
              · rw [if_neg k4, if_pos rfl]
            · rw [if_neg k3, if_pos rfl]
          · rw [if_neg k2, if_pos rfl]
        · rw [if_neg k0] at hr
          rw [hr, Option.bind_some, if_pos rfl]
