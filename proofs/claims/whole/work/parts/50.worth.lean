/-! QUERY: worth; a SMITH who is absent -/
theorem jbs_abs {P A : Dat} {K : Nat → Int} {a : Nat} (h : K 2 = (a : Int)) : jbs P A K a = -1 := by unfold jbs; rw [if_pos h.symm]
theorem wlN_abs {P A : Dat} {K : Nat → Int} {ro : Option Dat} {J : Nat → Int} {a : Nat} {v : Int} (hJ : J a = -1) : wlN P (up A 2 a v) K ro J = wlN P A K ro J := by
  funext p
  unfold wlN
  by_cases h : J p = -1
  · rw [if_pos h, if_pos h]
  · rw [if_neg h, if_neg h]
    have hpa : p ≠ a := fun z => h (by rw [z]; exact hJ)
    have e : wds P (up A 2 a v) J p = wds P A J p := by
      funext i
      unfold wds
      congr 2
      unfold wdI wornI
      simp [up_at, hpa]
    have e2 : hotB P (up A 2 a v) J p = hotB P A J p := by
      unfold hotB
      simp [up_at]
    unfold wl
    rw [e, e2]
theorem wearL_ag {E : Nat → Nat → Prop} {T : Nat → Int} (hE : ∀ k, ¬ E 9 k) : ∀ (d k : Nat) (A A' : Dat), Ag E A A' → Ag E (wearL T d k A) (wearL T d k A')
  | 0, _, _, _, h => h
  | d + 1, k, A, A', h => by
    unfold wearL
    refine wearL_ag hE d (k + 1) _ _ ?_
    rw [h 9 k (hE k)]
    split
    · exact h
    · split
      · exact h
      · exact Ag_up h _ _ rfl
theorem stepR_oth {P : Dat} {J : Nat → Int} {Wl : Nat → Bool} {p q : Nat} {s : WS} (hq : q ≠ p) : (stepR P J Wl p s).1 2 q = s.1 2 q := by
  unfold stepR
  split
  · dsimp only
    split
    · rw [up_at, if_neg (by omega)]
    · rfl
  · exact stepS_oth (by omega) hq
theorem workR_abs {P : Dat} {J : Nat → Int} {Wl : Nat → Bool} {a : Nat} (hJ : J a = -1) : ∀ (d p : Nat) (s s' : WS), Ag (fun i j => i = 2 ∧ j = a) s.1 s'.1 → s'.2 = s.2 → (∀ q : Nat, p ≤ q → q ≠ a → (q : Int) < P 0 4 → J q = -1 → s.1 2 q = 0) → Ag (fun i j => i = 2 ∧ j = a) (workS P J Wl d p s).1 (workR P J Wl d p s').1 ∧ (workR P J Wl d p s').2 = (workS P J Wl d p s).2
  | 0, _, _, _, h, h2, _ => ⟨h, h2⟩
  | d + 1, p, s, s', h, h2, hn => by
    have hE : Ex J (fun i j => i = 2 ∧ j = a) := fun i j z => Or.inl ⟨z.1, by rw [z.2]; exact hJ⟩
    have st : Ag (fun i j => i = 2 ∧ j = a) (stepS P J Wl p s).1 (stepR P J Wl p s').1 ∧ (stepR P J Wl p s').2 = (stepS P J Wl p s).2 := by
      unfold stepR
      by_cases hj : J p = -1
      · rw [if_pos hj, st_none hj]
        refine ⟨?_, h2⟩
        dsimp only
        split
        · rename_i hp
          by_cases hpa : p = a
          · exact Ag_upE h ⟨rfl, hpa⟩
          · intro i j hn'
            rw [up_at]
            split
            · rename_i z
              rw [z.1, z.2, hn p (Nat.le_refl _) hpa hp hj]
            · exact h i j hn'
        · exact h
      · rw [if_neg hj]; exact stepS_ag hE h h2
    exact workR_abs hJ d (p + 1) _ _ st.1 st.2 (fun q h1 h3 h4 h5 => by rw [stepS_oth (by omega) (by omega)]; exact hn q (by omega) h3 h4 h5)
theorem workR_0a {P : Dat} {J : Nat → Int} {Wl : Nat → Bool} {a : Nat} (hJ : J a = -1) (ha : (a : Int) < P 0 4) : ∀ (d p : Nat) (s : WS), (a < p ∧ s.1 2 a = 0) ∨ (p ≤ a ∧ a < p + d) → (workR P J Wl d p s).1 2 a = 0
  | 0, p, s, h => by
    rcases h with h | h
    · exact h.2
    · omega
  | d + 1, p, s, h => by
    refine workR_0a hJ ha d (p + 1) _ ?_
    rcases h with h | h
    · exact Or.inl ⟨by omega, by rw [stepR_oth (by omega)]; exact h.2⟩
    · by_cases hpa : p = a
      · refine Or.inl ⟨by omega, ?_⟩
        unfold stepR
        rw [hpa, if_pos hJ]
        dsimp only
        rw [if_pos ha, up_eq]
      · exact Or.inr ⟨by omega, by omega⟩
theorem passRA_abs {P A : Dat} {K : Nat → Int} {ro : Option Dat} {a : Nat} {v : Int} (hK : K 2 = (a : Int)) (ha : (a : Int) < P 0 4) (ha3 : a < 3) (hn : ∀ p : Nat, (p : Int) < P 0 4 → (p : Int) ≠ K 2 → jobN P A p = -1 → A 2 p = 0) : passRA P K ro (up A 2 a v) = up (passA P K ro A) 2 a 0 ∧ ∀ q, hits P K ro (up A 2 a v) q = hits P K ro A q := by
  have ej : jbs P (up A 2 a v) K = jbs P A K := funext fun p => jbs_up (by decide) (by decide)
  have hJ := jbs_abs (P := P) (A := A) hK
  have ew := wlN_abs (P := P) (A := A) (K := K) (ro := ro) (v := v) hJ
  have hag : Ag (fun i j => i = 2 ∧ j = a) A (up A 2 a v) := Ag_upE (Ag.rf _ A) ⟨rfl, rfl⟩
  have hE : Ex (jbs P A K) (fun i j => i = 2 ∧ j = a) := fun i j z => Or.inl ⟨z.1, by rw [z.2]; exact hJ⟩
  constructor
  · have w := workR_abs (P := P) (Wl := wlN P A K ro (jbs P A K)) hJ 3 0 (A, K0 K, fun _ => -1) (up A 2 a v, K0 K, fun _ => -1) hag rfl (fun q _ h1 h2 h3 => by
      have hq : (q : Int) ≠ K 2 := by omega
      exact hn q h2 hq (by unfold jbs at h3; rwa [if_neg hq] at h3))
    have w0 := workR_0a (P := P) (Wl := wlN P A K ro (jbs P A K)) hJ ha 3 0 (up A 2 a v, K0 K, fun _ => -1) (Or.inr ⟨by omega, by omega⟩)
    have wa := wearL_ag (T := (workS P (jbs P A K) (wlN P A K ro (jbs P A K)) 3 0 (A, K0 K, fun _ => -1)).2.2) (fun k z => by omega) 4 0 _ _ w.1
    unfold passRA passA passW
    rw [ej, ew]
    dsimp only
    rw [w.2]
    funext i j
    rw [up_at (i := 2)]
    by_cases h : i = 2 ∧ j = a
    · rw [if_pos h, h.1, h.2, up_at, if_neg (by omega), wearL_lo 4 0 _ (by omega)]
      exact w0
    · rw [if_neg h]
      have e00 := wa 0 0 (by omega)
      rw [up_at, up_at, e00, wa i j h]
  · intro q
    unfold hits
    rw [ej, ew]
    have w := workS_ag (P := P) (Wl := wlN P A K ro (jbs P A K)) hE q 0 (A, K0 K, fun _ => -1) (up A 2 a v, K0 K, fun _ => -1) hag rfl
    exact hitS_ag hE w.1 w.2
/-- the states of the two sides in a look ahead where one may be absent -/
def Lk (P : Dat) (K : Nat → Int) (A A' : Dat) : Prop := A' = A ∨ ∃ a : Nat, K 2 = (a : Int) ∧ (a : Int) < P 0 4 ∧ a < 3 ∧ A' = up A 2 a 0
def WfI2 (P : Dat) (K : Nat → Int) (A : Dat) (t : Nat) : Prop := WfI0 P A t ∧ ∀ p : Nat, (p : Int) < P 0 4 → (p : Int) ≠ K 2 → jobN P A p = -1 → A 2 p = 0
theorem WfI.to2 {P A : Dat} {K : Nat → Int} {t : Nat} (h : WfI P A t) : WfI2 P K A t := ⟨⟨h.1, h.2.1, h.2.2.1, h.2.2.2.1, h.2.2.2.2.2⟩, fun p h1 _ h3 => h.2.2.2.2.1 p h1 h3⟩
theorem WfI2.step {P A : Dat} {K : Nat → Int} {ro : Option Dat} {t : Nat} (h : WfI2 P K A t) (wPl : WfPl P) : WfI2 P K (passA P K ro A) (t + 1) :=
  ⟨passA_wf0 h.1 wPl.1 wPl.2.1 wPl.2.2.1, fun p h1 h2 h3 => passA_norm wPl.1 h1 h2 (h.2 p h1 h2) h3⟩
theorem WfI2.bd {P A : Dat} {K : Nat → Int} {t : Nat} (h : WfI2 P K A t) (ht : t ≤ 9000) : Bd 800000000 A := h.1.2.2.2.1.mono (by omega)
theorem re_stepL {F : Nat} {K : Nat → Int} {ro : Option Dat} {P A A' : Dat} {σ : Mem} {t : Nat} (h : RE K ro P A' σ) (hL : Lk P K A A') (hk : K 2 = -1 ∨ ∃ a : Nat, K 2 = (a : Int) ∧ (a : Int) < P 0 4 ∧ a < 3) (wPl : WfPl P) (wI : WfI2 P K A t) (ht : t ≤ 9000) (bK : BdK K) (bK3 : -1 ≤ K 3) (hK6 : K 6 = 0) (hF : 1000 ≤ F) :
    ∃ σ' A'', m12_passes F σ = some (w32 (hitN P K ro A'), σ') ∧ RE K ro P A'' σ' ∧ Lk P K (passA P K ro A) A'' ∧ (∀ q : Nat, (q : Int) < P 0 4 → gI σ' 496 q = w32 (hits P K ro A q)) ∧ Tl σ σ' ∧ Fr (fun c => c = 483 ∨ (491 ≤ c ∧ c ≤ 496)) σ σ' ∧ Sl (fun j => j = 18 ∨ j = 27 ∨ j = 32) σ σ' := by
  have w := wI
  obtain ⟨⟨wA, m0, m1, -, h9⟩, hn⟩ := w
  have bA := wI.bd ht
  obtain ⟨a, ha⟩ : ∃ v : Nat × Int, (K 2 = -1 ∧ A' = A) ∨ (K 2 = (v.1 : Int) ∧ (v.1 : Int) < P 0 4 ∧ v.1 < 3 ∧ A' = up A 2 v.1 v.2 ∧ -800000000 ≤ v.2 ∧ v.2 ≤ 800000000) := by
    rcases hk with hk | ⟨a, h1, h2, h3⟩
    · refine ⟨(0, 0), Or.inl ⟨hk, ?_⟩⟩
      rcases hL with e | ⟨a, h1, -⟩
      · exact e
      · omega
    · rcases hL with e | ⟨b, h1', -, -, e⟩
      · exact ⟨(a, A 2 a), Or.inr ⟨h1, h2, h3, by rw [up_self rfl]; exact e, (bA 2 a).1, (bA 2 a).2⟩⟩
      · have : b = a := by omega
        subst this
        exact ⟨(b, 0), Or.inr ⟨h1, h2, h3, e, by show -800000000 ≤ (0 : Int); decide, by show (0 : Int) ≤ 800000000; decide⟩⟩
  rcases ha with ⟨k2, e⟩ | ⟨k2, ha, ha3, e, v1, v2⟩
  · subst e
    obtain ⟨σ', m, x, y, z, u⟩ := re_pass (F := F) h wPl wA bA bK bK3 hK6 m0 (by omega) (by omega) hF
    have ee : passRA P K ro A' = passA P K ro A' := passRA_eq (fun p hp hj => by
      have hq : (p : Int) ≠ K 2 := by omega
      exact hn p hp hq (by unfold jbs at hj; rwa [if_neg hq] at hj))
    rw [ee] at x
    exact ⟨σ', _, m, x, Or.inl rfl, y, u⟩
  · subst e
    have wA' : WfA P (up A 2 a.1 a.2) := by
      obtain ⟨q1, q2, q3⟩ := wA
      refine ⟨fun j hj => ?_, fun p hp => ?_, fun k hk => ?_⟩
      · rw [up_at, up_at, if_neg (by omega), if_neg (by omega)]; exact q1 j hj
      · rw [up_at, if_neg (by omega)]; exact q2 p hp
      · rw [up_at, if_neg (by omega)]; exact q3 k hk
    obtain ⟨σ', m, x, y, z, u⟩ := re_pass (F := F) h wPl wA' (bA.up v1 v2) bK bK3 hK6 (by rw [up_at, if_neg (by omega)]; exact m0) (by rw [up_at, if_neg (by omega)]; omega) (by rw [up_at, if_neg (by omega)]; omega) hF
    obtain ⟨e1, e2⟩ := passRA_abs (ro := ro) (v := a.2) k2 ha ha3 hn
    rw [e1] at x
    exact ⟨σ', _, m, x, Or.inr ⟨a.1, k2, ha, ha3, rfl⟩, fun q hq => by rw [y q hq, e2], u⟩
/-- who has struck, as bits -/
theorem struck_eq {P A : Dat} {K : Nat → Int} {ro : Option Dat} : (passW P K ro A).2.1 12 = hits P K ro A 0 + 2 * hits P K ro A 1 + 4 * hits P K ro A 2 := by
  have a0 : (K0 K) 12 = 0 := by unfold K0; rw [upK_lo (by decide)]; unfold upK; rw [if_pos rfl]
  have e : (passW P K ro A).2.1 12 = (stepS P (jbs P A K) (wlN P A K ro (jbs P A K)) 2 (stepS P (jbs P A K) (wlN P A K ro (jbs P A K)) 1 (stepS P (jbs P A K) (wlN P A K ro (jbs P A K)) 0 (A, K0 K, fun _ => -1)))).2.1 12 := rfl
  have e0 : hits P K ro A 0 = hitS P (jbs P A K) (wlN P A K ro (jbs P A K)) 0 (A, K0 K, fun _ => -1) := rfl
  have e1 : hits P K ro A 1 = hitS P (jbs P A K) (wlN P A K ro (jbs P A K)) 1 (stepS P (jbs P A K) (wlN P A K ro (jbs P A K)) 0 (A, K0 K, fun _ => -1)) := rfl
  have e2 : hits P K ro A 2 = hitS P (jbs P A K) (wlN P A K ro (jbs P A K)) 2 (stepS P (jbs P A K) (wlN P A K ro (jbs P A K)) 1 (stepS P (jbs P A K) (wlN P A K ro (jbs P A K)) 0 (A, K0 K, fun _ => -1))) := rfl
  rw [e, stepS_K12, stepS_K12, stepS_K12, ← e0, ← e1, ← e2]
  have h0 : hits P K ro A 0 = 0 ∨ hits P K ro A 0 = 1 := hitS_01
  have h1 : hits P K ro A 1 = 0 ∨ hits P K ro A 1 = 1 := hitS_01
  have h2 : hits P K ro A 2 = 0 ∨ hits P K ro A 2 = 1 := hitS_01
  dsimp only
  rw [a0]
  rcases h0 with h0 | h0 <;> rcases h1 with h1 | h1 <;> rcases h2 with h2 | h2 <;> rw [h0, h1, h2] <;> decide +kernel
def oth (a : Nat) (h : Nat → Int) : Int := (if a = 0 then 0 else h 0) + (if a = 1 then 0 else h 1) + (if a = 2 then 0 else h 2)
theorem bc_ok {F a : Nat} {σ : Mem} {h : Nat → Int} (h0 : ∀ q, h q = 0 ∨ h q = 1) (ha : a < 3) : mJ_bitCount F (w32 (h 0 + 2 * h 1 + 4 * h 2) &&& (((1 : Int32) <<< (w32 (a : Int) &&& (31 : Int32))) ^^^ (-1 : Int32))) σ = some (w32 (oth a h)) := by
  have q0 := h0 0
  have q1 := h0 1
  have q2 := h0 2
  unfold mJ_bitCount oth
  congr 1
  rcases (show a = 0 ∨ a = 1 ∨ a = 2 by omega) with rfl | rfl | rfl <;> rcases q0 with q0 | q0 <;> rcases q1 with q1 | q1 <;> rcases q2 with q2 | q2 <;> rw [q0, q1, q2] <;> decide +kernel
def othN (P : Dat) (K : Nat → Int) (ro : Option Dat) (a : Nat) : Nat → Int → Dat → Int
  | 0, s, _ => s
  | d + 1, s, A => othN P K ro a d (s + oth a (hits P K ro A)) (passA P K ro A)
theorem worth_c {F c1 a N : Nat} {K : Nat → Int} {ro : Option Dat} {P : Dat} (wPl : WfPl P) (bK : BdK K) (ha : a < 3) (hN : N ≤ 1000) (hF : 1000 ≤ F) : ∀ (d n' k t : Nat) (s : Int) (σ : Mem) (A : Dat), k + d = N → d < n' → CE 46 K ro P A σ → WfI2 P K A t → t + d ≤ 9000 → ∃ σ' A', m6_blowsOfOthers_14 F c1 (w32 (a : Int)) (w32 (N : Int)) n' (w32 s) (w32 (k : Int)) σ = some (w32 (othN P K ro a d s A), σ') ∧ CE 46 K ro P A' σ' := by
  intro d
  induction d with
  | zero =>
    intro n' k t s σ A h1 h2 hE wI ht
    obtain ⟨n', rfl⟩ : ∃ k, n' = k + 1 := ⟨n' - 1, by omega⟩
    unfold m6_blowsOfOthers_14 othN
    rw [if_pos (by rw [w_le (by omega) (by omega) (by omega) (by omega)]; omega)]
    exact ⟨σ, A, rfl, hE⟩
  | succ d ih =>
    intro n' k t s σ A h1 h2 hE wI ht
    obtain ⟨n', rfl⟩ : ∃ k, n' = k + 1 := ⟨n' - 1, by omega⟩
    obtain ⟨σ1, m, e, k1, -⟩ := ce_go (F := F) hE wPl.1 (wI.bd (by omega)) bK StC46 hF
    have g12 : gI σ1 40 12 = w32 (hits P K ro A 0 + 2 * hits P K ro A 1 + 4 * hits P K ro A 2) := by rw [k1 12 (by decide), struck_eq]
    unfold m6_blowsOfOthers_14 othN
    rw [if_neg (by rw [w_le (by omega) (by omega) (by omega) (by omega)]; omega), m, Option.bind_some, g12, bc_ok (h := hits P K ro A) (fun q => hitS_01) ha, Option.bind_some, w_add, w_succ]
    exact ih n' (k + 1) (t + 1) _ σ1 _ (by omega) (by omega) e (wI.step wPl) (by omega)
theorem oth23 {F a n : Nat} {P : Dat} {h : Nat → Int} {x : Int32} {σ : Mem} {k9 : Int32 → Int32 → Mem → Option (Int32 × Mem)} {k : Nat} (hn : P 0 4 = (n : Int)) (hn3 : n ≤ 3) (e3 : gI σ 493 3 = w32 (P 0 4)) (eh : ∀ q : Nat, (q : Int) < P 0 4 → gI σ 496 q = w32 (h q)) (hz : ∀ q : Nat, P 0 4 ≤ (q : Int) → h q = 0) (ha : a < 3) : ∀ (d m q : Nat) (s : Int), q + d = 3 → d < m → ∃ s' : Int, m12_othersBlows_23 F (w32 (a : Int)) x k9 m (w32 s) (w32 (k : Int)) (w32 (q : Int)) σ = k9 (w32 s') (w32 ((k + 1 : Nat) : Int)) σ ∧ s' = s + (if q ≤ 0 then (if a = 0 then 0 else h 0) else 0) + (if q ≤ 1 then (if a = 1 then 0 else h 1) else 0) + (if q ≤ 2 then (if a = 2 then 0 else h 2) else 0) := by
  intro d
  induction d with
  | zero =>
    intro m q s h1 h2
    obtain ⟨m, rfl⟩ : ∃ k, m = k + 1 := ⟨m - 1, by omega⟩
    unfold m12_othersBlows_23
    rw [gd_pos (by decide), show (3 : Int32).toNatClampNeg = 3 from rfl, e3, if_pos (by rw [w_le (by omega) (by omega) (by omega) (by omega)]; omega), w_succ]
    exact ⟨s, rfl, by rw [if_neg (by omega), if_neg (by omega), if_neg (by omega)]; omega⟩
  | succ d ih =>
    intro m q s h1 h2
    obtain ⟨m, rfl⟩ : ∃ k, m = k + 1 := ⟨m - 1, by omega⟩
    unfold m12_othersBlows_23
    rw [gd_pos (by decide), show (3 : Int32).toNatClampNeg = 3 from rfl, e3]
    have z0 := hz 0
    have z1 := hz 1
    have z2 := hz 2
    by_cases hq : n ≤ q
    · rw [if_pos (by rw [w_le (by omega) (by omega) (by omega) (by omega)]; omega), w_succ]
      refine ⟨s, rfl, ?_⟩
      rcases (show q = 0 ∨ q = 1 ∨ q = 2 by omega) with rfl | rfl | rfl
      · rw [z0 (by omega), z1 (by omega), z2 (by omega)]; simp
      · rw [z1 (by omega), z2 (by omega)]; simp
      · rw [z2 (by omega)]; simp
    · rw [if_neg (by rw [w_le (by omega) (by omega) (by omega) (by omega)]; omega)]
      by_cases hqa : q = a
      · rw [if_pos (by rw [hqa]), wl_0, w_add, w_succ]
        obtain ⟨s', e1, e2⟩ := ih m (q + 1) (s + 0) (by omega) (by omega)
        refine ⟨s', e1, ?_⟩
        rw [e2]
        rcases (show q = 0 ∨ q = 1 ∨ q = 2 by omega) with rfl | rfl | rfl <;> subst hqa <;> simp
      · rw [if_neg (by rw [w_eq (by omega) (by omega) (by omega) (by omega)]; omega), gd_pos (w_inB (by omega) (by omega) (by omega)), w_natk (by omega), eh q (by omega), w_add, w_succ]
        obtain ⟨s', e1, e2⟩ := ih m (q + 1) (s + h q) (by omega) (by omega)
        refine ⟨s', e1, ?_⟩
        rw [e2]
        rcases (show q = 0 ∨ q = 1 ∨ q = 2 by omega) with rfl | rfl | rfl
        · rw [if_neg (show ¬ a = 0 by omega)]; simp
        · rw [if_neg (show ¬ a = 1 by omega)]; simp
        · rw [if_neg (show ¬ a = 2 by omega)]; simp
theorem hits_0 {P A : Dat} {K : Nat → Int} {ro : Option Dat} (wPl : WfPl P) {q : Nat} (h : P 0 4 ≤ (q : Int)) : hits P K ro A q = 0 := by
  unfold hits hitS
  rw [if_pos (J_ge wPl.1 wPl.2.1 h)]
theorem others_l {F a N : Nat} {K : Nat → Int} {ro : Option Dat} {P : Dat} {σ0 : Mem} (wPl : WfPl P) (hk : K 2 = -1 ∨ ∃ a : Nat, K 2 = (a : Int) ∧ (a : Int) < P 0 4 ∧ a < 3) (bK : BdK K) (bK3 : -1 ≤ K 3) (hK6 : K 6 = 0) (ha : a < 3) (hN : N ≤ 1000) (hF : 1000 ≤ F) : ∀ (d n' k t : Nat) (s : Int) (σ : Mem) (A A' : Dat), k + d = N → d < n' → RE K ro P A' σ → Lk P K A A' → WfI2 P K A t → t + d ≤ 9000 → Tr σ0 σ → ∃ σ', m12_othersBlows_9 F (w32 (a : Int)) (w32 (N : Int)) n' (w32 s) (w32 (k : Int)) σ = Option.bind (m12_laysBack F σ') (fun p1 => some (w32 (othN P K ro a d s A), p1)) ∧ Tr σ0 σ' := by
  intro d
  induction d with
  | zero =>
    intro n' k t s σ A A' h1 h2 hE hL wI ht tr
    obtain ⟨n', rfl⟩ : ∃ k, n' = k + 1 := ⟨n' - 1, by omega⟩
    unfold m12_othersBlows_9 othN
    rw [if_pos (by rw [w_le (by omega) (by omega) (by omega) (by omega)]; omega)]
    exact ⟨σ, rfl, tr⟩
  | succ d ih =>
    intro n' k t s σ A A' h1 h2 hE hL wI ht tr
    obtain ⟨n', rfl⟩ : ∃ k, n' = k + 1 := ⟨n' - 1, by omega⟩
    obtain ⟨σ1, A1, m, e, hL1, hh, tl, f, sl⟩ := re_stepL (F := F) hE hL hk wPl wI (by omega) bK bK3 hK6 hF
    obtain ⟨n4, hn, hn3⟩ := wPl.1.2.2.1
    unfold m12_othersBlows_9 othN
    rw [if_neg (by rw [w_le (by omega) (by omega) (by omega) (by omega)]; omega), m, Option.bind_some]
    dsimp only
    obtain ⟨s', e1, e2⟩ := oth23 (F := F) (a := a) (x := w32 (N : Int)) (h := hits P K ro A) (k9 := fun x3 x4 σ => m12_othersBlows_9 F (w32 (a : Int)) (w32 (N : Int)) n' x3 x4 σ) (k := k) hn hn3 (e.1.2.1 3 (by decide)) hh (fun q hq => hits_0 wPl hq) ha 3 F 0 s (by omega) (by omega)
    rw [show (0 : Int32) = w32 ((0 : Nat) : Int) from rfl, e1]
    have e3 : s' = s + oth a (hits P K ro A) := by
      rw [e2]; unfold oth
      rw [if_pos (show 0 ≤ 0 by omega), if_pos (show 0 ≤ 1 by omega), if_pos (show 0 ≤ 2 by omega)]
      omega
    rw [e3]
    exact ih n' (k + 1) (t + 1) _ σ1 _ A1 (by omega) (by omega) e hL1 (wI.step wPl) (by omega) (tr.pass tl f sl)
theorem others_r {F t a N : Nat} {K : Nat → Int} {ro : Option Dat} {P A : Dat} {σ : Mem} (hE : RE K ro P A σ) (h93 : A 9 3 = 0) (wPl : WfPl P) (wI : WfI P A t) (ht : t ≤ 8000) (hk : K 2 = -1 ∨ ∃ a : Nat, K 2 = (a : Int) ∧ (a : Int) < P 0 4 ∧ a < 3) (bK : BdK K) (bK3 : -1 ≤ K 3) (hK6 : K 6 = 0) (ha : a < 3) (hN : N ≤ 500) (hF : 1000 ≤ F) : ∃ σ', m12_othersBlows F (w32 (a : Int)) (w32 (N : Int)) σ = some (w32 (othN P K ro a N 0 A), σ') ∧ gI σ' 493 = gI σ 493 ∧ gI σ' 483 27 = w32 0 ∧ Fr Wq σ σ' ∧ Sl Vq σ σ' := by
  obtain ⟨τ1, m1, a1, b1, tr1, s1, -⟩ := keepG (F := F) (σ := σ) (by omega)
  obtain ⟨τ2, m2, tr2⟩ := others_l (F := F) (N := N) (K := K) (ro := ro) wPl hk bK bK3 hK6 ha (by omega) hF N F 0 t 0 τ1 A A (by omega) (by omega) (hE.keep h93 a1 b1 s1 tr1.2.2.1) (Or.inl rfl) wI.to2 (by omega) tr1
  obtain ⟨τ3, m3, a3, b3, f3, s3, -, -, -⟩ := backG (F := F) tr2 (by omega)
  refine ⟨τ3, ?_, a3, b3, f3, s3⟩
  unfold m12_othersBlows
  rw [m1, Option.bind_some]
  have m2' : m12_othersBlows_9 F (w32 (a : Int)) (w32 (N : Int)) F (0 : Int32) (0 : Int32) τ1 = Option.bind (m12_laysBack F τ2) (fun p1 => some (w32 (othN P K ro a N 0 A), p1)) := m2
  rw [m2', m3, Option.bind_some]
def Ka (a : Nat) : Nat → Int := upK Kp 2 (a : Int)
theorem Ka_bd {a : Nat} (h : a < 3) : BdK (Ka a) := fun j x y => by
  unfold Ka upK
  split
  · omega
  · exact Kp_bd j x y
theorem worth_q {F t : Nat} {S : Ab} {σ : Mem} (hC : CInv S σ) (hR : RInv S σ) (wf : Wf t S) (ht : t ≤ 600) (hF : 10000 ≤ F) (x y : Int32) : Ans S (m11_worth F x y σ) (m12_worth F x y) := by
  obtain ⟨a, rfl, a1, a2⟩ := arg x
  obtain ⟨b, rfl, b1, b2⟩ := arg y
  have wPl := wf.1.1
  have wI := wf.1.2.1.1
  obtain ⟨n4, hn, hn3⟩ := wPl.1.2.2.1
  have h17 : RepP 17 σ (wP (sW S)) := hC.1.1
  have hE := hR.E wf
  have inN : ∀ τ, m12_in F (w32 b).toInt64 (1 : Int64) (60 : Int64) τ = some (if 1 ≤ b ∧ b ≤ 60 then (1 : Int32) else 0) := fun τ => in_r rfl rfl b1 b2 (by decide) (by decide)
  by_cases v1 : 0 ≤ a ∧ a < wP (sW S) 0 4
  · by_cases v2 : 1 ≤ b ∧ b ≤ 60
    · obtain ⟨p, rfl⟩ : ∃ p : Nat, a = p := ⟨a.toNat, by omega⟩
      obtain ⟨N, rfl⟩ : ∃ p : Nat, b = p := ⟨b.toNat, by omega⟩
      have hp3 : p < 3 := by omega
      obtain ⟨q, τ1, e1, e2, hC1, k1, r1, f1⟩ := begin_c (F := F) hC wf
      obtain ⟨τ2, e3, ce2⟩ := copy46 (F := F) hC1 k1 r1 (by omega)
      obtain ⟨τ3, A3, e4, ce3⟩ := worth_c (F := F) (N := N) (c1 := 26) wPl Kp_bd hp3 (by omega) (by omega) N F 0 t 0 τ2 _ (by omega) (by omega) ce2 wI.to2 (by omega)
      have eu : m6_blowsOfOthers F 26 (w32 (p : Int)) (w32 (N : Int)) τ1 = some (w32 (othN (wP (sW S)) Kp (roOf S) p N 0 (wA (sW S))), τ3) := by
        unfold m6_blowsOfOthers
        rw [e3, Option.bind_some]
        exact e4
      have fu := f6_blowsOfOthers eu
      have hC2 := (cls_q hC hR wf (f1.trans' fu) (fun c z => by unfold Wm6_blowsOfOthers at z; omega)).1
      have hC2' : CInv (S) (sI τ3 40 2 (w32 (p : Int))) := hC2.fr wf.2.1.1 ((Fr.rf (fun c => c = 40) τ3).sI rfl) (fun c z => by unfold Scr; omega)
      have k2 : RepC (sI τ3 40 2 (w32 (p : Int))) (Ka p) := fun j hj => by
        unfold Ka upK
        by_cases h : j = 2
        · rw [h, gI_eq, if_pos rfl]
        · rw [gI_nej h, if_neg h]
          exact ce3.2.2.1 j hj
      have r2 : RepRo (sI τ3 40 2 (w32 (p : Int))) (roOf S) := ce3.2.2.2.fr ((Fr.rf (fun c => c = 40) τ3).sI rfl) (fun c z => by omega)
      obtain ⟨τ4, e5, ce4⟩ := copy46 (F := F) hC2' k2 r2 (by omega)
      obtain ⟨τ5, A5, e6, ce5⟩ := worth_c (F := F) (N := N) (c1 := 26) wPl (Ka_bd hp3) hp3 (by omega) (by omega) N F 0 t 0 τ4 _ (by omega) (by omega) ce4 wI.to2 (by omega)
      have eu2 : m6_blowsOfOthers F 26 (w32 (p : Int)) (w32 (N : Int)) (sI τ3 40 2 (w32 (p : Int))) = some (w32 (othN (wP (sW S)) (Ka p) (roOf S) p N 0 (wA (sW S))), τ5) := by
        unfold m6_blowsOfOthers
        rw [e5, Option.bind_some]
        exact e6
      have m1 : m11_worth F (w32 (p : Int)) (w32 (N : Int)) σ = some (w32 (othN (wP (sW S)) (Ka p) (roOf S) p N 0 (wA (sW S)) - othN (wP (sW S)) Kp (roOf S) p N 0 (wA (sW S))), τ5) := by
        unfold m11_worth
        rw [hasSmith_c h17 wPl.1 (by omega) (by omega), Option.bind_some, if_pos v1, if_neg (by decide), if_neg (by rw [wl_1, w_lt (by omega) (by omega) (by omega) (by omega)]; omega), if_pos (by rw [wl_60, w_le (by omega) (by omega) (by omega) (by omega)]; omega), e1, Option.bind_some, e2, Option.bind_some, eu, Option.bind_some]
        dsimp only
        rw [eu2, Option.bind_some]
        dsimp only
        rw [w_sub]
      obtain ⟨hC3, hR3⟩ := cls_q hC hR wf (f11_worth m1) (fun c z => by unfold Wm11_worth at z; omega)
      have hE3 := hR3.E wf
      obtain ⟨ρ1, n1, a1, b1, g1, s1⟩ := others_r (F := F) (N := N) (a := p) hE3 wf.1.2.1.2.1 wPl wI (by omega) (Or.inl rfl) Kp_bd (by decide) rfl hp3 (by omega) (by omega)
      have hR4 : RInv S ρ1 := hR3.back wf a1 b1 g1 s1
      have hE4 : RE (Ka p) (roOf S) (wP (sW S)) (wA (sW S)) (sI ρ1 483 23 (w32 (p : Int))) := by
        obtain ⟨x1, ⟨y1, y2, y3, y4, y5⟩, z1⟩ := hR4.E wf
        refine ⟨x1.same (gI_ne _ _ _ (by decide)) (gI_nej (by decide)), ⟨?_, ?_, ?_, ?_, ?_⟩, ?_⟩
        · rw [gI_eq]; rfl
        · rw [gI_nej (by decide)]; exact y2
        · rw [gI_nej (by decide)]; exact y3
        · rw [gI_nej (by decide)]; exact y4
        · rw [gI_nej (by decide)]; exact y5
        · exact z1.fr (V := fun j => j = 23) ((Fr.rf (fun c => c = 483) ρ1).sI rfl) (fun j hj => gI_nej hj) (by decide) (by decide) (by decide) (by decide)
      obtain ⟨ρ2, n2, a2, b2, g2, s2⟩ := others_r (F := F) (N := N) (a := p) hE4 wf.1.2.1.2.1 wPl wI (by omega) (Or.inr ⟨p, rfl, v1.2, hp3⟩) (Ka_bd hp3) (show -1 ≤ (-1 : Int) by decide) rfl hp3 (by omega) (by omega)
      have fin : RInv S (sI ρ2 483 23 (-1 : Int32)) := hR4.q wf (by rw [gI_ne _ _ _ (by decide), a2, gI_ne _ _ _ (by decide)]) (((Fr.rf Wq ρ1).sI (Or.inl rfl)).trans (g2.trans ((Fr.rf Wq ρ2).sI (Or.inl rfl)))) (fun j hj => by
        by_cases h : j = 23
        · rw [h, gI_eq, hR4.2.1.2.2.1]; rfl
        · rw [gI_nej h]
          by_cases h' : j = 27
          · rw [h', b2, hR4.2.1.2.2.2.2.2.2.1]
          · rw [s2 j (by unfold Vq; omega), gI_nej h])
      have hC4 : CInv S (sI ρ2 483 23 (-1 : Int32)) := ref_q hC3 wf (g1.trans (((Fr.rf Wq ρ1).sI (Or.inl rfl)).trans (g2.trans ((Fr.rf Wq ρ2).sI (Or.inl rfl))))) (fun c z => by unfold Wq at z; omega)
      refine ⟨_, τ5, _, m1, ?_, hC4, fin⟩
      unfold m12_worth
      rw [isSmith_r hE3.1 wPl.1 (by omega) (by omega), Option.bind_some, if_pos v1, if_neg (by decide), inN, Option.bind_some, if_pos v2, if_neg (by decide), n1, Option.bind_some]
      dsimp only
      rw [n2, Option.bind_some]
      dsimp only
      rw [w_sub]
    · refine ⟨-100000, σ, σ, ?_, ?_, hC, hR⟩
      · unfold m11_worth
        rw [hasSmith_c h17 wPl.1 (by omega) (by omega), Option.bind_some, if_pos v1, if_neg (by decide)]
        by_cases c0 : b < 1
        · rw [if_pos (by rw [wl_1, w_lt (by omega) (by omega) (by omega) (by omega)]; exact c0)]
        · rw [if_neg (by rw [wl_1, w_lt (by omega) (by omega) (by omega) (by omega)]; exact c0), if_neg (by rw [wl_60, w_le (by omega) (by omega) (by omega) (by omega)]; omega)]
      · unfold m12_worth
        rw [isSmith_r hE.1 wPl.1 (by omega) (by omega), Option.bind_some, if_pos v1, if_neg (by decide), inN, Option.bind_some, if_neg v2, if_pos rfl]
  · refine ⟨-100000, σ, σ, ?_, ?_, hC, hR⟩
    · unfold m11_worth
      rw [hasSmith_c h17 wPl.1 (by omega) (by omega), Option.bind_some, if_neg v1, if_pos rfl]
    · unfold m12_worth
      rw [isSmith_r hE.1 wPl.1 (by omega) (by omega), Option.bind_some, if_neg v1, if_pos rfl]
