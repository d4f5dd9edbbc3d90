/-! QUERY: order, 4 -/
theorem getD_mem {l : List Nat} {x : Nat} (h : x < l.length) : l.getD x 0 ∈ l := by
  rw [List.getD_eq_getElem?_getD, List.getElem?_eq_getElem h]
  exact List.getElem_mem h
theorem opI_sorted {b : Nat → Bool} : ∀ (d x : Nat), List.Pairwise (fun a c => a < c) (opI b d x)
  | 0, _ => List.Pairwise.nil
  | d + 1, x => by
    unfold opI
    by_cases h : b x = true
    · rw [if_pos h]
      exact List.pairwise_cons.2 ⟨fun y hy => by have := ((opI_mem d (x + 1)).1 hy).1; omega, opI_sorted d (x + 1)⟩
    · rw [if_neg h]; exact opI_sorted d (x + 1)
theorem getD_inj {l : List Nat} (hl : List.Pairwise (fun a c => a < c) l) : ∀ x y, x < l.length → y < l.length → l.getD x 0 = l.getD y 0 → x = y := by
  intro x y hx hy h
  rw [List.getD_eq_getElem?_getD, List.getD_eq_getElem?_getD, List.getElem?_eq_getElem hx, List.getElem?_eq_getElem hy] at h
  have h : l[x] = l[y] := h
  have g := List.pairwise_iff_getElem.1 hl
  rcases Nat.lt_trichotomy x y with z | z | z
  · have := g x y hx hy z; omega
  · exact z
  · have := g y x hy hx z; omega
theorem map_get {is : List Nat} {N : Nat} (h : is.length = N) (f : Nat → Nat) : (List.range' 0 N).map (fun i => f (is.getD i 0)) = is.map f := by
  apply List.ext_getElem
  · rw [List.length_map, List.length_range', List.length_map, h]
  · intro i h1 h2
    have h3 : i < is.length := by rwa [List.length_map] at h2
    rw [List.getElem_map, List.getElem_map, List.getElem_range', List.getD_eq_getElem?_getD, Nat.zero_add, Nat.one_mul, List.getElem?_eq_getElem h3]
    rfl
theorem momentsBy_r {F t p N m : Nat} {S : Ab} {σ : Mem} {g : Nat → Nat} (hC : CInv S σ) (hR : RInv S σ) (wf : Wf t S) (ht : t ≤ 600) (hm : wP (sW S) 0 5 = (m : Int)) (hp : (p : Int) < wP (sW S) 0 4) (hN : N ≤ 5) (hN1 : 1 ≤ N) (hg : ∀ x, x < N → g x < m) (nd : ((List.range' 0 N).map g).Nodup) (h502 : ∀ x, x < N → gI σ 502 x = w32 (g x : Int)) (hF : 1000 ≤ F) :
    ∃ σ', m12_momentsBy F (w32 (p : Int)) (w32 (N : Int)) σ = some (w32 (resT 0 (till (wP (sW S)) (roOf S) p 500 (pbA m ((List.range' 0 N).map g) (hz (wP (sW S)) g p 0 0 (wA (sW S)))))), σ') ∧ CInv S σ' ∧ RInv S σ' ∧ ∀ c, 501 ≤ c → c ≤ 503 → gI σ' c = gI σ c := by
  obtain ⟨wPl, ⟨wI, h93, -, h8⟩, -⟩ := id wf.1
  obtain ⟨bP, ⟨m', hm', hm8⟩, ⟨n4, hn, hn3⟩, -⟩ := id wPl.1
  obtain ⟨τ1, m1, a1, b1, tr1, s1, o1⟩ := keepG (F := F) (σ := σ) (by omega)
  have E1 := (hR.E wf).keep h93 a1 b1 s1 tr1.2.2.1
  have bA := wI.bd (show t ≤ 9000 by omega)
  have ej := jobNow_r (F := F) (p := p) E1.1 E1.2.1 wI.1 wPl.1 (bA.mono (by decide)) (by decide) (by omega) (by omega)
  rw [jbs_Kp] at ej
  have e502 : ∀ x, x < N → gI τ1 502 x = w32 (g x : Int) := fun x hx => by rw [o1 502 (by decide) (by decide)]; exact h502 x hx
  have g0 := hg 0 (by omega)
  have rj := jobN_rg (P := wP (sW S)) (A := wA (sW S)) (p := p) hm
  have h8z : ∀ k, hz (wP (sW S)) g p 0 0 (wA (sW S)) 8 k = wA (sW S) 8 k := fun k => by
    unfold hz; split
    · rw [up_at, if_neg (by omega)]
    · rfl
  have wz : WfI (wP (sW S)) (hz (wP (sW S)) g p 0 0 (wA (sW S))) t := by
    unfold hz; split
    · exact WfI_1 wI wPl.2.2.1.2.2.2
    · exact wI
  have go : ∀ τ2 : Mem, RE Kp (roOf S) (wP (sW S)) (hz (wP (sW S)) g p 0 0 (wA (sW S))) τ2 → (∀ x, x < N → gI τ2 502 x = w32 (g x : Int)) → Tr σ τ2 → (∀ c, 501 ≤ c → c ≤ 503 → gI τ2 c = gI σ c) →
      ∃ σ', m12_momentsBy_36 F (w32 (p : Int)) (w32 (N : Int)) F (-1) (0 : Int32) τ2 = some (w32 (resT 0 (till (wP (sW S)) (roOf S) p 500 (pbA m ((List.range' 0 N).map g) (hz (wP (sW S)) g p 0 0 (wA (sW S)))))), σ') ∧ CInv S σ' ∧ RInv S σ' := by
    intro τ2 E2 q502 tr2 o2
    obtain ⟨τ3, m3, E3, tr3⟩ := mom36 (F := F) (p := p) (i2 := w32 (N : Int)) (g := g) (M := 10000 + t) wPl hm hN hg hF N F 0 τ2 _ (by omega) (by omega) E2 (wz.bd (by omega)) (by omega) (by omega) (fun k => by rw [h8z]; exact h8 k) q502 tr2
    have ps := pbA_spec (m := m) ((List.range' 0 N).map g) (hz (wP (sW S)) g p 0 0 (wA (sW S))) nd (fun k hk => by
      obtain ⟨y, y1, y2⟩ := List.mem_map.1 hk
      rw [← y2]
      have := List.mem_range'_1.1 y1
      exact hg y (by omega))
    have w3 : WfI (wP (sW S)) (pbA m ((List.range' 0 N).map g) (hz (wP (sW S)) g p 0 0 (wA (sW S)))) t := WfI_8 wz ps.1 (fun k => by
      have := pbA_le (m := m) ((List.range' 0 N).map g) (hz (wP (sW S)) g p 0 0 (wA (sW S))) (10000 + t) (by omega) (fun k => by rw [h8z]; exact h8 k) k
      rw [List.length_map, List.length_range'] at this
      omega)
    obtain ⟨τ4, m4, tr4⟩ := mom62 (F := F) (p := p) (i2 := w32 (N : Int)) wPl hm (by omega) hF 500 F 0 t τ3 _ (by omega) (by omega) E3 w3 (by omega) tr3
    obtain ⟨τ5, m5, e493, e27, f5, s5, -, -, -⟩ := backG (F := F) tr4 (by omega)
    refine ⟨τ5, ?_, ref_q hC wf f5 (fun c z => by unfold Wq at z; omega), hR.back wf e493 e27 f5 s5⟩
    have m3' : m12_momentsBy_36 F (w32 (p : Int)) (w32 (N : Int)) F (-1) (0 : Int32) τ2 = m12_momentsBy_62 F (w32 (p : Int)) (w32 (N : Int)) F (-1) (0 : Int32) τ3 := m3
    have m4' : m12_momentsBy_62 F (w32 (p : Int)) (w32 (N : Int)) F (-1) (0 : Int32) τ3 = _ := m4
    rw [m3', m4', m5, Option.bind_some]
  have fin : ∃ σ', m12_momentsBy F (w32 (p : Int)) (w32 (N : Int)) σ = some (w32 (resT 0 (till (wP (sW S)) (roOf S) p 500 (pbA m ((List.range' 0 N).map g) (hz (wP (sW S)) g p 0 0 (wA (sW S)))))), σ') ∧ CInv S σ' ∧ RInv S σ' := by
    unfold m12_momentsBy
    rw [m1, Option.bind_some, gd_pos (by decide), ej, Option.bind_some, show (0 : Int32).toNatClampNeg = 0 from rfl, e502 0 (by omega)]
    by_cases hj : (g 0 : Int) = jobN (wP (sW S)) (wA (sW S)) p
    · have ez : hz (wP (sW S)) g p 0 0 (wA (sW S)) = wA (sW S) := if_neg (fun z => z.2 hj)
      rw [if_pos (by rw [hj])]
      exact go τ1 (by rw [ez]; exact E1) e502 tr1 (fun c c1 c2 => o1 c (by omega) (by omega))
    · have ez : hz (wP (sW S)) g p 0 0 (wA (sW S)) = up (wA (sW S)) 1 p 0 := if_pos ⟨rfl, hj⟩
      have ei : (10 : Int32) + (7 : Int32) * w32 (p : Int) = w32 ((10 + 7 * p : Nat) : Int) := by rw [wl_10, wl_7, w_mul, w_add]; congr 1 <;> omega
      rw [if_neg (by rw [w_eq (by omega) (by omega) (by omega) (by omega)]; exact hj), ei, gd_pos (w_inB (by omega) (by omega) (by omega)), w_natk (by omega)]
      refine go _ ?_ (fun x hx => by rw [gI_nec (by decide)]; exact e502 x hx) (tr1.s493 (by omega)) (fun c c1 c2 => ?_)
      · rw [ez]
        exact E1.upd (by omega) (by omega) 1 p 0 (by decide) hp
      · rw [gI_ne _ _ _ (by omega)]; exact o1 c (by omega) (by omega)
  obtain ⟨σ', m', c1, c2⟩ := fin
  have f := f12_momentsBy m'
  exact ⟨σ', m', c1, c2, fun c h1 h2 => f.gI (by unfold Wm12_momentsBy; omega)⟩
def oAns (N : Nat) (w : Int) (f : Nat → Nat) (m0 : Int) (st : Nat × List Nat) : Int := if st.1 ≤ 500 then (if w ≤ N then (if w = 0 then m0 + st.1 else (f (st.2.getD (w.toNat - 1) 0) : Int)) else -2) else -2
theorem cpo {F N : Nat} {i1 i2 x4 x5 : Int32} {k102 : Int32 → Int32 → Int32 → Mem → Option (Int32 × Mem)} (hN : N ≤ 5) : ∀ (d n' k : Nat) (σ : Mem), k + d = N → d < n' → ∃ σ', m12_order_153 F i1 i2 k102 n' (w32 (N : Int)) x4 x5 (w32 (k : Int)) σ = k102 (w32 (N : Int)) x4 (x5 + 1) σ' ∧ (∀ i, k ≤ i → i < N → gI σ' 503 i = gI σ 502 i) ∧ (∀ i, i < k → gI σ' 503 i = gI σ 503 i) ∧ Fr (fun c => c = 503) σ σ' := by
  intro d
  induction d with
  | zero =>
    intro n' k σ h1 h2
    obtain ⟨n', rfl⟩ : ∃ q, n' = q + 1 := ⟨n' - 1, by omega⟩
    unfold m12_order_153
    rw [if_pos (by rw [w_le (by omega) (by omega) (by omega) (by omega)]; omega)]
    exact ⟨σ, rfl, fun i _ _ => by omega, fun _ _ => rfl, Fr.rf _ σ⟩
  | succ d ih =>
    intro n' k σ h1 h2
    obtain ⟨n', rfl⟩ : ∃ q, n' = q + 1 := ⟨n' - 1, by omega⟩
    unfold m12_order_153
    rw [if_neg (by rw [w_le (by omega) (by omega) (by omega) (by omega)]; omega), gd_pos (w_inB (by omega) (by omega) (by omega)), gd_pos (w_inB (by omega) (by omega) (by omega)), w_natk (by omega), w_succ]
    obtain ⟨σ', m1, a, b, f⟩ := ih n' (k + 1) (sI σ 503 k (gI σ 502 k)) (by omega) (by omega)
    refine ⟨σ', m1, fun i i1 i2 => ?_, fun i hi => ?_, ((Fr.rf (fun c => c = 503) σ).sI rfl).trans f⟩
    · by_cases hik : i = k
      · rw [hik, b k (by omega), gI_eq]
      · rw [a i (by omega) i2, gI_nec (by decide)]
    · rw [b i (by omega), gI_nej (by omega)]
theorem ref_cell {t : Nat} {S : Ab} {σ σ' : Mem} {W : Nat → Prop} (hC : CInv S σ) (hR : RInv S σ) (wf : Wf t S) (f : Fr W σ σ') (hw : ∀ c, W c → 498 ≤ c ∧ c ≤ 505) : CInv S σ' ∧ RInv S σ' :=
  ⟨ref_q hC wf f (fun c z => by have := hw c z; omega), hR.q wf (f.gI (fun z => by have := hw _ z; omega)) (f.mono (fun c z => by have := hw c z; unfold Wq; omega)) (fun j _ => by rw [f.gI (fun z => by have := hw _ z; omega)])⟩
theorem ord102 {F t p N m : Nat} {S : Ab} {w : Int} {f : Nat → Nat} (wf : Wf t S) (ht : t ≤ 600) (hm : wP (sW S) 0 5 = (m : Int)) (hp : (p : Int) < wP (sW S) 0 4) (hN : N ≤ 5) (hN1 : 1 ≤ N) (hw : 0 ≤ w ∧ w ≤ 5) (hF : 1000 ≤ F) (hf : ∀ x, x < N → f x < m ∧ wP (sW S) 2 (f x) = (p : Int)) (hi : ∀ x y, x < N → y < N → f x = f y → x = y) (ho : ∀ x, x < N → 0 < wA (sW S) 6 (f x)) (hall : ∀ k, k < m → wP (sW S) 2 k = (p : Int) → 0 < wA (sW S) 6 k → ∃ x, x < N ∧ f x = k) :
    ∀ (d n' c : Nat) (L : List (List Nat)) (st : Nat × List Nat) (σ : Mem), layAll N d c = L.map some → c + d = fct N → d < n' → (∀ is, is ∈ L → is ∈ prm N (opI (fun _ => true) N 0)) → CInv S σ → RInv S σ → (∀ x, x < N → gI σ 501 x = w32 (f x : Int)) → (st.1 ≤ 500 → ∀ i, i < N → gI σ 503 i = w32 (f (st.2.getD i 0) : Int)) →
    ∃ σ', m12_order_102 F (w32 (p : Int)) (w32 w) n' (w32 (N : Int)) (w32 (if st.1 ≤ 500 then (st.1 : Int) else -1)) (w32 (c : Int)) σ = some (w32 (oAns N w f (wA (sW S) 0 0) (L.foldl (lf (fun is => tmI (wP (sW S)) (roOf S) f p 0 is (500 - 0) (wA (sW S))) 0 []) st)), σ') ∧ CInv S σ' ∧ RInv S σ' := by
  obtain ⟨wPl, ⟨wI, h93, -, h8⟩, -⟩ := id wf.1
  have fr := fct_rg N (by omega)
  intro d
  induction d with
  | zero =>
    intro n' c L st σ h1 h2 h3 h4 hC hR h501 h503
    obtain ⟨n', rfl⟩ : ∃ q, n' = q + 1 := ⟨n' - 1, by omega⟩
    have hL : L = [] := by
      cases L with
      | nil => rfl
      | cons a l => rw [List.map_cons, layAll] at h1; cases h1
    subst hL
    have hE := hR.E wf
    have e5 : gI σ 493 5 = w32 (wA (sW S) 0 0) := hE.1.1 0 0 (by decide) rfl
    refine ⟨σ, ?_, hC, hR⟩
    unfold m12_order_102 oAns
    rw [orders_r hN (by omega), Option.bind_some, if_pos (by rw [w_le (by omega) (by omega) (by omega) (by omega)]; omega), List.foldl_nil]
    by_cases hs : st.1 ≤ 500
    · rw [if_pos hs, if_pos hs, if_neg (by rw [wl_0, w_lt (by omega) (by omega) (by omega) (by omega)]; omega)]
      by_cases hwN : w ≤ N
      · rw [if_pos (by rw [w_le (by omega) (by omega) (by omega) (by omega)]; exact hwN), if_pos hwN]
        by_cases h0 : w = 0
        · rw [if_pos (by rw [h0]; rfl), if_pos h0, gd_pos (by decide), show (5 : Int32).toNatClampNeg = 5 from rfl, e5, w_add]
        · rw [if_neg (by rw [wl_0, w_eq (by omega) (by omega) (by omega) (by omega)]; exact h0), if_neg h0, show w32 w - (1 : Int32) = w32 ((w.toNat - 1 : Nat) : Int) by rw [wl_1, w_sub]; congr 1; omega, gd_pos (w_inB (by omega) (by omega) (by omega)), w_natk (by omega), h503 hs _ (by omega)]
      · rw [if_neg (by rw [w_le (by omega) (by omega) (by omega) (by omega)]; exact hwN), if_neg hwN]; rfl
    · rw [if_neg hs, if_neg hs, if_pos (by decide)]; rfl
  | succ d ih =>
    intro n' c L st σ h1 h2 h3 h4 hC hR h501 h503
    obtain ⟨n', rfl⟩ : ∃ q, n' = q + 1 := ⟨n' - 1, by omega⟩
    cases L with
    | nil => rw [List.map_nil, layAll] at h1; cases h1
    | cons is L =>
      rw [List.map_cons, layAll] at h1
      obtain ⟨hlay, hrest⟩ := List.cons.inj h1
      obtain ⟨p1, p2, p3, p4⟩ := prm_tab N (by omega) is (h4 is (List.mem_cons_self ..))
      obtain ⟨x, xs, rfl⟩ : ∃ x xs, is = x :: xs := by
        cases is with
        | nil => rw [List.length_nil] at p1; omega
        | cons x xs => exact ⟨x, xs, rfl⟩
      obtain ⟨σ1, m1, a1, -, f1⟩ := lays_r (F := F) (N := N) (i1 := w32 (c : Int)) hN hF N F 0 c 0 (x :: xs) σ (by omega) (by omega) (by omega) hlay
      obtain ⟨hC1, hR1⟩ := ref_cell hC hR wf f1 (fun c z => by omega)
      have nd : ((List.range' 0 N).map (fun i => f ((x :: xs).getD i 0))).Nodup := by
        rw [map_get p1 f]; exact nodup_map hi _ p2 p3
      have gm : ∀ i, i < N → (x :: xs).getD i 0 < N := fun i hi => p3 _ (getD_mem (by omega))
      obtain ⟨σ2, m2, hC2, hR2, o2⟩ := momentsBy_r (F := F) (p := p) (N := N) (g := fun i => f ((x :: xs).getD i 0)) hC1 hR1 wf ht hm hp hN hN1 (fun i hi => (hf _ (gm i hi)).1) nd (fun i hi => by
        have := a1 i hi
        rw [Nat.zero_add] at this
        rw [this]; exact h501 _ (gm i hi)) hF
      have ev : till (wP (sW S)) (roOf S) p 500 (pbA m ((List.range' 0 N).map (fun i => f ((x :: xs).getD i 0))) (hz (wP (sW S)) (fun i => f ((x :: xs).getD i 0)) p 0 0 (wA (sW S)))) = tmI (wP (sW S)) (roOf S) f p 0 (x :: xs) 500 (wA (sW S)) := by
        rw [map_get p1 f, tm_order wPl.1 hm hf hi ho hall (fun k => (h8 k).1) p2 p3 p4 500]
        rfl
      rw [ev] at m2
      have q501 : ∀ y, y < N → gI σ2 501 y = w32 (f y : Int) := fun y hy => by rw [o2 501 (by decide) (by decide), f1.gI (by decide)]; exact h501 y hy
      have q503 : st.1 ≤ 500 → ∀ i, i < N → gI σ2 503 i = w32 (f (st.2.getD i 0) : Int) := fun z i hi => by rw [o2 503 (by decide) (by decide), f1.gI (by decide)]; exact h503 z i hi
      have q502 : ∀ i, i < N → gI σ2 502 i = w32 (f ((x :: xs).getD i 0) : Int) := fun i hi => by
        have := a1 i hi
        rw [Nat.zero_add] at this
        rw [o2 502 (by decide) (by decide), this]; exact h501 _ (gm i hi)
      have m1' : m12_laysOrder F (w32 (c : Int)) (w32 (N : Int)) σ = some σ1 := m1
      unfold m12_order_102
      rw [orders_r hN (by omega), Option.bind_some, if_neg (by rw [w_le (by omega) (by omega) (by omega) (by omega)]; omega), m1', Option.bind_some, m2, Option.bind_some]
      dsimp only
      rw [List.foldl_cons]
      have skip : ∀ st' : Nat × List Nat, st' = st → lf (fun is => tmI (wP (sW S)) (roOf S) f p 0 is (500 - 0) (wA (sW S))) 0 [] st (x :: xs) = st' → ∃ σ', m12_order_102 F (w32 (p : Int)) (w32 w) n' (w32 (N : Int)) (w32 (if st.1 ≤ 500 then (st.1 : Int) else -1)) (w32 (c : Int) + 1) σ2 = some (w32 (oAns N w f (wA (sW S) 0 0) (L.foldl (lf (fun is => tmI (wP (sW S)) (roOf S) f p 0 is (500 - 0) (wA (sW S))) 0 []) (lf (fun is => tmI (wP (sW S)) (roOf S) f p 0 is (500 - 0) (wA (sW S))) 0 [] st (x :: xs)))), σ') ∧ CInv S σ' ∧ RInv S σ' := by
        intro st' e1 e2
        rw [e2, e1, w_succ]
        exact ih n' (c + 1) L st σ2 hrest (by omega) (by omega) (fun is h => h4 is (List.mem_cons_of_mem _ h)) hC2 hR2 q501 q503
      have hv : tmI (wP (sW S)) (roOf S) f p 0 (x :: xs) 500 (wA (sW S)) = tmI (wP (sW S)) (roOf S) f p 0 (x :: xs) (500 - 0) (wA (sW S)) := rfl
      cases hval : tmI (wP (sW S)) (roOf S) f p 0 (x :: xs) 500 (wA (sW S)) with
      | none =>
        rw [show w32 (resT 0 none) = w32 (-1) from rfl, if_pos (by decide)]
        exact skip st rfl (lf_none (v := fun is => tmI (wP (sW S)) (roOf S) f p 0 is (500 - 0) (wA (sW S))) hval)
      | some v =>
        have v500 : v ≤ 500 := till_le 500 _ v (ev.trans hval)
        have elf := lf_some (v := fun is => tmI (wP (sW S)) (roOf S) f p 0 is (500 - 0) (wA (sW S))) (g := 0) (pre := []) (st := st) hval
        rw [show resT 0 (some v) = ((0 + v : Nat) : Int) from rfl, Nat.zero_add, if_neg (by rw [wl_0, w_lt (by omega) (by omega) (by omega) (by omega)]; omega)]
        have take : v < st.1 → ∃ σ', m12_order_153 F (w32 (p : Int)) (w32 w) (fun x3 x4 x5 σ => m12_order_102 F (w32 (p : Int)) (w32 w) n' x3 x4 x5 σ) F (w32 (N : Int)) (w32 (v : Int)) (w32 (c : Int)) (0 : Int32) σ2 = some (w32 (oAns N w f (wA (sW S) 0 0) (L.foldl (lf (fun is => tmI (wP (sW S)) (roOf S) f p 0 is (500 - 0) (wA (sW S))) 0 []) (lf (fun is => tmI (wP (sW S)) (roOf S) f p 0 is (500 - 0) (wA (sW S))) 0 [] st (x :: xs)))), σ') ∧ CInv S σ' ∧ RInv S σ' := by
          intro hlt
          rw [elf, Nat.zero_add, if_pos hlt, List.nil_append]
          obtain ⟨σ3, m3, c3, -, f3⟩ := cpo (F := F) (N := N) (i1 := w32 (p : Int)) (i2 := w32 w) (x4 := w32 (v : Int)) (x5 := w32 (c : Int)) (k102 := fun x3 x4 x5 σ => m12_order_102 F (w32 (p : Int)) (w32 w) n' x3 x4 x5 σ) hN N F 0 σ2 (by omega) (by omega)
          have m3' : m12_order_153 F (w32 (p : Int)) (w32 w) (fun x3 x4 x5 σ => m12_order_102 F (w32 (p : Int)) (w32 w) n' x3 x4 x5 σ) F (w32 (N : Int)) (w32 (v : Int)) (w32 (c : Int)) (0 : Int32) σ2 = _ := m3
          rw [m3', w_succ]
          obtain ⟨hC3, hR3⟩ := ref_cell hC2 hR2 wf f3 (fun c z => by omega)
          have := ih n' (c + 1) L (v, x :: xs) σ3 hrest (by omega) (by omega) (fun is h => h4 is (List.mem_cons_of_mem _ h)) hC3 hR3 (fun y hy => by rw [f3.gI (by decide)]; exact q501 y hy) (fun _ i hi => by rw [c3 i (Nat.zero_le _) hi]; exact q502 i hi)
          rw [if_pos (show ((v, x :: xs) : Nat × List Nat).1 ≤ 500 from v500)] at this
          exact this
        by_cases hs : st.1 ≤ 500
        · rw [if_pos hs] at skip ⊢
          rw [if_neg (by rw [wl_0, w_lt (by omega) (by omega) (by omega) (by omega)]; omega)]
          by_cases hlt : v < st.1
          · rw [if_pos (by rw [w_lt (by omega) (by omega) (by omega) (by omega)]; omega)]
            exact take hlt
          · rw [if_neg (by rw [w_lt (by omega) (by omega) (by omega) (by omega)]; omega)]
            exact skip st rfl (elf.trans (if_neg (by omega)))
        · rw [if_neg hs, if_pos (by decide)]
          exact take (by omega)
theorem ord27 {F t p m : Nat} {S : Ab} {w : Int} (wf : Wf t S) (ht : t ≤ 600) (hm : wP (sW S) 0 5 = (m : Int)) (hp : p < 3) (hw : -2147483648 ≤ w ∧ w ≤ 2147483647) {Lf : List Nat} : ∀ (d n' j : Nat) (L0 : List Nat) (σ : Mem), j + d = m → d < n' → L0.length ≤ j → L0 ++ opI (opn (wP (sW S)) (wA (sW S)) p) d j = Lf → CInv S σ → RInv S σ → (∀ i, i < L0.length → gI σ 501 i = w32 (L0.getD i 0 : Int)) →
    ∃ σ', m12_order_27 F (w32 (p : Int)) (w32 w) n' (w32 (L0.length : Int)) (w32 (j : Int)) σ = (if Lf.length ≤ 5 then (if Lf.length = 0 then (if w = 0 then some (w32 (wA (sW S) 0 0), σ') else some ((-2 : Int32), σ')) else m12_order_102 F (w32 (p : Int)) (w32 w) F (w32 (Lf.length : Int)) (-1 : Int32) (0 : Int32) σ') else some ((-3 : Int32), σ')) ∧ CInv S σ' ∧ RInv S σ' ∧ (∀ i, i < Lf.length → gI σ' 501 i = w32 (Lf.getD i 0 : Int)) := by
  obtain ⟨wPl, ⟨wI, h93, -, h8⟩, -⟩ := id wf.1
  obtain ⟨bP, ⟨m', hm', hm8⟩, ⟨n4, hn, hn3⟩, -⟩ := id wPl.1
  have bA := wI.bd (show t ≤ 9000 by omega)
  intro d
  induction d with
  | zero =>
    intro n' j L0 σ h1 h2 h3 h4 hC hR h501
    obtain ⟨n', rfl⟩ : ∃ q, n' = q + 1 := ⟨n' - 1, by omega⟩
    have hE := hR.E wf
    have e4 : gI σ 493 4 = w32 (wP (sW S) 0 5) := hE.1.2.1 4 (by decide)
    have e5 : gI σ 493 5 = w32 (wA (sW S) 0 0) := hE.1.1 0 0 (by decide) rfl
    have hL : Lf = L0 := by rw [← h4]; exact List.append_nil L0
    subst hL
    refine ⟨σ, ?_, hC, hR, h501⟩
    unfold m12_order_27
    rw [gd_pos (by decide), show (4 : Int32).toNatClampNeg = 4 from rfl, e4, hm, if_pos (by rw [w_le (by omega) (by omega) (by omega) (by omega)]; omega)]
    by_cases h5 : Lf.length ≤ 5
    · rw [if_pos (by rw [wl_5, w_le (by omega) (by omega) (by omega) (by omega)]; omega), if_pos h5]
      by_cases h0 : Lf.length = 0
      · rw [if_pos (by rw [h0]; rfl), if_pos h0]
        by_cases hw0 : w = 0
        · rw [if_pos (by rw [hw0]; rfl), if_pos hw0, gd_pos (by decide), show (5 : Int32).toNatClampNeg = 5 from rfl, e5]
        · rw [if_neg (by rw [wl_0, w_eq (by omega) (by omega) (by omega) (by omega)]; exact hw0), if_neg hw0]
      · rw [if_neg (by rw [wl_0, w_eq (by omega) (by omega) (by omega) (by omega)]; omega), if_neg h0]
    · rw [if_neg (by rw [wl_5, w_le (by omega) (by omega) (by omega) (by omega)]; omega), if_neg h5]
  | succ d ih =>
    intro n' j L0 σ h1 h2 h3 h4 hC hR h501
    obtain ⟨n', rfl⟩ : ∃ q, n' = q + 1 := ⟨n' - 1, by omega⟩
    have hE := hR.E wf
    have e4 : gI σ 493 4 = w32 (wP (sW S) 0 5) := hE.1.2.1 4 (by decide)
    unfold m12_order_27
    rw [gd_pos (by decide), show (4 : Int32).toNatClampNeg = 4 from rfl, e4, hm, if_neg (by rw [w_le (by omega) (by omega) (by omega) (by omega)]; omega), isOpen_r hE.1 wI.1 bP (bA.mono (by decide)) (by omega) (by omega) (by omega), Option.bind_some, w_succ]
    simp only [g01]
    unfold opI at h4
    by_cases ho : opn (wP (sW S)) (wA (sW S)) p j = true
    · rw [if_pos ho] at h4
      rw [if_neg (not_not_intro ho), gd_pos (w_inB (by omega) (by omega) (by omega)), w_natk (by omega), w_succ]
      have f1 : Fr (fun c => c = 501) σ (sI σ 501 L0.length (w32 (j : Int))) := (Fr.rf _ σ).sI rfl
      obtain ⟨hC1, hR1⟩ := ref_cell hC hR wf f1 (fun c z => by omega)
      have el : (L0 ++ [j]).length = L0.length + 1 := List.length_append
      have := ih n' (j + 1) (L0 ++ [j]) (sI σ 501 L0.length (w32 (j : Int))) (by omega) (by omega) (by omega) (by rw [List.append_assoc]; exact h4) hC1 hR1 (fun i hi => by
        by_cases hik : i = L0.length
        · rw [hik, gI_eq, getD_hi]
        · rw [gI_nej hik, getD_lo (by omega)]; exact h501 i (by omega))
      rw [el] at this
      exact this
    · rw [if_neg ho] at h4
      rw [if_pos ho]
      exact ih n' (j + 1) L0 σ (by omega) (by omega) (by omega) h4 hC hR h501
theorem bo23 {F p m : Nat} {i3 : Int32} {P A : Dat} (wP : WfP P) (bA : Bd 800000000 A) (hm : P 0 5 = (m : Int)) (hp : p < 3) {Lf : List Nat} (h5 : Lf.length ≤ 5) : ∀ (d n' j : Nat) (L0 : List Nat) (σ : Mem), j + d = m → d < n' → L0 ++ opI (opn P A p) d j = Lf → RepP 17 σ P → RepS 26 σ A → gI σ 56 6 = w32 (L0.length : Int) → (∀ i, i < L0.length → gI σ 60 i = w32 (L0.getD i 0 : Int)) →
    ∃ σ', m0_bestOrder_23 F 26 (w32 (p : Int)) i3 n' (w32 (j : Int)) σ = m0_bestOrder_84 F 26 (w32 (p : Int)) i3 σ' ∧ gI σ' 56 6 = w32 (Lf.length : Int) ∧ (∀ i, i < Lf.length → gI σ' 60 i = w32 (Lf.getD i 0 : Int)) ∧ Fr (fun c => c = 56 ∨ c = 60) σ σ' ∧ gI σ' 56 9 = gI σ 56 9 := by
  obtain ⟨bP, ⟨m', hm', hm8⟩, ⟨n4, hn, hn3⟩, -⟩ := id wP
  intro d
  induction d with
  | zero =>
    intro n' j L0 σ h1 h2 h4 hP hS e6 h60
    obtain ⟨n', rfl⟩ : ∃ q, n' = q + 1 := ⟨n' - 1, by omega⟩
    have e5 : gI σ 17 5 = w32 (P 0 5) := hP.at 0 5
    have hL : Lf = L0 := by rw [← h4]; exact List.append_nil L0
    subst hL
    unfold m0_bestOrder_23
    rw [e5, hm, if_pos (by rw [w_le (by omega) (by omega) (by omega) (by omega)]; omega)]
    exact ⟨σ, rfl, e6, h60, Fr.rf _ σ, rfl⟩
  | succ d ih =>
    intro n' j L0 σ h1 h2 h4 hP hS e6 h60
    obtain ⟨n', rfl⟩ : ∃ q, n' = q + 1 := ⟨n' - 1, by omega⟩
    have e5 : gI σ 17 5 = w32 (P 0 5) := hP.at 0 5
    have hlen : L0.length + (opI (opn P A p) (d + 1) j).length = Lf.length := by rw [← h4, List.length_append]
    unfold m0_bestOrder_23
    rw [e5, hm, if_neg (by rw [w_le (by omega) (by omega) (by omega) (by omega)]; omega), e6]
    by_cases hfull : 5 ≤ L0.length
    · rw [if_pos (by rw [wl_5, w_le (by omega) (by omega) (by omega) (by omega)]; omega)]
      have hz : opI (opn P A p) (d + 1) j = [] := List.eq_nil_of_length_eq_zero (by omega)
      have hL : Lf = L0 := by rw [← h4, hz]; exact List.append_nil L0
      subst hL
      exact ⟨σ, rfl, e6, h60, Fr.rf _ σ, rfl⟩
    · rw [if_neg (by rw [wl_5, w_le (by omega) (by omega) (by omega) (by omega)]; omega), isToDo_ok hP hS (bP.mono (by decide)) (bA.mono (by decide)) (by omega) (by omega), Option.bind_some, w_succ]
      simp only [g01]
      unfold opI at h4
      by_cases ho : opn P A p j = true
      · rw [if_pos ho] at h4
        rw [if_neg (not_not_intro ho), gd_pos (w_inB (by omega) (by omega) (by omega)), w_natk (by omega), gI_nec (show (56 : Nat) ≠ 60 by decide), e6, w_succ]
        have f1 : Fr (fun c => c = 56 ∨ c = 60) σ (sI (sI σ 60 L0.length (w32 (j : Int))) 56 6 (w32 ((L0.length + 1 : Nat) : Int))) := ((Fr.rf _ σ).sI (Or.inr rfl)).sI (Or.inl rfl)
        obtain ⟨σ', m1, a, b, f, g⟩ := ih n' (j + 1) (L0 ++ [j]) _ (by omega) (by omega) (by rw [List.append_assoc]; exact h4) (hP.fr f1 (fun i hi => by omega)) (hS.fr f1 (fun i hi => by omega)) (by rw [gI_eq, List.length_append]; rfl) (fun i hi => by
          rw [List.length_append] at hi
          have hi : i < L0.length + 1 := hi
          rw [gI_nec (by decide)]
          by_cases hik : i = L0.length
          · rw [hik, gI_eq, getD_hi]
          · rw [gI_nej hik, getD_lo (by omega)]; exact h60 i (by omega))
        exact ⟨σ', m1, a, b, f1.trans f, by rw [g, gI_nej (by decide), gI_nec (by decide)]⟩
      · rw [if_neg ho] at h4
        rw [if_pos ho]
        exact ih n' (j + 1) L0 σ (by omega) (by omega) h4 hP hS e6 h60
theorem order_q {F t : Nat} {S : Ab} {σ : Mem} (hC : CInv S σ) (hR : RInv S σ) (wf : Wf t S) (ht : t ≤ 600) (hF : 10000 ≤ F) (x y : Int32) : Ans S (m11_order F x y σ) (m12_order F x y) := by
  obtain ⟨a, rfl, a1, a2⟩ := arg x
  obtain ⟨b, rfl, b1, b2⟩ := arg y
  obtain ⟨wPl, ⟨wI, h93, -, h8⟩, -⟩ := id wf.1
  obtain ⟨bP, ⟨m, hm, hm8⟩, ⟨n4, hn, hn3⟩, -⟩ := id wPl.1
  have h17 : RepP 17 σ (wP (sW S)) := hC.1.1
  have h26 : RepS 26 σ (wA (sW S)) := hC.1.2.1
  have bA := wI.bd (show t ≤ 9000 by omega)
  have hE := hR.E wf
  have sm := hasSmith_c (F := F) (z := a) h17 wPl.1 a1 a2
  have inB' : ∀ τ, m12_in F (w32 b).toInt64 (0 : Int64) (5 : Int64) τ = some (if 0 ≤ b ∧ b ≤ 5 then (1 : Int32) else 0) := fun τ => in_r rfl rfl b1 b2 (by decide) (by decide)
  have q3 : (w32 b < (0 : Int32)) = (b < 0) := by rw [wl_0, w_lt (by omega) (by omega) (by omega) (by omega)]
  have q4 : (w32 b ≤ (5 : Int32)) = (b ≤ 5) := by rw [wl_5, w_le (by omega) (by omega) (by omega) (by omega)]
  by_cases ok : (0 ≤ a ∧ a < wP (sW S) 0 4) ∧ (0 ≤ b ∧ b ≤ 5)
  · obtain ⟨oa, ob⟩ := ok
    obtain ⟨p, rfl⟩ : ∃ p : Nat, a = p := ⟨a.toNat, by omega⟩
    have hp3 : p < 3 := by omega
    have td := toDo_ok (F := F) (p := (p : Int)) h17 h26 (bP.mono (by decide)) (bA.mono (by decide)) (by omega) hm hm8 (by omega)
    have el : toDoN (wP (sW S)) (wA (sW S)) p = ((opI (opn (wP (sW S)) (wA (sW S)) p) m 0).length : Int) := by
      unfold toDoN
      rw [hm, Int.toNat_natCast, toDoL_len, Int.zero_add]
    have hlen : (opI (opn (wP (sW S)) (wA (sW S)) p) m 0).length ≤ 8 := by
      have := toDoL_rg (P := wP (sW S)) (A := wA (sW S)) (p := (p : Int)) m 0 0
      have e2 : toDoN (wP (sW S)) (wA (sW S)) p = toDoL (wP (sW S)) (wA (sW S)) p m 0 0 := by unfold toDoN; rw [hm, Int.toNat_natCast]
      omega
    have r27 : ∀ τ, CInv S τ → RInv S τ → ∃ σ', m12_order_27 F (w32 (p : Int)) (w32 b) F (0 : Int32) (0 : Int32) τ = (if (opI (opn (wP (sW S)) (wA (sW S)) p) m 0).length ≤ 5 then (if (opI (opn (wP (sW S)) (wA (sW S)) p) m 0).length = 0 then (if b = 0 then some (w32 (wA (sW S) 0 0), σ') else some ((-2 : Int32), σ')) else m12_order_102 F (w32 (p : Int)) (w32 b) F (w32 ((opI (opn (wP (sW S)) (wA (sW S)) p) m 0).length : Int)) (-1 : Int32) (0 : Int32) σ') else some ((-3 : Int32), σ')) ∧ CInv S σ' ∧ RInv S σ' ∧ (∀ i, i < (opI (opn (wP (sW S)) (wA (sW S)) p) m 0).length → gI σ' 501 i = w32 ((opI (opn (wP (sW S)) (wA (sW S)) p) m 0).getD i 0 : Int)) := fun τ c1 c2 =>
      ord27 (F := F) (w := b) wf ht hm hp3 (by omega) m F 0 [] τ (by omega) (by omega) (Nat.le_refl _) rfl c1 c2 (fun i hi => absurd hi (Nat.not_lt_zero _))
    generalize hLf : opI (opn (wP (sW S)) (wA (sW S)) p) m 0 = Lf at el hlen r27
    have ref0 : ∀ τ, CInv S τ → RInv S τ → m12_order F (w32 (p : Int)) (w32 b) τ = m12_order_27 F (w32 (p : Int)) (w32 b) F (0 : Int32) (0 : Int32) τ := fun τ c1 c2 => by
      have sr := isSmith_r (F := F) (z := (p : Int)) (c2.E wf).1 wPl.1 a1 a2
      unfold m12_order
      rw [sr, Option.bind_some]
      simp only [g01]
      rw [if_neg (not_not_intro oa), inB', Option.bind_some]
      simp only [g01]
      rw [if_neg (not_not_intro ob)]
    by_cases h5 : Lf.length ≤ 5
    · obtain ⟨pp, τ1, mr, mp, hC1, k1, ro1, f1⟩ := begin_c (F := F) hC wf
      have P1 : RepP 17 τ1 (wP (sW S)) := hC1.1.1
      have S1 : RepS 26 τ1 (wA (sW S)) := hC1.1.2.1
      obtain ⟨τ2, m2, s2⟩ := cpS_ok (F := F) (c0 := 61) (c1 := 26) (by decide) (by omega) S1
      have f2 := f7_copyFrom m2
      have f2' : Fr (fun c => c = 56 ∨ (61 ≤ c ∧ c ≤ 70)) τ1 (sI (sI τ2 56 9 (w32 (p : Int))) 56 6 (0 : Int32)) := ((f2.mono (fun c z => by unfold Wm7_copyFrom at z; omega)).sI (Or.inl rfl)).sI (Or.inl rfl)
      obtain ⟨τ3, m3, e6, e60, f3, e9⟩ := bo23 (F := F) (i3 := w32 b) (P := wP (sW S)) (A := wA (sW S)) wPl.1 bA hm hp3 h5 m F 0 [] (sI (sI τ2 56 9 (w32 (p : Int))) 56 6 (0 : Int32)) (by omega) (by omega) hLf (P1.fr f2' (fun i hi => by omega)) (S1.fr f2' (fun i hi => by omega)) (by rw [gI_eq]; rfl) (fun i hi => absurd hi (Nat.not_lt_zero _))
      rw [gI_nej (by decide), gI_eq] at e9
      have f3' : Fr (fun c => c = 56 ∨ c = 60 ∨ (61 ≤ c ∧ c ≤ 70)) τ1 τ3 := (f2'.mono (fun c z => by omega)).trans (f3.mono (fun c z => by omega))
      have E3 : ∀ s1 : Int32, CE 61 Kp (roOf S) (wP (sW S)) (wA (sW S)) (sI τ3 56 7 s1) := fun s1 => by
        have fx : Fr (fun c => c = 56 ∨ c = 60) (sI (sI τ2 56 9 (w32 (p : Int))) 56 6 (0 : Int32)) (sI τ3 56 7 s1) := f3.sI (Or.inl rfl)
        have fy : Fr (fun c => c = 56 ∨ c = 60 ∨ (61 ≤ c ∧ c ≤ 70)) τ1 (sI τ3 56 7 s1) := f3'.sI (Or.inl rfl)
        have sx : RepS 61 (sI (sI τ2 56 9 (w32 (p : Int))) 56 6 (0 : Int32)) (wA (sW S)) := (s2.ne (Or.inl (by omega))).ne (Or.inl (by omega))
        exact ⟨P1.fr fy (fun i hi => by omega), sx.fr fx (fun i hi => by omega), k1.fr fy (by omega), ro1.fr fy (fun c z => by omega)⟩
      have cls0 : m11_order F (w32 (p : Int)) (w32 b) σ = Option.bind (m0_bestOrder_84 F 26 (w32 (p : Int)) (w32 b) τ3) (fun p5 => some (p5.1, p5.2)) := by
        unfold m11_order
        rw [sm, Option.bind_some]
        simp only [g01, q3, q4]
        rw [if_neg (not_not_intro oa), if_neg (by omega), if_pos ob.2, td, Option.bind_some, if_pos (by rw [wl_5, w_le (by omega) (by omega) (by omega) (by omega)]; omega), mr, Option.bind_some, mp, Option.bind_some]
        unfold m0_bestOrder
        rw [gd_pos (by decide), show 61 + 10 * (0 : Int32).toNatClampNeg = 61 from rfl, m2, Option.bind_some]
        have m3' : m0_bestOrder_23 F 26 (w32 (p : Int)) (w32 b) F (0 : Int32) (sI (sI τ2 56 9 (w32 (p : Int))) 56 6 (0 : Int32)) = m0_bestOrder_84 F 26 (w32 (p : Int)) (w32 b) τ3 := m3
        dsimp only
        rw [m3']
      by_cases h0 : Lf.length = 0
      · -- none left
        have c99 : m0_bestOrder_84 F 26 (w32 (p : Int)) (w32 b) τ3 = some (if b = 0 then w32 (wA (sW S) 0 0) else w32 (-2), sI τ3 56 7 (0 : Int32)) := by
          have e0 : gI (sI τ3 56 7 (0 : Int32)) 26 0 = w32 (wA (sW S) 0 0) := by
            rw [gI_nec (by decide), f3'.gI (by omega)]; exact S1.at 0 0
          unfold m0_bestOrder_84 m0_bestOrder_99
          rw [e6, h0, if_pos (show w32 ((0 : Nat) : Int) = (0 : Int32) from rfl)]
          have ec : m0_chooseJobs F 7 (0 : Int32) (0 : Int32) (sI τ3 56 7 (0 : Int32)) = some (sI τ3 56 7 (0 : Int32)) := by
            show m0_chooseJobs_e F (m0_chooseJobs F 6) (0 : Int32) (0 : Int32) (sI τ3 56 7 (0 : Int32)) = _
            unfold m0_chooseJobs_e
            rw [gI_nej (by decide), e6, h0, if_neg (by decide)]
          dsimp only
          rw [ec, Option.bind_some, gI_eq, if_neg (by decide), gI_nej (by decide), e6, h0, e0]
          by_cases hb : b = 0
          · rw [if_pos (by rw [hb]; decide), if_pos (by rw [hb]; decide), if_pos hb, wl_0, w_add, Int.add_zero]
          · rw [if_neg (by rw [w_le (by omega) (by omega) (by omega) (by omega)]; omega), if_neg hb]; rfl
        rw [c99, Option.bind_some] at cls0
        obtain ⟨hC4, hR4⟩ := cls_q hC hR wf (f11_order cls0) (fun c z => by unfold Wm11_order at z; omega)
        obtain ⟨σ', mr2, hC5, hR5, -⟩ := r27 _ hC4 hR4
        rw [if_pos h5, if_pos h0] at mr2
        refine ⟨_, _, σ', cls0, ?_, hC5, hR5⟩
        dsimp only
        rw [ref0 _ hC4 hR4, mr2]
        by_cases hb : b = 0
        · rw [if_pos hb, if_pos hb]
        · rw [if_neg hb, if_neg hb]; rfl
      · have hmem : ∀ x, x < Lf.length → Lf.getD x 0 < m ∧ wP (sW S) 2 (Lf.getD x 0) = (p : Int) ∧ 0 < wA (sW S) 6 (Lf.getD x 0) := fun x hx => by
          have := getD_mem hx
          rw [← hLf] at this
          obtain ⟨-, z1, z2⟩ := (opI_mem m 0).1 this
          rw [hLf] at z1 z2
          obtain ⟨o1, o2⟩ := opn_own z2
          exact ⟨by omega, o1, o2⟩
        have hf : ∀ x, x < Lf.length → Lf.getD x 0 < m ∧ wP (sW S) 2 (Lf.getD x 0) = (p : Int) := fun x hx => ⟨(hmem x hx).1, (hmem x hx).2.1⟩
        have hi : ∀ x y, x < Lf.length → y < Lf.length → Lf.getD x 0 = Lf.getD y 0 → x = y := getD_inj (by rw [← hLf]; exact opI_sorted m 0)
        have hall : ∀ k, k < m → wP (sW S) 2 k = (p : Int) → 0 < wA (sW S) 6 k → ∃ x, x < Lf.length ∧ Lf.getD x 0 = k := fun k k1 k2 k3 => by
          have : k ∈ Lf := by rw [← hLf]; exact (opI_mem m 0).2 ⟨Nat.zero_le _, by omega, opn_is k2 k3⟩
          obtain ⟨n, hn', e⟩ := List.mem_iff_getElem.1 this
          exact ⟨n, hn', by rw [List.getD_eq_getElem?_getD, List.getElem?_eq_getElem hn']; exact e⟩
        have elo : opI (opA (wA (sW S)) (fun x => Lf.getD x 0)) Lf.length 0 = opI (fun _ => true) Lf.length 0 := opI_congr _ _ (fun y _ hy => decide_eq_true (hmem y (by omega)).2.2)
        obtain ⟨n1, hn1⟩ : ∃ n1, Lf.length = n1 + 1 := ⟨Lf.length - 1, by omega⟩
        have C3 : COs Lf.length p (wP (sW S)) (roOf S) (fun x => Lf.getD x 0) 0 (wA (sW S)) (501, []) (sI τ3 56 7 (501 : Int32)) :=
          ⟨E3 _, by rw [gI_nej (by decide)]; exact e6, by rw [gI_eq]; rfl, by rw [gI_nej (by decide)]; exact e9, fun x hx => by rw [gI_nec (by decide)]; exact e60 x hx, fun z => absurd z (by decide), by decide⟩
        obtain ⟨τ4, m4, c4, -, f4⟩ := jobs_c (F := F) (N := Lf.length) (m := m) (p := p) (f := fun x => Lf.getD x 0) (t0 := t) (ro := roOf S) wPl hm h5 (by omega) hp3 hf hi (by omega) n1 0 7 0 [] (501, []) (wA (sW S)) _ (by omega) (by omega) C3 rfl (fun i hi => absurd hi (Nat.not_lt_zero _)) (by omega) wI (fun j _ _ _ => (h8 j).1)
        rw [← hn1, elo] at c4
        have c84 : m0_bestOrder_84 F 26 (w32 (p : Int)) (w32 b) τ3 = some (w32 (oAns Lf.length b (fun x => Lf.getD x 0) (wA (sW S) 0 0) ((prm Lf.length (opI (fun _ => true) Lf.length 0)).foldl (lf (fun is => tmI (wP (sW S)) (roOf S) (fun x => Lf.getD x 0) p 0 is (500 - 0) (wA (sW S))) 0 []) (501, []))), τ4) := by
          obtain ⟨-, g6, g7, -, -, g59, gst⟩ := c4
          generalize (prm Lf.length (opI (fun _ => true) Lf.length 0)).foldl (lf (fun is => tmI (wP (sW S)) (roOf S) (fun x => Lf.getD x 0) p 0 is (500 - 0) (wA (sW S))) 0 []) (501, []) = st at g7 g59 gst ⊢
          have e0 : gI τ4 26 0 = w32 (wA (sW S) 0 0) := by
            rw [f4.gI (by unfold Wr; omega), gI_nec (by decide), f3'.gI (by omega)]; exact S1.at 0 0
          have m4' : m0_chooseJobs F 7 (0 : Int32) (0 : Int32) (sI τ3 56 7 (501 : Int32)) = some τ4 := m4
          unfold m0_bestOrder_84 m0_bestOrder_99 oAns
          rw [e6, if_neg (by rw [wl_0, w_eq (by omega) (by omega) (by omega) (by omega)]; omega)]
          dsimp only
          rw [m4', Option.bind_some, g7, g6, e0]
          by_cases hs : st.1 ≤ 500
          · rw [if_neg (by rw [wl_500, w_lt (by omega) (by omega) (by omega) (by omega)]; omega), if_pos hs]
            by_cases hbN : b ≤ (Lf.length : Int)
            · rw [if_pos (by rw [w_le (by omega) (by omega) (by omega) (by omega)]; exact hbN), if_pos hbN]
              by_cases hb : b = 0
              · rw [if_pos (by rw [wl_1, w_lt (by omega) (by omega) (by omega) (by omega)]; omega), if_pos hb, w_add]
              · rw [if_neg (by rw [wl_1, w_lt (by omega) (by omega) (by omega) (by omega)]; omega), if_neg (by rw [wl_5, w_lt (by omega) (by omega) (by omega) (by omega)]; omega), if_neg hb, show w32 b - (1 : Int32) = w32 ((b.toNat - 1 : Nat) : Int) by rw [wl_1, w_sub]; congr 1; omega, gd_pos (w_inB (by omega) (by omega) (by omega)), w_natk (by omega), g59 hs _ (by omega)]
            · rw [if_neg (by rw [w_le (by omega) (by omega) (by omega) (by omega)]; exact hbN), if_neg hbN]; rfl
          · rw [if_pos (by rw [wl_500, w_lt (by omega) (by omega) (by omega) (by omega)]; omega), if_neg hs]; rfl
        rw [c84, Option.bind_some] at cls0
        obtain ⟨hC4, hR4⟩ := cls_q hC hR wf (f11_order cls0) (fun c z => by unfold Wm11_order at z; omega)
        obtain ⟨σ5, mr2, hC5, hR5, h501⟩ := r27 _ hC4 hR4
        rw [if_pos h5, if_neg h0] at mr2
        obtain ⟨σ6, m6, hC6, hR6⟩ := ord102 (F := F) (p := p) (N := Lf.length) (w := b) (f := fun x => Lf.getD x 0) wf ht hm oa.2 h5 (by omega) ob (by omega) hf hi (fun x hx => (hmem x hx).2.2) hall (fct Lf.length) F 0 (prm Lf.length (opI (fun _ => true) Lf.length 0)) (501, []) σ5 (lay_tab _ (by omega)) (by omega) (by have := fct_rg Lf.length (by omega); omega) (fun is h => h) hC5 hR5 h501 (fun z => absurd z (by decide))
        refine ⟨_, _, σ6, cls0, ?_, hC6, hR6⟩
        dsimp only
        rw [ref0 _ hC4 hR4, mr2]
        exact m6
    · refine ⟨-3, σ, ?_⟩
      obtain ⟨σ', mr2, hC5, hR5, -⟩ := r27 σ hC hR
      rw [if_neg h5] at mr2
      refine ⟨σ', ?_, ?_, hC5, hR5⟩
      · unfold m11_order
        rw [sm, Option.bind_some]
        simp only [g01, q3, q4]
        rw [if_neg (not_not_intro oa), if_neg (by omega), if_pos ob.2, td, Option.bind_some, if_neg (by rw [wl_5, w_le (by omega) (by omega) (by omega) (by omega)]; omega)]
      · rw [ref0 _ hC hR, mr2]
  · refine ⟨-1, σ, σ, ?_, ?_, hC, hR⟩
    · unfold m11_order
      rw [sm, Option.bind_some]
      simp only [g01, q3, q4]
      (repeat' split) <;> first | rfl | (exfalso; omega)
    · have sr := isSmith_r (F := F) (z := a) hE.1 wPl.1 a1 a2
      unfold m12_order
      rw [sr, Option.bind_some]
      simp only [g01]
      simp only [inB', Option.bind_some, g01]
      (repeat' split) <;> first | rfl | (exfalso; omega)
