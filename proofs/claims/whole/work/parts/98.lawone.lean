/-! THE LAW: its loop -/
theorem iv_feed {F t : Nat} {σ : Mem} (h : IV t σ) (ht : t ≤ 600) (hF5 : 5000000 ≤ F) (a b c d e : Int32) : IVq (t + 1) (m11_feed F a b c d e σ) (m12_feed F a b c d e) := by
  have hF : 10000 ≤ F := by omega
  obtain ⟨S, hC, hR, wfx, hD⟩ := h
  obtain ⟨r, σ1, σ2, m1, m2, i⟩ := A_iv hD (feed_q hC hR wfx hF a b c d e) (fun r z => f11_feed z) (fun τ r z => f12_feed z) (fun c z => by unfold Wm11_feed at z; omega) (fun c z => by unfold Wm12_feed at z; omega)
  exact ⟨r, σ1, σ2, m1, m2, i.mono (by omega)⟩
theorem iv_end {F t : Nat} {σ : Mem} (h : IV t σ) (ht : t ≤ 600) (hF5 : 5000000 ≤ F) (a : Int32) : IVq (t + 1) (m11_end F a σ) (m12_end F a) := by
  have hF : 10000 ≤ F := by omega
  obtain ⟨S, hC, hR, wfx, hD⟩ := h
  obtain ⟨r, σ1, σ2, m1, m2, i⟩ := A_iv hD (end_q hC hR wfx a) (fun r z => f11_end z) (fun τ r z => f12_end z) (fun c z => by unfold Wm11_end at z; omega) (fun c z => by unfold Wm12_end at z; omega)
  exact ⟨r, σ1, σ2, m1, m2, i.mono (by omega)⟩
theorem iv_smithy {F t : Nat} {σ : Mem} (h : IV t σ) (ht : t ≤ 600) (hF5 : 5000000 ≤ F) : IVq (t + 1) (m11_smithy F σ) (m12_smithy F) := by
  have hF : 10000 ≤ F := by omega
  obtain ⟨S, hC, hR, wfx, hD⟩ := h
  obtain ⟨S', r, σ1, σ2, wf, m1, m2, c, d, e⟩ := smithy_q hC hR wfx hD hF
  exact ⟨r, σ1, σ2, m1, m2, IV.mono ⟨S', c, d, wf, e⟩ (by omega)⟩
theorem iv_rule {F t : Nat} {σ : Mem} (h : IV t σ) (ht : t ≤ 600) (hF5 : 5000000 ≤ F) : IVq (t + 1) (m11_rule F σ) (m12_rule F) := by
  have hF : 10000 ≤ F := by omega
  obtain ⟨S, hC, hR, wfx, hD⟩ := h
  obtain ⟨r, σ1, σ2, m1, m2, i⟩ := A_iv hD (rule_q hC hR wfx hF) (fun r z => f11_rule z) (fun τ r z => f12_rule z) (fun c z => by unfold Wm11_rule at z; omega) (fun c z => by unfold Wm12_rule at z; omega)
  exact ⟨r, σ1, σ2, m1, m2, i.mono (by omega)⟩
theorem iv_force {F t : Nat} {σ : Mem} (h : IV t σ) (ht : t ≤ 600) (hF5 : 5000000 ≤ F) (a : Int32) : IVq (t + 1) (m11_force F a σ) (m12_force F a) := by
  have hF : 10000 ≤ F := by omega
  obtain ⟨S, hC, hR, wfx, hD⟩ := h
  obtain ⟨r, σ1, σ2, m1, m2, i⟩ := A_iv hD (force_q hC hR wfx a) (fun r z => f11_force z) (fun τ r z => f12_force z) (fun c z => by unfold Wm11_force at z; omega) (fun c z => by unfold Wm12_force at z; omega)
  exact ⟨r, σ1, σ2, m1, m2, i.mono (by omega)⟩
theorem iv_moment {F t : Nat} {σ : Mem} (h : IV t σ) (ht : t ≤ 600) (hF5 : 5000000 ≤ F) : IVq (t + 1) (m11_moment F σ) (m12_moment F) := by
  have hF : 10000 ≤ F := by omega
  obtain ⟨S, hC, hR, wfx, hD⟩ := h
  exact A_iv hD (moment_q hC hR wfx ht hF) (fun r z => f11_moment z) (fun τ r z => f12_moment z) (fun c z => by unfold Wm11_moment at z; omega) (fun c z => by unfold Wm12_moment at z; omega)
theorem iv_quench {F t : Nat} {σ : Mem} (h : IV t σ) (ht : t ≤ 600) (hF5 : 5000000 ≤ F) (a : Int32) : IVq (t + 1) (m11_quench F a σ) (m12_quench F a) := by
  have hF : 10000 ≤ F := by omega
  obtain ⟨S, hC, hR, wfx, hD⟩ := h
  obtain ⟨r, σ1, σ2, m1, m2, i⟩ := A_iv hD (quench_q hC hR wfx ht hF a) (fun r z => f11_quench z) (fun τ r z => f12_quench z) (fun c z => by unfold Wm11_quench at z; omega) (fun c z => by unfold Wm12_quench at z; omega)
  exact ⟨r, σ1, σ2, m1, m2, i.mono (by omega)⟩
theorem iv_mend {F t : Nat} {σ : Mem} (h : IV t σ) (ht : t ≤ 600) (hF5 : 5000000 ≤ F) (a : Int32) : IVq (t + 1) (m11_mend F a σ) (m12_mend F a) := by
  have hF : 10000 ≤ F := by omega
  obtain ⟨S, hC, hR, wfx, hD⟩ := h
  obtain ⟨r, σ1, σ2, m1, m2, i⟩ := A_iv hD (mend_q hC hR wfx ht hF a) (fun r z => f11_mend z) (fun τ r z => f12_mend z) (fun c z => by unfold Wm11_mend at z; omega) (fun c z => by unfold Wm12_mend at z; omega)
  exact ⟨r, σ1, σ2, m1, m2, i.mono (by omega)⟩
theorem iv_aside {F t : Nat} {σ : Mem} (h : IV t σ) (ht : t ≤ 600) (hF5 : 5000000 ≤ F) (a : Int32) : IVq (t + 1) (m11_aside F a σ) (m12_aside F a) := by
  have hF : 10000 ≤ F := by omega
  obtain ⟨S, hC, hR, wfx, hD⟩ := h
  exact A_iv hD (aside_q hC hR wfx ht hF a) (fun r z => f11_aside z) (fun τ r z => f12_aside z) (fun c z => by unfold Wm11_aside at z; omega) (fun c z => by unfold Wm12_aside at z; omega)
theorem iv_undo {F t : Nat} {σ : Mem} (h : IV t σ) (ht : t ≤ 600) (hF5 : 5000000 ≤ F) : IVq (t + 1) (m11_undo F σ) (m12_undo F) := by
  have hF : 10000 ≤ F := by omega
  obtain ⟨S, hC, hR, wfx, hD⟩ := h
  obtain ⟨r, σ1, σ2, m1, m2, i⟩ := A_iv hD (undo_q hC hR wfx hF) (fun r z => f11_undo z) (fun τ r z => f12_undo z) (fun c z => by unfold Wm11_undo at z; omega) (fun c z => by unfold Wm12_undo at z; omega)
  exact ⟨r, σ1, σ2, m1, m2, i.mono (by omega)⟩
theorem iv_ahead {F t : Nat} {σ : Mem} (h : IV t σ) (ht : t ≤ 600) (hF5 : 5000000 ≤ F) (a b c : Int32) : IVq (t + 1) (m11_ahead F a b c σ) (m12_ahead F a b c) := by
  have hF : 10000 ≤ F := by omega
  obtain ⟨S, hC, hR, wfx, hD⟩ := h
  obtain ⟨r, σ1, σ2, m1, m2, i⟩ := Q_iv wfx hD (ahead_q hC hR wfx.1 ht hF a b c) (fun r z => f11_ahead z) (fun τ r z => f12_ahead z) (fun c z => by unfold Wm11_ahead at z; omega) (fun c z => by unfold Wm12_ahead at z; omega)
  exact ⟨r, σ1, σ2, m1, m2, i.mono (by omega)⟩
theorem iv_ready {F t : Nat} {σ : Mem} (h : IV t σ) (ht : t ≤ 600) (hF5 : 5000000 ≤ F) (a : Int32) : IVq (t + 1) (m11_ready F a σ) (m12_ready F a) := by
  have hF : 10000 ≤ F := by omega
  obtain ⟨S, hC, hR, wfx, hD⟩ := h
  obtain ⟨r, σ1, σ2, m1, m2, i⟩ := Q_iv wfx hD (ready_q hC hR wfx.1 ht hF a) (fun r z => f11_ready z) (fun τ r z => f12_ready z) (fun c z => by unfold Wm11_ready at z; omega) (fun c z => by unfold Wm12_ready at z; omega)
  exact ⟨r, σ1, σ2, m1, m2, i.mono (by omega)⟩
theorem iv_all {F t : Nat} {σ : Mem} (h : IV t σ) (ht : t ≤ 600) (hF5 : 5000000 ≤ F) : IVq (t + 1) (m11_all F σ) (m12_all F) := by
  have hF : 10000 ≤ F := by omega
  obtain ⟨S, hC, hR, wfx, hD⟩ := h
  obtain ⟨r, σ1, σ2, m1, m2, i⟩ := Q_iv wfx hD (all_q hC hR wfx.1 ht hF) (fun r z => f11_all z) (fun τ r z => f12_all z) (fun c z => by unfold Wm11_all at z; omega) (fun c z => by unfold Wm12_all at z; omega)
  exact ⟨r, σ1, σ2, m1, m2, i.mono (by omega)⟩
theorem iv_rota {F t : Nat} {σ : Mem} (h : IV t σ) (ht : t ≤ 600) (hF5 : 5000000 ≤ F) (a b : Int32) : IVq (t + 1) (m11_rota F a b σ) (m12_rota F a b) := by
  have hF : 10000 ≤ F := by omega
  obtain ⟨S, hC, hR, wfx, hD⟩ := h
  obtain ⟨r, σ1, σ2, m1, m2, i⟩ := Q_iv wfx hD (rota_q hC hR wfx.1 ht hF a b) (fun r z => f11_rota z) (fun τ r z => f12_rota z) (fun c z => by unfold Wm11_rota at z; omega) (fun c z => by unfold Wm12_rota at z; omega)
  exact ⟨r, σ1, σ2, m1, m2, i.mono (by omega)⟩
theorem iv_round {F t : Nat} {σ : Mem} (h : IV t σ) (ht : t ≤ 600) (hF5 : 5000000 ≤ F) (a : Int32) : IVq (t + 1) (m11_round F a σ) (m12_round F a) := by
  have hF : 10000 ≤ F := by omega
  obtain ⟨S, hC, hR, wfx, hD⟩ := h
  obtain ⟨r, σ1, σ2, m1, m2, i⟩ := Q_iv wfx hD (round_q hC hR wfx.1 ht hF5 a) (fun r z => f11_round z) (fun τ r z => f12_round z) (fun c z => by unfold Wm11_round at z; omega) (fun c z => by unfold Wm12_round at z; omega)
  exact ⟨r, σ1, σ2, m1, m2, i.mono (by omega)⟩
theorem iv_beside {F t : Nat} {σ : Mem} (h : IV t σ) (ht : t ≤ 600) (hF5 : 5000000 ≤ F) (a : Int32) : IVq (t + 1) (m11_beside F a σ) (m12_beside F a) := by
  have hF : 10000 ≤ F := by omega
  obtain ⟨S, hC, hR, wfx, hD⟩ := h
  obtain ⟨r, σ1, σ2, m1, m2, i⟩ := Q_iv wfx hD (beside_q hC hR wfx.1 ht hF a) (fun r z => f11_beside z) (fun τ r z => f12_beside z) (fun c z => by unfold Wm11_beside at z; omega) (fun c z => by unfold Wm12_beside at z; omega)
  exact ⟨r, σ1, σ2, m1, m2, i.mono (by omega)⟩
theorem iv_worth {F t : Nat} {σ : Mem} (h : IV t σ) (ht : t ≤ 600) (hF5 : 5000000 ≤ F) (a b : Int32) : IVq (t + 1) (m11_worth F a b σ) (m12_worth F a b) := by
  have hF : 10000 ≤ F := by omega
  obtain ⟨S, hC, hR, wfx, hD⟩ := h
  obtain ⟨r, σ1, σ2, m1, m2, i⟩ := Q_iv wfx hD (worth_q hC hR wfx.1 ht hF a b) (fun r z => f11_worth z) (fun τ r z => f12_worth z) (fun c z => by unfold Wm11_worth at z; omega) (fun c z => by unfold Wm12_worth at z; omega)
  exact ⟨r, σ1, σ2, m1, m2, i.mono (by omega)⟩
theorem iv_splits {F t : Nat} {σ : Mem} (h : IV t σ) (ht : t ≤ 600) (hF5 : 5000000 ≤ F) (a b : Int32) : IVq (t + 1) (m11_splits F a b σ) (m12_splits F a b) := by
  have hF : 10000 ≤ F := by omega
  obtain ⟨S, hC, hR, wfx, hD⟩ := h
  obtain ⟨r, σ1, σ2, m1, m2, i⟩ := Q_iv wfx hD (splits_q hC hR wfx.1 ht hF a b) (fun r z => f11_splits z) (fun τ r z => f12_splits z) (fun c z => by unfold Wm11_splits at z; omega) (fun c z => by unfold Wm12_splits at z; omega)
  exact ⟨r, σ1, σ2, m1, m2, i.mono (by omega)⟩
theorem iv_order {F t : Nat} {σ : Mem} (h : IV t σ) (ht : t ≤ 600) (hF5 : 5000000 ≤ F) (a b : Int32) : IVq (t + 1) (m11_order F a b σ) (m12_order F a b) := by
  have hF : 10000 ≤ F := by omega
  obtain ⟨S, hC, hR, wfx, hD⟩ := h
  obtain ⟨r, σ1, σ2, m1, m2, i⟩ := Q_iv wfx hD (order_q hC hR wfx.1 ht hF a b) (fun r z => f11_order z) (fun τ r z => f12_order z) (fun c z => by unfold Wm11_order at z; omega) (fun c z => by unfold Wm12_order at z; omega)
  exact ⟨r, σ1, σ2, m1, m2, i.mono (by omega)⟩
theorem iv_note {F t : Nat} {σ : Mem} (h : IV t σ) (ht : t ≤ 600) (hF5 : 5000000 ≤ F) (a b c : Int32) : IVq (t + 1) (m11_note F a b c σ) (m12_note F a b c) := by
  have hF : 10000 ≤ F := by omega
  obtain ⟨S, hC, hR, wfx, hD⟩ := h
  obtain ⟨r, σ1, σ2, m1, m2, i⟩ := A_iv hD (note_q hC hR wfx a b c) (fun r z => f11_note z) (fun τ r z => f12_note z) (fun c z => by unfold Wm11_note at z; omega) (fun c z => by unfold Wm12_note at z; omega)
  exact ⟨r, σ1, σ2, m1, m2, i.mono (by omega)⟩
theorem iv_ruled {F t : Nat} {σ : Mem} (h : IV t σ) (ht : t ≤ 600) (hF5 : 5000000 ≤ F) (a : Int32) : IVq (t + 1) (m11_ruled F a σ) (m12_ruled F a) := by
  have hF : 10000 ≤ F := by omega
  obtain ⟨S, hC, hR, wfx, hD⟩ := h
  obtain ⟨r, σ1, σ2, m1, m2, i⟩ := Q_iv wfx hD (ruled_q hC hR wfx.1 hF a) (fun r z => f11_ruled z) (fun τ r z => f12_ruled z) (fun c z => by unfold Wm11_ruled at z; omega) (fun c z => by unfold Wm12_ruled at z; omega)
  exact ⟨r, σ1, σ2, m1, m2, i.mono (by omega)⟩
theorem iv_look {F t : Nat} {σ : Mem} (h : IV t σ) (ht : t ≤ 600) (hF5 : 5000000 ≤ F) (a b : Int32) : IVq (t + 1) (m11_look F a b σ) (m12_look F a b) := by
  have hF : 10000 ≤ F := by omega
  obtain ⟨S, hC, hR, wfx, hD⟩ := h
  obtain ⟨r, σ1, σ2, m1, m2, i⟩ := Q_iv wfx hD (look_q hC hR wfx.1 hF a b) (fun r z => f11_look z) (fun τ r z => f12_look z) (fun c z => by unfold Wm11_look at z; omega) (fun c z => by unfold Wm12_look at z; omega)
  exact ⟨r, σ1, σ2, m1, m2, i.mono (by omega)⟩
theorem iv_second {F t : Nat} {σ : Mem} (h : IV t σ) (ht : t ≤ 600) (hF5 : 5000000 ≤ F) : IVq (t + 1) (m11_second F σ) (m12_second F) := by
  have hF : 10000 ≤ F := by omega
  obtain ⟨S, hC, hR, wfx, hD⟩ := h
  obtain ⟨r, σ1, σ2, m1, m2, i⟩ := Q_iv wfx hD (second_q hC hR wfx.1 ht hF) (fun r z => f11_second z) (fun τ r z => f12_second z) (fun c z => by unfold Wm11_second at z; omega) (fun c z => by unfold Wm12_second at z; omega)
  exact ⟨r, σ1, σ2, m1, m2, i.mono (by omega)⟩
theorem iv_seed {F t : Nat} {σ : Mem} (h : IV t σ) (ht : t ≤ 600) (hF5 : 5000000 ≤ F) (a : Int32) : IVq (t + 1) (m11_seed F a σ) (m12_seed F a) := by
  have hF : 10000 ≤ F := by omega
  obtain ⟨S, hC, hR, wfx, hD⟩ := h
  obtain ⟨r, σ1, σ2, m1, m2, i⟩ := A_iv hD (seed_q hC hR wfx a) (fun r z => f11_seed z) (fun τ r z => f12_seed z) (fun c z => by unfold Wm11_seed at z; omega) (fun c z => by unfold Wm12_seed at z; omega)
  exact ⟨r, σ1, σ2, m1, m2, i.mono (by omega)⟩
theorem iv_days {F t : Nat} {σ : Mem} (h : IV t σ) (ht : t ≤ 600) (hF5 : 5000000 ≤ F) (a b c d : Int32) : IVq (t + 1) (m11_days F a b c d σ) (m12_days F a b c d) := by
  have hF : 10000 ≤ F := by omega
  obtain ⟨S, hC, hR, wfx, hD⟩ := h
  obtain ⟨r, σ1, σ2, m1, m2, i⟩ := Q_iv wfx hD (days_q hC hR wfx.1 ht hF a b c d) (fun r z => f11_days z) (fun τ r z => f12_days z) (fun c z => by unfold Wm11_days at z; omega) (fun c z => by unfold Wm12_days at z; omega)
  exact ⟨r, σ1, σ2, m1, m2, i.mono (by omega)⟩
theorem iv_image {F t : Nat} {σ : Mem} (h : IV t σ) (ht : t ≤ 600) (hF5 : 5000000 ≤ F) (a : Int32) : IVq (t + 1) (m11_image F a σ) (m12_image F a) := by
  have hF : 10000 ≤ F := by omega
  obtain ⟨S, hC, hR, wfx, hD⟩ := h
  obtain ⟨r, σ1, σ2, m1, m2, i⟩ := A_iv hD (image_q hC hR wfx hF a) (fun r z => f11_image z) (fun τ r z => f12_image z) (fun c z => by unfold Wm11_image at z; omega) (fun c z => by unfold Wm12_image at z; omega)
  exact ⟨r, σ1, σ2, m1, m2, i.mono (by omega)⟩
theorem iv_back {F t : Nat} {σ : Mem} (h : IV t σ) (ht : t ≤ 600) (hF5 : 5000000 ≤ F) (a : Int32) : IVq (t + 1) (m11_back F a σ) (m12_back F a) := by
  have hF : 10000 ≤ F := by omega
  obtain ⟨S, hC, hR, wfx, hD⟩ := h
  obtain ⟨r, σ1, σ2, m1, m2, i⟩ := A_iv hD (back_q hC hR wfx hF a) (fun r z => f11_back z) (fun τ r z => f12_back z) (fun c z => by unfold Wm11_back at z; omega) (fun c z => by unfold Wm12_back at z; omega)
  exact ⟨r, σ1, σ2, m1, m2, i.mono (by omega)⟩
theorem law_loop {F L : Nat} {xs : Nat → Int32} (hF5 : 5000000 ≤ F) (hL : L ≤ 3072) : ∀ (n x t : Nat) (σ : Mem), L + 7 ≤ x + n → x ≤ L → x = 6 * t → IV t σ → ∃ σ', mLaw_18 F L xs n (w32 (x : Int)) σ = some (1, σ') := by
  intro n
  induction n with
  | zero =>
    intro x t σ h1 h2 h3 hI
    omega
  | succ n ih =>
    intro x t σ h1 h2 h3 hI
    have hF : 10000 ≤ F := by omega
    have ht : t ≤ 600 := by omega
    have enL : nI L - (6 : Int32) = w32 ((L : Int) - 6) := by
      show w32 (L : Int) - (6 : Int32) = _
      rw [wl_6, w_sub]
    rw [mLaw_18, enL]
    by_cases hx : (L : Int) - 6 < x
    · rw [if_pos (by rw [w_lt (by omega) (by omega) (by omega) (by omega)]; exact hx)]
      exact ⟨σ, rfl⟩
    · rw [if_neg (by rw [w_lt (by omega) (by omega) (by omega) (by omega)]; exact hx), gd_pos (w_inB (by omega) (by omega) (by omega)), w_natk (by omega)]
      have i1 : w32 (x : Int) + (1 : Int32) = w32 ((x + 1 : Nat) : Int) := w_succ x
      have i2 : w32 (x : Int) + (2 : Int32) = w32 ((x + 2 : Nat) : Int) := by rw [wl_2, w_add]; congr 1
      have i3 : w32 (x : Int) + (3 : Int32) = w32 ((x + 3 : Nat) : Int) := by rw [wl_3, w_add]; congr 1
      have i4 : w32 (x : Int) + (4 : Int32) = w32 ((x + 4 : Nat) : Int) := by rw [wl_4, w_add]; congr 1
      have i5 : w32 (x : Int) + (5 : Int32) = w32 ((x + 5 : Nat) : Int) := by rw [wl_5, w_add]; congr 1
      have i6 : w32 (x : Int) + (6 : Int32) = w32 ((x + 6 : Nat) : Int) := by rw [wl_6, w_add]; congr 1
      have g1 : inB (w32 ((x + 1 : Nat) : Int)) L = true := w_inB (by omega) (by omega) (by omega)
      have g2 : inB (w32 ((x + 2 : Nat) : Int)) L = true := w_inB (by omega) (by omega) (by omega)
      have g3 : inB (w32 ((x + 3 : Nat) : Int)) L = true := w_inB (by omega) (by omega) (by omega)
      have g4 : inB (w32 ((x + 4 : Nat) : Int)) L = true := w_inB (by omega) (by omega) (by omega)
      have g5 : inB (w32 ((x + 5 : Nat) : Int)) L = true := w_inB (by omega) (by omega) (by omega)
      have next : ∀ σ2, IV (t + 1) σ2 → ∃ σ', mLaw_18 F L xs n (w32 ((x + 6 : Nat) : Int)) σ2 = some (1, σ') := fun σ2 h => ih (x + 6) (t + 1) σ2 (by omega) (by omega) (by omega) h
      generalize xs x &&& (31 : Int32) = op
      by_cases o0 : op = 0
      · rw [if_pos o0]
        obtain ⟨r, σ1, σ2, m1, m2, hI2⟩ := iv_feed (F := F) hI ht hF5 (xs (w32 ((x + 1 : Nat) : Int)).toNatClampNeg) (xs (w32 ((x + 2 : Nat) : Int)).toNatClampNeg) (xs (w32 ((x + 3 : Nat) : Int)).toNatClampNeg) (xs (w32 ((x + 4 : Nat) : Int)).toNatClampNeg) (xs (w32 ((x + 5 : Nat) : Int)).toNatClampNeg)
        simp only [i1, i2, i3, i4, i5, i6, g1, g2, g3, g4, g5, gd_T, m1, m2, Option.bind_some, if_true]
        exact next σ2 hI2
      rw [if_neg o0]
      by_cases o1 : op = 1
      · rw [if_pos o1]
        obtain ⟨r, σ1, σ2, m1, m2, hI2⟩ := iv_end (F := F) hI ht hF5 (xs (w32 ((x + 1 : Nat) : Int)).toNatClampNeg)
        simp only [i1, i2, i3, i4, i5, i6, g1, g2, g3, g4, g5, gd_T, m1, m2, Option.bind_some, if_true]
        exact next σ2 hI2
      rw [if_neg o1]
      by_cases o2 : op = 2
      · rw [if_pos o2]
        obtain ⟨r, σ1, σ2, m1, m2, hI2⟩ := iv_smithy (F := F) hI ht hF5
        simp only [i1, i2, i3, i4, i5, i6, g1, g2, g3, g4, g5, gd_T, m1, m2, Option.bind_some, if_true]
        exact next σ2 hI2
      rw [if_neg o2]
      by_cases o3 : op = 3
      · rw [if_pos o3]
        obtain ⟨r, σ1, σ2, m1, m2, hI2⟩ := iv_rule (F := F) hI ht hF5
        simp only [i1, i2, i3, i4, i5, i6, g1, g2, g3, g4, g5, gd_T, m1, m2, Option.bind_some, if_true]
        exact next σ2 hI2
      rw [if_neg o3]
      by_cases o4 : op = 4
      · rw [if_pos o4]
        obtain ⟨r, σ1, σ2, m1, m2, hI2⟩ := iv_force (F := F) hI ht hF5 (xs (w32 ((x + 1 : Nat) : Int)).toNatClampNeg)
        simp only [i1, i2, i3, i4, i5, i6, g1, g2, g3, g4, g5, gd_T, m1, m2, Option.bind_some, if_true]
        exact next σ2 hI2
      rw [if_neg o4]
      by_cases o5 : op = 5
      · rw [if_pos o5]
        obtain ⟨S, hC, hR, wfx, hD⟩ := hI
        obtain ⟨r, m1, m2⟩ := smith_q (F := F) hC hR wfx.1 ht hF (xs (w32 ((x + 1 : Nat) : Int)).toNatClampNeg) (xs (w32 ((x + 2 : Nat) : Int)).toNatClampNeg)
        simp only [i1, i2, i6, g1, g2, gd_T, m1, m2, Option.bind_some, if_true]
        exact next σ (IV.mono ⟨S, hC, hR, wfx, hD⟩ (by omega))
      rw [if_neg o5]
      by_cases o6 : op = 6
      · rw [if_pos o6]
        obtain ⟨S, hC, hR, wfx, hD⟩ := hI
        obtain ⟨r, m1, m2⟩ := job_q (F := F) hC hR wfx.1 (xs (w32 ((x + 1 : Nat) : Int)).toNatClampNeg) (xs (w32 ((x + 2 : Nat) : Int)).toNatClampNeg)
        simp only [i1, i2, i6, g1, g2, gd_T, m1, m2, Option.bind_some, if_true]
        exact next σ (IV.mono ⟨S, hC, hR, wfx, hD⟩ (by omega))
      rw [if_neg o6]
      by_cases o7 : op = 7
      · rw [if_pos o7]
        obtain ⟨S, hC, hR, wfx, hD⟩ := hI
        obtain ⟨r, m1, m2⟩ := worn_q (F := F) hC hR wfx.1 (xs (w32 ((x + 1 : Nat) : Int)).toNatClampNeg)
        simp only [i1, i2, i6, g1, g2, gd_T, m1, m2, Option.bind_some, if_true]
        exact next σ (IV.mono ⟨S, hC, hR, wfx, hD⟩ (by omega))
      rw [if_neg o7]
      by_cases o8 : op = 8
      · rw [if_pos o8]
        obtain ⟨r, σ1, σ2, m1, m2, hI2⟩ := iv_moment (F := F) hI ht hF5
        simp only [i1, i2, i3, i4, i5, i6, g1, g2, g3, g4, g5, gd_T, m1, m2, Option.bind_some, if_true]
        exact next σ2 hI2
      rw [if_neg o8]
      by_cases o9 : op = 9
      · rw [if_pos o9]
        obtain ⟨r, σ1, σ2, m1, m2, hI2⟩ := iv_quench (F := F) hI ht hF5 (xs (w32 ((x + 1 : Nat) : Int)).toNatClampNeg)
        simp only [i1, i2, i3, i4, i5, i6, g1, g2, g3, g4, g5, gd_T, m1, m2, Option.bind_some, if_true]
        exact next σ2 hI2
      rw [if_neg o9]
      by_cases o10 : op = 10
      · rw [if_pos o10]
        obtain ⟨r, σ1, σ2, m1, m2, hI2⟩ := iv_mend (F := F) hI ht hF5 (xs (w32 ((x + 1 : Nat) : Int)).toNatClampNeg)
        simp only [i1, i2, i3, i4, i5, i6, g1, g2, g3, g4, g5, gd_T, m1, m2, Option.bind_some, if_true]
        exact next σ2 hI2
      rw [if_neg o10]
      by_cases o11 : op = 11
      · rw [if_pos o11]
        obtain ⟨r, σ1, σ2, m1, m2, hI2⟩ := iv_aside (F := F) hI ht hF5 (xs (w32 ((x + 1 : Nat) : Int)).toNatClampNeg)
        simp only [i1, i2, i3, i4, i5, i6, g1, g2, g3, g4, g5, gd_T, m1, m2, Option.bind_some, if_true]
        exact next σ2 hI2
      rw [if_neg o11]
      by_cases o12 : op = 12
      · rw [if_pos o12]
        obtain ⟨r, σ1, σ2, m1, m2, hI2⟩ := iv_undo (F := F) hI ht hF5
        simp only [i1, i2, i3, i4, i5, i6, g1, g2, g3, g4, g5, gd_T, m1, m2, Option.bind_some, if_true]
        exact next σ2 hI2
      rw [if_neg o12]
      by_cases o13 : op = 13
      · rw [if_pos o13]
        obtain ⟨r, σ1, σ2, m1, m2, hI2⟩ := iv_ahead (F := F) hI ht hF5 (xs (w32 ((x + 1 : Nat) : Int)).toNatClampNeg) (xs (w32 ((x + 2 : Nat) : Int)).toNatClampNeg) (xs (w32 ((x + 3 : Nat) : Int)).toNatClampNeg)
        simp only [i1, i2, i3, i4, i5, i6, g1, g2, g3, g4, g5, gd_T, m1, m2, Option.bind_some, if_true]
        exact next σ2 hI2
      rw [if_neg o13]
      by_cases o14 : op = 14
      · rw [if_pos o14]
        obtain ⟨r, σ1, σ2, m1, m2, hI2⟩ := iv_ready (F := F) hI ht hF5 (xs (w32 ((x + 1 : Nat) : Int)).toNatClampNeg)
        simp only [i1, i2, i3, i4, i5, i6, g1, g2, g3, g4, g5, gd_T, m1, m2, Option.bind_some, if_true]
        exact next σ2 hI2
      rw [if_neg o14]
      by_cases o15 : op = 15
      · rw [if_pos o15]
        obtain ⟨r, σ1, σ2, m1, m2, hI2⟩ := iv_all (F := F) hI ht hF5
        simp only [i1, i2, i3, i4, i5, i6, g1, g2, g3, g4, g5, gd_T, m1, m2, Option.bind_some, if_true]
        exact next σ2 hI2
      rw [if_neg o15]
      by_cases o16 : op = 16
      · rw [if_pos o16]
        obtain ⟨r, σ1, σ2, m1, m2, hI2⟩ := iv_rota (F := F) hI ht hF5 (xs (w32 ((x + 1 : Nat) : Int)).toNatClampNeg) (xs (w32 ((x + 2 : Nat) : Int)).toNatClampNeg)
        simp only [i1, i2, i3, i4, i5, i6, g1, g2, g3, g4, g5, gd_T, m1, m2, Option.bind_some, if_true]
        exact next σ2 hI2
      rw [if_neg o16]
      by_cases o17 : op = 17
      · rw [if_pos o17]
        obtain ⟨r, σ1, σ2, m1, m2, hI2⟩ := iv_round (F := F) hI ht hF5 (xs (w32 ((x + 1 : Nat) : Int)).toNatClampNeg)
        simp only [i1, i2, i3, i4, i5, i6, g1, g2, g3, g4, g5, gd_T, m1, m2, Option.bind_some, if_true]
        exact next σ2 hI2
      rw [if_neg o17]
      by_cases o18 : op = 18
      · rw [if_pos o18]
        obtain ⟨r, σ1, σ2, m1, m2, hI2⟩ := iv_beside (F := F) hI ht hF5 (xs (w32 ((x + 1 : Nat) : Int)).toNatClampNeg)
        simp only [i1, i2, i3, i4, i5, i6, g1, g2, g3, g4, g5, gd_T, m1, m2, Option.bind_some, if_true]
        exact next σ2 hI2
      rw [if_neg o18]
      by_cases o19 : op = 19
      · rw [if_pos o19]
        obtain ⟨r, σ1, σ2, m1, m2, hI2⟩ := iv_worth (F := F) hI ht hF5 (xs (w32 ((x + 1 : Nat) : Int)).toNatClampNeg) (xs (w32 ((x + 2 : Nat) : Int)).toNatClampNeg)
        simp only [i1, i2, i3, i4, i5, i6, g1, g2, g3, g4, g5, gd_T, m1, m2, Option.bind_some, if_true]
        exact next σ2 hI2
      rw [if_neg o19]
      by_cases o20 : op = 20
      · rw [if_pos o20]
        obtain ⟨r, σ1, σ2, m1, m2, hI2⟩ := iv_splits (F := F) hI ht hF5 (xs (w32 ((x + 1 : Nat) : Int)).toNatClampNeg) (xs (w32 ((x + 2 : Nat) : Int)).toNatClampNeg)
        simp only [i1, i2, i3, i4, i5, i6, g1, g2, g3, g4, g5, gd_T, m1, m2, Option.bind_some, if_true]
        exact next σ2 hI2
      rw [if_neg o20]
      by_cases o21 : op = 21
      · rw [if_pos o21]
        obtain ⟨r, σ1, σ2, m1, m2, hI2⟩ := iv_order (F := F) hI ht hF5 (xs (w32 ((x + 1 : Nat) : Int)).toNatClampNeg) (xs (w32 ((x + 2 : Nat) : Int)).toNatClampNeg)
        simp only [i1, i2, i3, i4, i5, i6, g1, g2, g3, g4, g5, gd_T, m1, m2, Option.bind_some, if_true]
        exact next σ2 hI2
      rw [if_neg o21]
      by_cases o22 : op = 22
      · rw [if_pos o22]
        obtain ⟨r, σ1, σ2, m1, m2, hI2⟩ := iv_note (F := F) hI ht hF5 (xs (w32 ((x + 1 : Nat) : Int)).toNatClampNeg) (xs (w32 ((x + 2 : Nat) : Int)).toNatClampNeg) (xs (w32 ((x + 3 : Nat) : Int)).toNatClampNeg)
        simp only [i1, i2, i3, i4, i5, i6, g1, g2, g3, g4, g5, gd_T, m1, m2, Option.bind_some, if_true]
        exact next σ2 hI2
      rw [if_neg o22]
      by_cases o23 : op = 23
      · rw [if_pos o23]
        obtain ⟨r, σ1, σ2, m1, m2, hI2⟩ := iv_ruled (F := F) hI ht hF5 (xs (w32 ((x + 1 : Nat) : Int)).toNatClampNeg)
        simp only [i1, i2, i3, i4, i5, i6, g1, g2, g3, g4, g5, gd_T, m1, m2, Option.bind_some, if_true]
        exact next σ2 hI2
      rw [if_neg o23]
      by_cases o24 : op = 24
      · rw [if_pos o24]
        obtain ⟨r, σ1, σ2, m1, m2, hI2⟩ := iv_look (F := F) hI ht hF5 (xs (w32 ((x + 1 : Nat) : Int)).toNatClampNeg) (xs (w32 ((x + 2 : Nat) : Int)).toNatClampNeg)
        simp only [i1, i2, i3, i4, i5, i6, g1, g2, g3, g4, g5, gd_T, m1, m2, Option.bind_some, if_true]
        exact next σ2 hI2
      rw [if_neg o24]
      by_cases o25 : op = 25
      · rw [if_pos o25]
        obtain ⟨r, σ1, σ2, m1, m2, hI2⟩ := iv_second (F := F) hI ht hF5
        simp only [i1, i2, i3, i4, i5, i6, g1, g2, g3, g4, g5, gd_T, m1, m2, Option.bind_some, if_true]
        exact next σ2 hI2
      rw [if_neg o25]
      by_cases o26 : op = 26
      · rw [if_pos o26]
        obtain ⟨r, σ1, σ2, m1, m2, hI2⟩ := iv_seed (F := F) hI ht hF5 (xs (w32 ((x + 1 : Nat) : Int)).toNatClampNeg)
        simp only [i1, i2, i3, i4, i5, i6, g1, g2, g3, g4, g5, gd_T, m1, m2, Option.bind_some, if_true]
        exact next σ2 hI2
      rw [if_neg o26]
      by_cases o27 : op = 27
      · rw [if_pos o27]
        obtain ⟨r, σ1, σ2, m1, m2, hI2⟩ := iv_days (F := F) hI ht hF5 (xs (w32 ((x + 1 : Nat) : Int)).toNatClampNeg) (xs (w32 ((x + 2 : Nat) : Int)).toNatClampNeg) (xs (w32 ((x + 3 : Nat) : Int)).toNatClampNeg) (xs (w32 ((x + 4 : Nat) : Int)).toNatClampNeg)
        simp only [i1, i2, i3, i4, i5, i6, g1, g2, g3, g4, g5, gd_T, m1, m2, Option.bind_some, if_true]
        exact next σ2 hI2
      rw [if_neg o27]
      by_cases o28 : op = 28
      · rw [if_pos o28]
        obtain ⟨S, hC, hR, wfx, hD⟩ := hI
        obtain ⟨r, m1, m2⟩ := count_q (F := F) hC hR wfx.1 ht hF (xs (w32 ((x + 1 : Nat) : Int)).toNatClampNeg)
        simp only [i1, i2, i6, g1, g2, gd_T, m1, m2, Option.bind_some, if_true]
        exact next σ (IV.mono ⟨S, hC, hR, wfx, hD⟩ (by omega))
      rw [if_neg o28]
      by_cases o29 : op = 29
      · rw [if_pos o29]
        obtain ⟨r, σ1, σ2, m1, m2, hI2⟩ := iv_image (F := F) hI ht hF5 (xs (w32 ((x + 1 : Nat) : Int)).toNatClampNeg)
        simp only [i1, i2, i3, i4, i5, i6, g1, g2, g3, g4, g5, gd_T, m1, m2, Option.bind_some, if_true]
        exact next σ2 hI2
      rw [if_neg o29]
      by_cases o30 : op = 30
      · rw [if_pos o30]
        obtain ⟨r, σ1, σ2, m1, m2, hI2⟩ := iv_back (F := F) hI ht hF5 (xs (w32 ((x + 1 : Nat) : Int)).toNatClampNeg)
        simp only [i1, i2, i3, i4, i5, i6, g1, g2, g3, g4, g5, gd_T, m1, m2, Option.bind_some, if_true]
        exact next σ2 hI2
      rw [if_neg o30]
      rw [i6]
      exact next σ (hI.mono (by omega))
theorem law_one (F L : Nat) (xs : Nat → Int32) (hF : 5000000 ≤ F) (hL : L ≤ 3072) : ∃ σ' : Mem, mLaw F L xs σ0 = some (1, σ') := by
  unfold mLaw
  exact law_loop hF hL F 0 0 σ0 (by omega) (by omega) rfl ⟨S0, s0_c, s0_r, s0_wf, s0_d⟩
