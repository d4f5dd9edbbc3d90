/-! WHAT IS OWED OF THE PURE SIDE -/
theorem law_one (F L : Nat) (xs : Nat → Int32) (hF : 5000000 ≤ F) (hL : L ≤ 3072) : ∃ σ' : Mem, mLaw F L xs σ0 = some (1, σ') := sorry
