theorem pp_m1 {n j : Nat} (hn : n < 2 ^ 31) (hj : j < 2 ^ 31) : (nI n - 1 < nI j) ↔ n ≤ j := by
  have e : (nI n - 1 : Int32).toInt = (n : Int) - 1 := by
    rw [Int32.toInt_sub, nI_toInt hn]
    exact Int.bmod_eq_of_le (by show _ ≤ (n : Int) - 1; omega) (by show (n : Int) - 1 < _; omega)
  rw [Int32.lt_iff_toInt_lt, e, nI_toInt hj]
  omega
/-- isIn(x, 0, n - 1) -/
theorem pp_isIn0 {τ : yy_T} {n : Nat} (hn : n < 2 ^ 31) (x : Int32) : (pp_ln x n ∧ mm_X10_isIn x 0 (nI n - 1) τ = some (1, τ)) ∨ (¬ pp_ln x n ∧ mm_X10_isIn x 0 (nI n - 1) τ = some (0, τ)) := by
  rw [pp_isIn]
  by_cases hx : x < 0
  · exact Or.inr ⟨fun q => q.1 hx, by rw [if_pos hx]⟩
  · obtain ⟨j, hj, rfl⟩ := nI_of hx
    rw [pp_ln_nI hj, if_neg hx]
    by_cases hl : j < n
    · exact Or.inl ⟨hl, by rw [if_neg (by rw [pp_m1 hn hj]; omega)]⟩
    · exact Or.inr ⟨hl, by rw [if_pos (by rw [pp_m1 hn hj]; omega)]⟩
theorem pp_isEd {τ : yy_T} (x : Int32) : ((x = 0 ∨ x = 1) ∧ mm_X10_isEdition x τ = some (1, τ)) ∨ (¬ (x = 0 ∨ x = 1) ∧ mm_X10_isEdition x τ = some (0, τ)) := by
  have hI : mm_X10_isIn x 0 1 τ = some (if x < 0 then 0 else if 1 < x then 0 else 1, τ) := pp_isIn x 0 1
  by_cases hx : x < 0
  · refine Or.inr ⟨fun q => ?_, tt_of ?_⟩
    · rcases q with rfl | rfl
      · exact absurd hx (by decide)
      · exact absurd hx (by decide)
    · rw [if_pos hx] at hI
      simp only [mm_X10_isEdition, tt_cl, tt_eq hI, tt_rF, tt_br, tt_wA, tt_rA, tt_wF, tt_rt, tt_ck, tt_cl, tt_rL, tt_wL, tt_cp, yy_upx, yy_rox, if_true, if_false, reduceIte, Nat.reduceEqDiff, and_true, true_and]
      simp
  · rw [if_neg hx] at hI
    obtain ⟨j, hj, rfl⟩ := nI_of hx
    have e0 : (nI j = 0) ↔ j = 0 := nI_eq hj (by decide : 0 < 2 ^ 31)
    have e1 : (nI j = 1) ↔ j = 1 := nI_eq hj (by decide : 1 < 2 ^ 31)
    have e2 : ((1 : Int32) < nI j) ↔ 1 < j := nI_ltI (by decide : 1 < 2 ^ 31) hj
    rw [e0, e1]
    by_cases hl : 1 < j
    · rw [if_pos (e2.mpr hl)] at hI
      refine Or.inr ⟨by omega, tt_of ?_⟩
      simp only [mm_X10_isEdition, tt_cl, tt_eq hI, tt_rF, tt_br, tt_wA, tt_rA, tt_wF, tt_rt, tt_ck, tt_cl, tt_rL, tt_wL, tt_cp, yy_upx, yy_rox, if_true, if_false, reduceIte, Nat.reduceEqDiff, and_true, true_and]
      simp
    · rw [if_neg (fun q => hl (e2.mp q))] at hI
      refine Or.inl ⟨by omega, tt_of ?_⟩
      simp only [mm_X10_isEdition, tt_cl, tt_eq hI, tt_rF, tt_br, tt_wA, tt_rA, tt_wF, tt_rt, tt_ck, tt_cl, tt_rL, tt_wL, tt_cp, yy_upx, yy_rox, if_true, if_false, reduceIte, Nat.reduceEqDiff, and_true, true_and]
      simp
theorem pp_isLine {τ : yy_T} {o n : pp_Ed} (ho : pp_RM τ 114 0 o) (wo : pp_wfE o) (hn : pp_RM τ 114 127 n) (wn : pp_wfE n) (x1 x2 : Int32) : (pp_OK x1 x2 o n ∧ mm_X10_isLine x1 x2 τ = some (1, τ)) ∨ (¬ pp_OK x1 x2 o n ∧ mm_X10_isLine x1 x2 τ = some (0, τ)) := by
  have lo := wo.1
  have ln := wn.1
  rcases pp_isEd (τ := τ) x1 with ⟨h1, h2⟩ | ⟨h1, h2⟩
  · have key : ∀ (w : Nat) (e : pp_Ed), w < 2 → e.1 ≤ 14 → pp_RM τ 114 (127 * w) e → x1 = nI w → (pp_ln x2 e.1 ∧ mm_X10_isLine x1 x2 τ = some (1, τ)) ∨ (¬ pp_ln x2 e.1 ∧ mm_X10_isLine x1 x2 τ = some (0, τ)) := by
      intro w e hw he h3 hx
      subst hx
      rcases pp_isIn0 (τ := τ) (n := e.1) (by omega) x2 with ⟨h4, h5⟩ | ⟨h4, h5⟩
      · refine Or.inl ⟨h4, tt_of ?_⟩
        simp only [mm_X10_isLine, tt_cl, tt_eq h2, tt_eq (pp_many hw h3), tt_eq h5, tt_rF, tt_br, tt_wA, tt_rA, tt_wF, tt_rt, tt_ck, tt_cl, tt_rL, tt_wL, tt_cp, yy_upx, yy_rox, if_true, if_false, reduceIte, Nat.reduceEqDiff, and_true, true_and]
        simp
      · refine Or.inr ⟨h4, tt_of ?_⟩
        simp only [mm_X10_isLine, tt_cl, tt_eq h2, tt_eq (pp_many hw h3), tt_eq h5, tt_rF, tt_br, tt_wA, tt_rA, tt_wF, tt_rt, tt_ck, tt_cl, tt_rL, tt_wL, tt_cp, yy_upx, yy_rox, if_true, if_false, reduceIte, Nat.reduceEqDiff, and_true, true_and]
        simp
    rcases h1 with rfl | rfl
    · rcases key 0 o (by omega) lo ho rfl with ⟨k1, k2⟩ | ⟨k1, k2⟩
      · exact Or.inl ⟨Or.inl ⟨rfl, k1⟩, k2⟩
      · refine Or.inr ⟨fun q => ?_, k2⟩
        rcases q with ⟨-, q⟩ | ⟨q, -⟩
        · exact k1 q
        · exact absurd q.symm pp_10
    · rcases key 1 n (by omega) ln hn rfl with ⟨k1, k2⟩ | ⟨k1, k2⟩
      · exact Or.inl ⟨Or.inr ⟨rfl, k1⟩, k2⟩
      · refine Or.inr ⟨fun q => ?_, k2⟩
        rcases q with ⟨q, -⟩ | ⟨-, q⟩
        · exact absurd q pp_10
        · exact k1 q
  · refine Or.inr ⟨fun q => ?_, tt_of ?_⟩
    · rcases q with ⟨q, -⟩ | ⟨q, -⟩
      · exact h1 (Or.inl q)
      · exact h1 (Or.inr q)
    · simp only [mm_X10_isLine, tt_cl, tt_eq h2, tt_rF, tt_br, tt_wA, tt_rA, tt_wF, tt_rt, tt_ck, tt_cl, tt_rL, tt_wL, tt_cp, yy_upx, yy_rox, if_true, if_false, reduceIte, Nat.reduceEqDiff, and_true, true_and]
      simp
