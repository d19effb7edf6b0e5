/-! READING, the reference -/
def pp_RdM (τ : yy_T) (s : pp_S) : Prop := τ 115 0 = nI s.1 ∧ (∀ i, i < s.1 → pp_ML τ 115 (1 + 9 * i) (s.2.1 i)) ∧ (s.1 < 14 → pp_ML τ 115 (1 + 9 * s.1) (pp_cur s)) ∧ (∀ m, s.1 < m → m < 14 → τ 115 (1 + 9 * m) = 0) ∧ τ 112 9 = nI s.2.2.2.length
theorem pp_RdM_letter {τ τ1 : yy_T} {s : pp_S} {x : Nat} (h : pp_RdM τ s) (hs : pp_wS s) (hn : s.1 < 14) (e4 : τ1 112 9 = nI (s.2.2.2.length + 1)) (e5 : τ1 115 (1 + 9 * s.1) = nI (s.2.2.1.length + 1)) (e6 : τ1 115 (1 + 9 * s.1 + 1 + s.2.2.1.length) = nI (pp_e27 (s.2.2.2 ++ [x]))) (h8 : s.2.2.1.length < 8) (e7 : ∀ k, k ≠ 1 + 9 * s.1 → k ≠ 1 + 9 * s.1 + 1 + s.2.2.1.length → τ1 115 k = τ 115 k) : pp_RdM τ1 (pp_sL s x) := by
  obtain ⟨h1, h2, h3, h6, h7⟩ := h
  have hl := pp_cur_len s
  refine ⟨by rw [e7 0 (by omega) (by omega)]; exact h1, fun i hi => ?_, fun _ => ⟨?_, fun k hk => ?_⟩, fun m m1 m2 => ?_, by rw [e4]; simp [pp_sL]⟩
  · have hi2 : i < s.1 := hi
    have := (hs.2.1 i hi).2.1
    obtain ⟨q1, q2⟩ := h2 i hi
    refine ⟨by rw [e7 _ (by omega) (by omega)]; exact q1, fun k hk => ?_⟩
    have hk2 : k < (s.2.1 i).length := hk
    rw [e7 _ (by omega) (by omega)]
    exact q2 k hk
  · rw [pp_curL, List.length_append]
    exact e5
  · rw [pp_curL] at hk ⊢
    rw [List.length_append] at hk
    have hk2 : k < s.2.2.1.length + 1 := hk
    rw [pp_snocD]
    show τ1 115 (1 + 9 * s.1 + 1 + k) = _
    by_cases hkl : k = s.2.2.1.length
    · rw [if_pos hkl, hkl]
      exact e6
    · rw [if_neg hkl, e7 _ (by omega) (by omega), (h3 hn).2 k (by omega)]
      unfold pp_cur
      split
      · rfl
      · rw [pp_snocD, if_neg hkl]
  · have m3 : s.1 < m := m1
    rw [e7 _ (by omega) (by omega)]
    exact h6 m m1 m2
theorem pp_e27_lt2 {w : List Nat} (h : ∀ x ∈ w, 1 ≤ x ∧ x ≤ 26) (hl : w.length < 6) : pp_e27 w < 27 ^ 5 := by
  have h1 := pp_eB_lt (B := 27) (by decide) w.reverse (fun x hx => (h x (List.mem_reverse.mp hx)).2)
  rw [List.length_reverse] at h1
  have h2 : 27 ^ w.length ≤ 27 ^ 5 := Nat.pow_le_pow_right (by decide) (by omega)
  unfold pp_e27
  omega
theorem pp_mLetter {τ : yy_T} {s : pp_S} (h : pp_RdM τ s) (hs : pp_wS s) (b p ln : Nat) (hb : 97 ≤ b ∧ b ≤ 122) (hp : p < 2 ^ 31) (hln : ln = 14 ∨ (ln = 1 ∧ s.1 = 0)) : tt (mm_X10_readLetter (nI b) (nI p) (nI ln)) τ (fun r τ1 => (∀ a, a ≠ 112 → a ≠ 115 → τ1 a = τ a) ∧ (∀ k, k ≠ 7 → k ≠ 8 → k ≠ 9 → τ1 112 k = τ 112 k) ∧ ((pp_okL s ∧ r = 1 ∧ τ1 112 7 = τ 112 7 ∧ pp_RdM τ1 (pp_sL s (b - 96))) ∨ (¬ pp_okL s ∧ r = 0 ∧ τ1 112 7 = nI 2 ∧ τ1 112 8 = nI p))) := by
  have h0 := h
  have hs0 := hs
  obtain ⟨h1, h2, h3, h6, h7⟩ := h
  obtain ⟨w1, w2, w3, w4, w5, w6, w7⟩ := hs
  have hl := pp_cur_len s
  by_cases ok : pp_okL s
  · obtain ⟨o1, o2, o3⟩ := ok
    obtain ⟨h8, h9⟩ := h3 o1
    have hlt := pp_e27_lt2 w6 o2
    by_cases hw : s.2.2.2 = []
    · have o4 := o3 hw
      rw [if_pos hw] at hl
      have hz : s.2.2.2.length = 0 := by rw [hw]; rfl
      simp only [mm_X10_readLetter, mm_X10_readLetter_76, mm_X10_readLetter_42, mm_X10_bad, h1, h7, tt_rF, tt_br, tt_wA, tt_rA, tt_wF, tt_rt, tt_ck, tt_cl, tt_rL, tt_wL, tt_cp, yy_upx, yy_rox, if_true, if_false, reduceIte, Nat.reduceEqDiff, and_true, true_and]
      simp (disch := omega) only [nI_lit, nI_add, nI_mul, nI_neg1, nI_sub, nI_ltI, nI_leI, nI_eq, yy_in_nI, nI_clamp, if_pos, if_neg, if_true, if_false, reduceIte, Nat.reduceEqDiff, Nat.reduceAdd, Nat.reduceMul, and_true, true_and, h1, h8]
      (repeat' (first | apply And.intro | intro _)) <;> (first | omega | trivial | (funext j; simp [yy_upx, *]; done) | ((repeat (first | rw [if_neg (by omega)] | rw [if_pos (by omega)])) <;> (first | rfl | assumption)) | skip)
      refine Or.inl ⟨⟨o1, o2, o3⟩, pp_RdM_letter h0 hs0 o1 (by simp [yy_upx]) ?_ ?_ (by omega) ?_⟩
      · simp only [yy_upx, reduceIte, Nat.reduceEqDiff]
        rw [if_neg (by omega), if_neg (by omega), hl]
      · simp only [yy_upx, reduceIte, Nat.reduceEqDiff]
        rw [if_pos (by omega), hw]
        congr 1
        show _ = pp_e27 [b - 96]
        simp only [pp_e27, pp_eB, List.reverse_singleton]
        omega
      · intro k k1 k2
        simp only [yy_upx, reduceIte, Nat.reduceEqDiff]
        rw [if_neg (by omega), if_neg (by omega), if_neg (by omega)]
    · rw [if_neg hw] at hl
      have hz : s.2.2.2.length ≠ 0 := fun q => hw (List.length_eq_zero_iff.mp q)
      have h10 := h9 s.2.2.1.length (by omega)
      rw [show (pp_cur s).getD s.2.2.1.length [] = s.2.2.2 by unfold pp_cur; rw [if_neg hw, pp_snocD, if_pos rfl]] at h10
      have e10 : 1 + 9 * s.1 + (pp_cur s).length = 1 + 9 * s.1 + 1 + s.2.2.1.length := by omega
      simp only [mm_X10_readLetter, mm_X10_readLetter_76, mm_X10_readLetter_42, mm_X10_bad, h1, h7, tt_rF, tt_br, tt_wA, tt_rA, tt_wF, tt_rt, tt_ck, tt_cl, tt_rL, tt_wL, tt_cp, yy_upx, yy_rox, if_true, if_false, reduceIte, Nat.reduceEqDiff, and_true, true_and]
      simp (disch := omega) only [nI_lit, nI_add, nI_mul, nI_neg1, nI_sub, nI_ltI, nI_leI, nI_eq, yy_in_nI, nI_clamp, if_pos, if_neg, if_true, if_false, reduceIte, Nat.reduceEqDiff, Nat.reduceAdd, Nat.reduceMul, and_true, true_and, h1, h8, e10, h10]
      (repeat' (first | apply And.intro | intro _)) <;> (first | omega | trivial | (funext j; simp [yy_upx, *]; done) | ((repeat (first | rw [if_neg (by omega)] | rw [if_pos (by omega)])) <;> (first | rfl | assumption)) | skip)
      refine Or.inl ⟨⟨o1, o2, o3⟩, pp_RdM_letter h0 hs0 o1 (by simp [yy_upx]) ?_ ?_ (by omega) ?_⟩
      · simp only [yy_upx, reduceIte, Nat.reduceEqDiff]
        rw [if_neg (by omega), h8, hl]
      · simp only [yy_upx, reduceIte, Nat.reduceEqDiff]
        rw [pp_e27_snoc]
        congr 1
        omega
      · intro k k1 k2
        simp only [yy_upx, reduceIte, Nat.reduceEqDiff]
        rw [if_neg (by omega)]
  · have no : (s.1 = 14 ∧ s.2.2.2.length = 0) ∨ (s.1 < 14 ∧ s.2.2.2.length = 6) ∨ (s.1 < 14 ∧ s.2.2.2.length = 0 ∧ (pp_cur s).length = 8) := by
      by_cases a1 : s.1 < 14
      · by_cases a2 : s.2.2.2.length < 6
        · by_cases a3 : s.2.2.2 = []
          · refine Or.inr (Or.inr ⟨a1, by rw [a3]; rfl, ?_⟩)
            rw [if_pos a3] at hl
            have : ¬ s.2.2.1.length < 8 := fun q => ok ⟨a1, a2, fun _ => by omega⟩
            omega
          · exact absurd ⟨a1, a2, fun q => absurd q a3⟩ ok
        · omega
      · have : s.1 = 14 := by omega
        exact Or.inl ⟨this, by rw [(w7 this).2]; rfl⟩
    rcases no with no | no | no
    · simp only [mm_X10_readLetter, mm_X10_readLetter_76, mm_X10_readLetter_42, mm_X10_bad, h1, h7, tt_rF, tt_br, tt_wA, tt_rA, tt_wF, tt_rt, tt_ck, tt_cl, tt_rL, tt_wL, tt_cp, yy_upx, yy_rox, if_true, if_false, reduceIte, Nat.reduceEqDiff, and_true, true_and]
      simp (disch := omega) only [nI_lit, nI_add, nI_mul, nI_neg1, nI_sub, nI_ltI, nI_leI, nI_eq, yy_in_nI, nI_clamp, if_pos, if_neg, if_true, if_false, reduceIte, Nat.reduceEqDiff, Nat.reduceAdd, Nat.reduceMul, and_true, true_and, h1]
      (repeat' (first | apply And.intro | intro _)) <;> (first | omega | trivial | (funext j; simp [yy_upx, *]; done) | ((repeat (first | rw [if_neg (by omega)] | rw [if_pos (by omega)])) <;> (first | rfl | assumption)) | skip)
      all_goals exact Or.inr ok
    · have h8 := (h3 no.1).1
      simp only [mm_X10_readLetter, mm_X10_readLetter_76, mm_X10_readLetter_42, mm_X10_bad, h1, h7, tt_rF, tt_br, tt_wA, tt_rA, tt_wF, tt_rt, tt_ck, tt_cl, tt_rL, tt_wL, tt_cp, yy_upx, yy_rox, if_true, if_false, reduceIte, Nat.reduceEqDiff, and_true, true_and]
      simp (disch := omega) only [nI_lit, nI_add, nI_mul, nI_neg1, nI_sub, nI_ltI, nI_leI, nI_eq, yy_in_nI, nI_clamp, if_pos, if_neg, if_true, if_false, reduceIte, Nat.reduceEqDiff, Nat.reduceAdd, Nat.reduceMul, and_true, true_and, h1, h8]
      (repeat' (first | apply And.intro | intro _)) <;> (first | omega | trivial | (funext j; simp [yy_upx, *]; done) | ((repeat (first | rw [if_neg (by omega)] | rw [if_pos (by omega)])) <;> (first | rfl | assumption)) | skip)
      all_goals exact Or.inr ok
    · have h8 := (h3 no.1).1
      simp only [mm_X10_readLetter, mm_X10_readLetter_76, mm_X10_readLetter_42, mm_X10_bad, h1, h7, tt_rF, tt_br, tt_wA, tt_rA, tt_wF, tt_rt, tt_ck, tt_cl, tt_rL, tt_wL, tt_cp, yy_upx, yy_rox, if_true, if_false, reduceIte, Nat.reduceEqDiff, and_true, true_and]
      simp (disch := omega) only [nI_lit, nI_add, nI_mul, nI_neg1, nI_sub, nI_ltI, nI_leI, nI_eq, yy_in_nI, nI_clamp, if_pos, if_neg, if_true, if_false, reduceIte, Nat.reduceEqDiff, Nat.reduceAdd, Nat.reduceMul, and_true, true_and, h1, h8]
      (repeat' (first | apply And.intro | intro _)) <;> (first | omega | trivial | (funext j; simp [yy_upx, *]; done) | ((repeat (first | rw [if_neg (by omega)] | rw [if_pos (by omega)])) <;> (first | rfl | assumption)) | skip)
      all_goals exact Or.inr ok
theorem pp_mClose {τ : yy_T} {s : pp_S} (h : pp_RdM τ s) (hs : pp_wS s) (p : Nat) : tt (mm_X10_readEnd (nI p)) τ (fun r τ1 => (∀ a, a ≠ 112 → a ≠ 115 → τ1 a = τ a) ∧ (∀ k, k ≠ 7 → k ≠ 8 → k ≠ 9 → τ1 112 k = τ 112 k) ∧ ((pp_okC s ∧ r = 1 ∧ τ1 112 7 = τ 112 7 ∧ pp_RdM τ1 (pp_sC s)) ∨ (¬ pp_okC s ∧ r = 0 ∧ τ1 112 7 = nI 1 ∧ τ1 112 8 = nI p))) := by
  obtain ⟨h1, h2, h3, h6, h7⟩ := h
  obtain ⟨w1, w2, w3, w4, w5, w6, w7⟩ := hs
  have hl := pp_cur_len s
  by_cases ok : pp_okC s
  · obtain ⟨o1, o2⟩ := ok
    obtain ⟨h8, h9⟩ := h3 o1
    have hz : (pp_cur s).length ≠ 0 := fun q => o2 (List.length_eq_zero_iff.mp q)
    simp only [mm_X10_readEnd, mm_X10_readEnd_35, mm_X10_bad, h1, h7, tt_rF, tt_br, tt_wA, tt_rA, tt_wF, tt_rt, tt_ck, tt_cl, tt_rL, tt_wL, tt_cp, yy_upx, yy_rox, if_true, if_false, reduceIte, Nat.reduceEqDiff, and_true, true_and]
    simp (disch := omega) only [nI_lit, nI_add, nI_mul, nI_neg1, nI_sub, nI_ltI, nI_leI, nI_eq, yy_in_nI, nI_clamp, if_pos, if_neg, if_true, if_false, reduceIte, Nat.reduceEqDiff, Nat.reduceAdd, Nat.reduceMul, and_true, true_and, h1, h8]
    (repeat' (first | apply And.intro | intro _)) <;> (first | omega | trivial | (funext j; simp [yy_upx, *]; done) | ((repeat (first | rw [if_neg (by omega)] | rw [if_pos (by omega)])) <;> (first | rfl | assumption)) | skip)
    refine Or.inl ⟨⟨o1, o2⟩, by simp [yy_upx, pp_sC], fun i hi => ?_, fun hi => ⟨?_, fun k hk => ?_⟩, fun m m1 m2 => ?_, by simp [yy_upx, pp_sC]⟩
    · have hi2 : i < s.1 + 1 := hi
      simp only [pp_sC]
      by_cases hn : i = s.1
      · subst hn
        rw [if_pos rfl]
        refine ⟨?_, fun k hk => ?_⟩
        · simp only [yy_upx, reduceIte, Nat.reduceEqDiff]
          rw [if_neg (by omega)]
          exact h8
        · simp only [yy_upx, reduceIte, Nat.reduceEqDiff]
          rw [if_neg (by omega)]
          exact h9 k hk
      · rw [if_neg hn]
        obtain ⟨q1, q2⟩ := h2 i (by omega)
        refine ⟨?_, fun k hk => ?_⟩
        · simp only [yy_upx, reduceIte, Nat.reduceEqDiff]
          rw [if_neg (by omega)]
          exact q1
        · simp only [yy_upx, reduceIte, Nat.reduceEqDiff]
          rw [if_neg (by omega)]
          exact q2 k hk
    · rw [pp_curC]
      simp only [yy_upx, reduceIte, Nat.reduceEqDiff, pp_sC]
      rw [if_neg (by omega)]
      exact h6 (s.1 + 1) (by omega) hi
    · rw [pp_curC] at hk
      exact absurd hk (Nat.not_lt_zero k)
    · have m3 : s.1 + 1 < m := m1
      simp only [yy_upx, reduceIte, Nat.reduceEqDiff]
      rw [if_neg (by omega)]
      exact h6 m (by omega) m2
  · have no : s.1 = 14 ∨ (s.1 < 14 ∧ (pp_cur s).length = 0) := by
      by_cases a1 : s.1 < 14
      · exact Or.inr ⟨a1, by
          by_cases a2 : pp_cur s = []
          · rw [a2]; rfl
          · exact absurd ⟨a1, a2⟩ ok⟩
      · omega
    rcases no with no | no
    · simp only [mm_X10_readEnd, mm_X10_readEnd_35, mm_X10_bad, h1, h7, tt_rF, tt_br, tt_wA, tt_rA, tt_wF, tt_rt, tt_ck, tt_cl, tt_rL, tt_wL, tt_cp, yy_upx, yy_rox, if_true, if_false, reduceIte, Nat.reduceEqDiff, and_true, true_and]
      simp (disch := omega) only [nI_lit, nI_add, nI_mul, nI_neg1, nI_sub, nI_ltI, nI_leI, nI_eq, yy_in_nI, nI_clamp, if_pos, if_neg, if_true, if_false, reduceIte, Nat.reduceEqDiff, Nat.reduceAdd, Nat.reduceMul, and_true, true_and, h1]
      (repeat' (first | apply And.intro | intro _)) <;> (first | omega | trivial | (funext j; simp [yy_upx, *]; done) | ((repeat (first | rw [if_neg (by omega)] | rw [if_pos (by omega)])) <;> (first | rfl | assumption)) | skip)
      all_goals exact Or.inr ok
    · have h8 := (h3 no.1).1
      simp only [mm_X10_readEnd, mm_X10_readEnd_35, mm_X10_bad, h1, h7, tt_rF, tt_br, tt_wA, tt_rA, tt_wF, tt_rt, tt_ck, tt_cl, tt_rL, tt_wL, tt_cp, yy_upx, yy_rox, if_true, if_false, reduceIte, Nat.reduceEqDiff, and_true, true_and]
      simp (disch := omega) only [nI_lit, nI_add, nI_mul, nI_neg1, nI_sub, nI_ltI, nI_leI, nI_eq, yy_in_nI, nI_clamp, if_pos, if_neg, if_true, if_false, reduceIte, Nat.reduceEqDiff, Nat.reduceAdd, Nat.reduceMul, and_true, true_and, h1, h8]
      (repeat' (first | apply And.intro | intro _)) <;> (first | omega | trivial | (funext j; simp [yy_upx, *]; done) | ((repeat (first | rw [if_neg (by omega)] | rw [if_pos (by omega)])) <;> (first | rfl | assumption)) | skip)
      all_goals exact Or.inr ok
theorem pp_isLetter {τ : yy_T} {b : Nat} (hb : b < 2 ^ 31) : mm_X10_isLetter (nI b) τ = some (pp_b (97 ≤ b ∧ b ≤ 122), τ) := by
  apply tt_of
  simp only [mm_X10_isLetter, tt_rF, tt_br, tt_wA, tt_rA, tt_wF, tt_rt, tt_ck, tt_cl, tt_rL, tt_wL, tt_cp, yy_upx, yy_rox, if_true, if_false, reduceIte, Nat.reduceEqDiff, and_true, true_and]
  simp (disch := omega) only [nI_lit, nI_add, nI_mul, nI_neg1, nI_sub, nI_ltI, nI_leI, nI_eq, yy_in_nI, nI_clamp, if_pos, if_neg, if_true, if_false, reduceIte, Nat.reduceEqDiff, Nat.reduceAdd, Nat.reduceMul, and_true, true_and]
  refine ⟨fun q => (pp_b_f (by omega)).symm, fun _ => ⟨fun q => (pp_b_f (by omega)).symm, fun _ => (pp_b_t (by omega)).symm⟩⟩
theorem pp_RdMK {τ : yy_T} {s : pp_S} (h : pp_RdM τ s) : pp_RdM (yy_up τ 112 9 0) (pp_sK s) := by
  obtain ⟨h1, h2, h3, h4, h5⟩ := h
  refine ⟨by simp [yy_upx, pp_sK, h1], fun i hi => ?_, fun hi => ?_, fun m m1 m2 => ?_, by simp [yy_upx, pp_sK]; rfl⟩
  · unfold pp_ML
    simp only [yy_upx, reduceIte, Nat.reduceEqDiff]
    exact h2 i hi
  · unfold pp_ML
    simp only [yy_upx, reduceIte, Nat.reduceEqDiff]
    rw [pp_curK]
    exact h3 hi
  · simp only [yy_upx, reduceIte, Nat.reduceEqDiff]
    exact h4 m m1 m2
/-- behind a byte: on, with another state, or out with a fault -/
def pp_mQ (wh t : Nat) (bt : Nat → Nat) (τ : yy_T) (s : pp_S) (p : Nat) (y : Int32 ⊕ (Unit ⊕ (Int32 ⊕ (Int32 ⊕ (Unit ⊕ Unit))))) (τ1 : yy_T) : Prop := (∀ a, a ≠ 112 → a ≠ 115 → τ1 a = τ a) ∧ (∀ k, k ≠ 7 → k ≠ 8 → k ≠ 9 → τ1 112 k = τ 112 k) ∧ ((∃ s1, pp_sB wh s (bt p) = .inr s1 ∧ y = .inl (nI (p + 1)) ∧ τ1 112 7 = τ 112 7 ∧ pp_RdM τ1 s1) ∨ (∃ f, pp_sB wh s (bt p) = .inl f ∧ f ≤ 2 ∧ ((y = .inr (.inr (.inr (.inl (nI p)))) ∧ f = 1) ∨ ((y = .inr (.inr (.inr (.inr (.inl ())))) ∨ y = .inr (.inr (.inr (.inr (.inr ()))))) ∧ τ1 112 7 = nI f ∧ τ1 112 8 = nI p))))
theorem pp_mByte {τ : yy_T} {t wh p : Nat} {bt : Nat → Nat} {s : pp_S} (h : pp_RdM τ s) (hs : pp_wS s) (hT : τ 113 p = nI (bt p)) (hb : bt p < 256) (hwh : wh < 2) (h0 : wh = 0 → s.1 = 0) (hp : p < t) (ht : t ≤ 640) (hl : p < pp_lim wh) : tt (mm_X10_reads_47b (nI (pp_lim wh)) (nI (1 - wh)) (nI t) (nI p)) τ (pp_mQ wh t bt τ s p) := by
  have hl6 : pp_lim wh ≤ 600 := by unfold pp_lim; split <;> omega
  have hw : nI (1 - wh) = 0 ↔ wh ≠ 0 := by
    rw [show (0 : Int32) = nI 0 by rfl, nI_eq (by omega) (by decide)]
    omega
  have c32 : nI (bt p) = 32 ↔ bt p = 32 := nI_eq (by omega) (by decide)
  have c10 : nI (bt p) = 10 ↔ bt p = 10 := nI_eq (by omega) (by decide)
  have c59 : nI (bt p) = 59 ↔ bt p = 59 := nI_eq (by omega) (by decide)
  have cl : nI p = nI (pp_lim wh) ↔ p = pp_lim wh := nI_eq (by omega) (by omega)
  have ct : nI t ≤ nI p ↔ t ≤ p := nI_leI (by omega) (by omega)
  have hi : yy_in (nI p) 640 = true := pp_in (by omega) (by decide)
  have hc : (nI p).toNatClampNeg = p := nI_clamp (by omega)
  simp only [mm_X10_reads_47b, tt_br, tt_rA, hc, hT, c32, c10, cl, ct, tt_rt]
  refine ⟨fun q => by omega, fun _ => ⟨fun q => by omega, fun _ => ⟨hi, ?_⟩⟩⟩
  have blank : bt p = 32 ∨ bt p = 10 → tt (mm_X10_reads_90 (nI (pp_lim wh)) (nI (1 - wh)) (nI t) (nI p) (nI (bt p))) τ (pp_mQ wh t bt τ s p) := by
    intro hbl
    have hnl : ¬ (97 ≤ bt p ∧ bt p ≤ 122) := by omega
    have e := pp_isLetter (τ := τ) (b := bt p) (by omega)
    rw [pp_b_f hnl] at e
    simp only [mm_X10_reads_90, mm_X10_reads_95, mm_X10_reads_129, mm_X10_reads_160, mm_X10_reads_170, mm_X10_reads_188, tt_cl, tt_eq e, tt_br, tt_wF, tt_rt, c59]
    refine ⟨fun _ => ⟨fun q => absurd q (by decide), fun _ => ⟨fun _ => ⟨fun q => absurd q (by decide), fun _ => ⟨fun q => by omega, fun _ => ?_⟩⟩, fun q => absurd trivial q⟩⟩, fun q => absurd trivial q⟩
    refine ⟨fun a a1 a2 => by funext j; simp [yy_upx, a1], fun k k1 k2 k3 => by simp [yy_upx, k3], Or.inl ⟨pp_sK s, ?_, by rw [nI_1], by simp [yy_upx], pp_RdMK h⟩⟩
    unfold pp_sB
    rw [if_neg hnl, if_pos hbl]
  have other : ¬ (bt p = 32 ∨ bt p = 10) → tt (mm_X10_reads_95 (nI (pp_lim wh)) (nI (1 - wh)) (nI t) (nI p) (nI (bt p)) 0) τ (pp_mQ wh t bt τ s p) := by
    intro hbl
    by_cases hlt : 97 ≤ bt p ∧ bt p ≤ 122
    · have e : ∀ τ, mm_X10_isLetter (nI (bt p)) τ = some (1, τ) := fun τ => by
        rw [pp_isLetter (τ := τ) (b := bt p) (by omega), pp_b_t hlt]
      have on : ∀ ln, (ln = 14 ∨ (ln = 1 ∧ s.1 = 0)) → tt (mm_X10_reads_152 (nI (pp_lim wh)) (nI (1 - wh)) (nI t) (nI p) (nI (bt p)) 0 (nI ln) (nI p) (nI (bt p))) τ (pp_mQ wh t bt τ s p) := by
        intro ln hln
        simp only [mm_X10_reads_152, tt_cl]
        refine tt_mono (pp_mLetter h hs (bt p) p ln hlt (by omega) hln) (fun r τ1 k => ?_)
        obtain ⟨k1, k2, k3⟩ := k
        rcases k3 with ⟨k3, rfl, k5, k6⟩ | ⟨k3, rfl, k5, k6⟩
        · simp only [mm_X10_reads_160, mm_X10_reads_170, mm_X10_reads_188, tt_br, tt_rt, c59]
          refine ⟨fun q => absurd q (by decide), fun _ => ⟨fun _ => ⟨fun q => by omega, fun _ => ⟨k1, k2, Or.inl ⟨_, ?_, by rw [nI_1], k5, k6⟩⟩⟩, fun q => absurd trivial q⟩⟩
          unfold pp_sB
          rw [if_pos hlt, if_pos k3]
        · simp only [tt_br, tt_rt]
          refine ⟨fun _ => ⟨k1, k2, Or.inr ⟨2, ?_, by omega, Or.inr ⟨Or.inl rfl, k5, k6⟩⟩⟩, fun q => absurd trivial q⟩
          unfold pp_sB
          rw [if_pos hlt, if_neg k3]
      simp only [mm_X10_reads_95, mm_X10_reads_129, tt_cl, tt_eq (e τ), tt_br, hw]
      refine ⟨fun q => absurd q (by decide), fun _ => ⟨fun q => absurd q (by decide), fun _ => ⟨fun q => on 14 (Or.inl rfl), fun q => on 1 (Or.inr ⟨rfl, h0 (by omega)⟩)⟩⟩⟩
    · have e : ∀ τ, mm_X10_isLetter (nI (bt p)) τ = some (0, τ) := fun τ => by
        rw [pp_isLetter (τ := τ) (b := bt p) (by omega), pp_b_f hlt]
      have bad : ¬ (bt p = 59 ∧ wh ≠ 0) → pp_mQ wh t bt τ s p (.inr (.inr (.inr (.inl (nI p))))) τ := by
        intro q
        refine ⟨fun a a1 a2 => rfl, fun k k1 k2 k3 => rfl, Or.inr ⟨1, ?_, by omega, Or.inl ⟨rfl, rfl⟩⟩⟩
        unfold pp_sB
        rw [if_neg hlt, if_neg hbl, if_neg q]
      simp only [mm_X10_reads_95, mm_X10_reads_129, mm_X10_reads_160, mm_X10_reads_170, mm_X10_reads_188, tt_cl, tt_eq (e τ), tt_br, tt_rt, hw, c59]
      refine ⟨fun _ => ⟨fun _ => ⟨fun q1 => ⟨fun q2 => ⟨fun _ => ⟨fun _ => ⟨fun _ => ?_, fun q => absurd q2 q⟩, fun q => absurd trivial q⟩, fun q => absurd trivial q⟩, fun q2 => bad (fun z => q2 z.1)⟩, fun q1 => bad (fun z => q1 z.2)⟩, fun q => absurd trivial q⟩, fun q => absurd trivial q⟩
      refine tt_mono (pp_mClose h hs p) (fun r τ1 k => ?_)
      obtain ⟨k1, k2, k3⟩ := k
      rcases k3 with ⟨k3, rfl, k5, k6⟩ | ⟨k3, rfl, k5, k6⟩
      · refine ⟨fun q => absurd q (by decide), fun _ => ⟨k1, k2, Or.inl ⟨_, ?_, by rw [nI_1], k5, k6⟩⟩⟩
        unfold pp_sB
        rw [if_neg hlt, if_neg hbl, if_pos ⟨q2, q1⟩, if_pos k3]
      · refine ⟨fun _ => ⟨k1, k2, Or.inr ⟨1, ?_, by omega, Or.inr ⟨Or.inr rfl, k5, k6⟩⟩⟩, fun q => absurd rfl q⟩
        unfold pp_sB
        rw [if_neg hlt, if_neg hbl, if_pos ⟨q2, q1⟩, if_neg k3]
  exact ⟨fun q => blank (Or.inl q), fun q => ⟨fun q2 => blank (Or.inr q2), fun q2 => other (by omega)⟩⟩
def pp_mE (wh t : Nat) (bt : Nat → Nat) (τ : yy_T) (r : Int32) (τ1 : yy_T) : Prop := (∀ a, a ≠ 112 → a ≠ 115 → τ1 a = τ a) ∧ (∀ k, k ≠ 2 → k ≠ 7 → k ≠ 8 → k ≠ 9 → τ1 112 k = τ 112 k) ∧ τ1 112 2 = 0 ∧ ((∃ f p, pp_res wh t bt = .inl (f, p) ∧ f ≤ 2 ∧ p ≤ 640 ∧ r = 0 ∧ τ1 112 7 = nI f ∧ τ1 112 8 = nI p) ∨ (∃ e, pp_res wh t bt = .inr e ∧ r = 1 ∧ τ1 112 7 = 0 ∧ pp_RM τ1 115 0 e))
theorem pp_mReads {τ : yy_T} {t wh : Nat} {bt : Nat → Nat} (hT : pp_TM τ t bt) (hb : ∀ i, i < t → bt i < 256) (hwh : wh < 2) : tt (mm_X10_reads (nI (pp_lim wh)) (nI (1 - wh))) τ (pp_mE wh t bt τ) := by
  obtain ⟨t1, t2, t3⟩ := hT
  have hl6 : pp_lim wh ≤ 600 ∧ 80 ≤ pp_lim wh := by unfold pp_lim; split <;> omega
  have hw : nI (1 - wh) = 0 ↔ wh ≠ 0 := by
    rw [show (0 : Int32) = nI 0 by rfl, nI_eq (by omega) (by decide)]
    omega
  simp only [mm_X10_reads, mm_X10_reads_23, tt_rF, tt_wF, tt_cl, t2]
  refine tt_up 127 (fun k τ1 => (∀ a, a ≠ 112 → a ≠ 115 → τ1 a = τ a) ∧ (∀ k, k ≠ 2 → k ≠ 7 → k ≠ 8 → k ≠ 9 → τ1 112 k = τ 112 k) ∧ τ1 112 2 = 0 ∧ τ1 112 7 = 0 ∧ τ1 112 9 = 0 ∧ ∀ j, j < k → τ1 115 j = 0) (fun k τ1 hk hI => ?_) 0 _ (Nat.zero_le _) ⟨fun a a1 a2 => by funext j; simp [yy_upx, a1], fun k k1 k2 k3 k4 => by simp [yy_upx, k1, k2, k4], by simp [yy_upx], by simp [yy_upx], by simp [yy_upx], fun j hj => absurd hj (Nat.not_lt_zero j)⟩
  obtain ⟨i1, i2, i3, i4, i5, i6⟩ := hI
  simp only [mm_X10_reads_23b, tt_rF, tt_br, tt_wA, tt_rA, tt_wF, tt_rt, tt_ck, tt_cl, tt_rL, tt_wL, tt_cp, yy_upx, yy_rox, if_true, if_false, reduceIte, Nat.reduceEqDiff, and_true, true_and]
  rw [show (127 : Int32) = nI 127 by rfl, nI_leI (by omega) (by omega)]
  refine ⟨fun hk2 => Or.inr ⟨(), ?_⟩, fun hk2 => ⟨pp_in (by omega) (by decide), Or.inl ⟨by omega, by rw [nI_1], fun a a1 a2 => ?_, fun k k1 k2 k3 k4 => i2 k k1 k2 k3 k4, i3, i4, i5, fun j hj => ?_⟩⟩⟩
  · -- the reading itself
    simp only [mm_X10_reads_44, mm_X10_reads_47, tt_cl]
    have hk7 : k = 127 := by omega
    subst hk7
    have z9 : ∀ i, i < 127 → τ1 115 i = 0 := i6
    refine tt_up t (fun p τ2 => p ≤ pp_lim wh ∧ (∀ a, a ≠ 112 → a ≠ 115 → τ2 a = τ a) ∧ (∀ k, k ≠ 2 → k ≠ 7 → k ≠ 8 → k ≠ 9 → τ2 112 k = τ 112 k) ∧ τ2 112 2 = 0 ∧ τ2 112 7 = 0 ∧ ∃ s, pp_wS s ∧ pp_RdM τ2 s ∧ (wh = 0 → s.1 = 0) ∧ pp_run wh (pp_lim wh) bt t 0 pp_s0 = pp_run wh (pp_lim wh) bt (t - p) p s) (fun p τ2 hp hI => ?_) 0 τ1 (Nat.zero_le _) ⟨Nat.zero_le _, i1, i2, i3, i4, pp_s0, pp_ws0, ⟨z9 0 (by omega), fun i hi => absurd hi (Nat.not_lt_zero i), fun _ => ⟨z9 1 (by omega), fun k hk => absurd hk (Nat.not_lt_zero k)⟩, fun m m1 m2 => z9 _ (by omega), i5⟩, fun _ => rfl, rfl⟩
    obtain ⟨j0, j1, j2, j3, j4, s, s1, s2, s3, s4⟩ := hI
    by_cases hpt : p = t
    · -- the end
      subst hpt
      rw [Nat.sub_self] at s4
      change _ = Sum.inr s at s4
      have ct : nI p ≤ nI p := by rw [nI_leI (by omega) (by omega)]; omega
      simp only [mm_X10_reads_47b, tt_br, tt_rt]
      refine ⟨fun _ => Or.inr ⟨_, rfl, ?_⟩, fun q => absurd ct q⟩
      simp only [Sum.elim, mm_X10_reads_194, tt_br, hw, tt_rA, tt_rt, tt_cl]
      have eR : pp_res wh p bt = pp_end wh p s := by
        unfold pp_res
        rw [s4]
        rfl
      refine ⟨fun hw0 => ⟨by decide, ?_⟩, fun hw0 => ?_⟩
      · obtain ⟨h1, h2, h3, h6, h7⟩ := s2
        have w1 := s1.1
        have w7 := s1.2.2.2.2.2.2
        have e0 : (0 : Int32).toNatClampNeg = 0 := rfl
        rw [e0, h1, show (14 : Int32) = nI 14 by rfl, nI_eq (by omega) (by decide)]
        have hRM : pp_RM τ2 115 0 (s.1, s.2.1) := ⟨h1, h2⟩
        refine ⟨fun h14 => ⟨j1, j2, j3, Or.inr ⟨(s.1, s.2.1), ?_, rfl, j4, hRM⟩⟩, fun h14 => ⟨by decide, ?_⟩⟩
        · rw [eR]
          unfold pp_end
          rw [if_pos hw0, if_pos]
          unfold pp_cur
          rw [if_pos (w7 h14).2]
          exact (w7 h14).1
        · obtain ⟨h8, h9⟩ := h3 (by omega)
          have l8 := s1.2.2.1
          simp only [nI_lit, nI_mul, nI_add]
          rw [nI_clamp (by omega), h8, nI_eq (by omega) (by decide), List.length_eq_zero_iff]
          refine ⟨pp_in (by omega) (by decide), fun hc => ⟨j1, j2, j3, Or.inr ⟨(s.1, s.2.1), ?_, rfl, j4, hRM⟩⟩, fun hc => ?_⟩
          · rw [eR]
            unfold pp_end
            rw [if_pos hw0, if_pos hc]
          · simp only [mm_X10_bad, tt_wF, tt_rt]
            refine ⟨fun _ => ⟨fun a a1 a2 => by rw [← j1 a a1 a2]; funext j; simp [yy_upx, a1], fun k k1 k2 k3 k4 => by rw [← j2 k k1 k2 k3 k4]; simp [yy_upx, k2, k3], by simp [yy_upx, j3], Or.inl ⟨1, p, ?_, by omega, t1, rfl, by simp [yy_upx], by simp [yy_upx]⟩⟩, fun q => absurd rfl q⟩
            rw [eR]
            unfold pp_end
            rw [if_pos hw0, if_neg hc]
      · have hw1 : wh = 0 := by omega
        refine tt_mono (pp_mClose s2 s1 p) (fun r τ3 k => ?_)
        obtain ⟨k1, k2, k3⟩ := k
        simp only [tt_ck, tt_rt]
        have f1 : ∀ a, a ≠ 112 → a ≠ 115 → τ3 a = τ a := fun a a1 a2 => by rw [k1 a a1 a2, j1 a a1 a2]
        have f2 : ∀ k, k ≠ 2 → k ≠ 7 → k ≠ 8 → k ≠ 9 → τ3 112 k = τ 112 k := fun k a1 a2 a3 a4 => by rw [k2 k a2 a3 a4, j2 k a1 a2 a3 a4]
        have f3 : τ3 112 2 = 0 := by rw [k2 2 (by decide) (by decide) (by decide), j3]
        rcases k3 with ⟨k3, rfl, k5, k6⟩ | ⟨k3, rfl, k5, k6⟩
        · refine ⟨Or.inr rfl, f1, f2, f3, Or.inr ⟨(s.1 + 1, (pp_sC s).2.1), ?_, rfl, by rw [k5, j4], ⟨k6.1, k6.2.1⟩⟩⟩
          rw [eR]
          unfold pp_end
          rw [if_neg (by omega), if_pos k3]
        · refine ⟨Or.inl rfl, f1, f2, f3, Or.inl ⟨1, p, ?_, by omega, t1, rfl, k5, k6⟩⟩
          rw [eR]
          unfold pp_end
          rw [if_neg (by omega), if_neg k3]
    · have sx : t - p = (t - p - 1) + 1 := by omega
      rw [sx] at s4
      by_cases hlp : p = pp_lim wh
      · -- too long
        have ct : ¬ nI t ≤ nI p := by rw [nI_leI (by omega) (by omega)]; omega
        simp only [mm_X10_reads_47b, tt_br, tt_rt]
        refine ⟨fun q => absurd q ct, fun _ => ⟨fun _ => Or.inr ⟨_, rfl, ?_⟩, fun q => absurd (by rw [← hlp]) q⟩⟩
        simp only [Sum.elim, mm_X10_reads_59, mm_X10_bad, tt_cl, tt_wF, tt_rt, tt_ck]
        refine ⟨Or.inl trivial, fun a a1 a2 => by rw [← j1 a a1 a2]; funext j; simp [yy_upx, a1], fun k k1 k2 k3 k4 => by rw [← j2 k k1 k2 k3 k4]; simp [yy_upx, k2, k3], by simp [yy_upx, j3], Or.inl ⟨1, p, ?_, by omega, by omega, rfl, by simp [yy_upx]; rfl, by simp [yy_upx]⟩⟩
        unfold pp_res
        rw [s4]
        unfold pp_run
        rw [if_pos (by omega)]
        rfl
      · have hT2 : τ2 113 p = nI (bt p) := by rw [j1 113 (by decide) (by decide)]; exact t3 p (by omega)
        refine tt_mono (pp_mByte (t := t) (wh := wh) (p := p) (bt := bt) s2 s1 hT2 (hb p (by omega)) hwh s3 (by omega) t1 (by omega)) (fun y τ3 k => ?_)
        obtain ⟨k1, k2, k3⟩ := k
        have f1 : ∀ a, a ≠ 112 → a ≠ 115 → τ3 a = τ a := fun a a1 a2 => by rw [k1 a a1 a2, j1 a a1 a2]
        have f2 : ∀ k, k ≠ 2 → k ≠ 7 → k ≠ 8 → k ≠ 9 → τ3 112 k = τ 112 k := fun k a1 a2 a3 a4 => by rw [k2 k a2 a3 a4, j2 k a1 a2 a3 a4]
        have f3 : τ3 112 2 = 0 := by rw [k2 2 (by decide) (by decide) (by decide), j3]
        rcases k3 with ⟨z, z1, rfl, z3, z4⟩ | ⟨f, z1, z2, z3⟩
        · refine Or.inl ⟨by omega, rfl, by omega, f1, f2, f3, by rw [z3, j4], z, pp_sB_w s1 z1, z4, fun q => ?_, ?_⟩
          · subst q
            have : pp_run 0 80 (fun _ => bt p) 1 0 s = .inr z := by
              simp only [pp_run, z1]
              rfl
            rw [pp_run_0 _ _ _ _ this]
            exact s3 rfl
          · rw [s4]
            conv => lhs; unfold pp_run
            rw [if_neg (by omega), z1, show t - (p + 1) = t - p - 1 by omega]
        · have eR : pp_res wh t bt = .inl (f, p) := by
            unfold pp_res
            rw [s4]
            conv => lhs; unfold pp_run
            rw [if_neg (by omega), z1]
            rfl
          rcases z3 with ⟨rfl, rfl⟩ | ⟨hy, z4, z5⟩
          · refine Or.inr ⟨_, rfl, ?_⟩
            simp only [Sum.elim, mm_X10_reads_121, mm_X10_bad, tt_cl, tt_wF, tt_rt, tt_ck]
            refine ⟨Or.inl trivial, fun a a1 a2 => by rw [← f1 a a1 a2]; funext j; simp [yy_upx, a1], fun k k1 k2 k3 k4 => by rw [← f2 k k1 k2 k3 k4]; simp [yy_upx, k2, k3], by simp [yy_upx, f3], Or.inl ⟨1, p, eR, by omega, by omega, rfl, by simp [yy_upx]; rfl, by simp [yy_upx]⟩⟩
          · rcases hy with rfl | rfl
            · refine Or.inr ⟨_, rfl, ?_⟩
              simp only [Sum.elim, mm_X10_reads_158, tt_rt]
              exact ⟨f1, f2, f3, Or.inl ⟨f, p, eR, z2, by omega, rfl, z4, z5⟩⟩
            · refine Or.inr ⟨_, rfl, ?_⟩
              simp only [Sum.elim, mm_X10_reads_186, tt_rt]
              exact ⟨f1, f2, f3, Or.inl ⟨f, p, eR, z2, by omega, rfl, z4, z5⟩⟩
  · rw [← i1 a a1 a2]
    funext j
    simp [yy_upx, a2]
  · rw [nI_clamp (by omega)]
    by_cases hjk : j = k
    · rw [if_pos hjk]
    · rw [if_neg hjk]
      exact i6 j (by omega)
