/-! READING: lines that are read, words of the line, letters of the word -/
abbrev pp_S : Type := Nat × (Nat → pp_L) × pp_L × List Nat
def pp_cur (s : pp_S) : pp_L := if s.2.2.2 = [] then s.2.2.1 else s.2.2.1 ++ [s.2.2.2]
def pp_RdC (τ : yy_T) (s : pp_S) : Prop := τ 4 2 = nI s.1 ∧ (∀ i, i < s.1 → pp_CL τ 4 i (s.2.1 i)) ∧ τ 3 3 = nI (pp_cur s).length ∧ τ 3 4 = nI s.2.2.2.length ∧ ∀ k, k < (pp_cur s).length → τ 6 (8 * s.1 + k) = nI (pp_e5 ((pp_cur s).getD k []))
def pp_wS (s : pp_S) : Prop := s.1 ≤ 14 ∧ (∀ i, i < s.1 → pp_wfL (s.2.1 i)) ∧ (pp_cur s).length ≤ 8 ∧ (∀ v ∈ s.2.2.1, pp_wfW v) ∧ s.2.2.2.length ≤ 6 ∧ (∀ x ∈ s.2.2.2, 1 ≤ x ∧ x ≤ 26) ∧ (s.1 = 14 → s.2.2.1 = [] ∧ s.2.2.2 = [])
def pp_sL (s : pp_S) (x : Nat) : pp_S := (s.1, s.2.1, s.2.2.1, s.2.2.2 ++ [x])
abbrev pp_okL (s : pp_S) : Prop := s.1 < 14 ∧ s.2.2.2.length < 6 ∧ (s.2.2.2 = [] → s.2.2.1.length < 8)
theorem pp_snocD (l : pp_L) (v : List Nat) (k : Nat) : (l ++ [v]).getD k [] = if k = l.length then v else l.getD k [] := by
  rw [List.getD_eq_getElem?_getD, List.getD_eq_getElem?_getD, List.getElem?_append]
  by_cases h : k < l.length
  · rw [if_pos h, if_neg (by omega)]
  · rw [if_neg h]
    by_cases h1 : k = l.length
    · rw [if_pos h1, h1, Nat.sub_self]
      rfl
    · rw [if_neg h1, List.getElem?_eq_none (by simp; omega), List.getElem?_eq_none (by omega)]
theorem pp_curL (s : pp_S) (x : Nat) : pp_cur (pp_sL s x) = s.2.2.1 ++ [s.2.2.2 ++ [x]] := by
  unfold pp_cur pp_sL
  rw [if_neg (by simp)]
theorem pp_cur_len (s : pp_S) : (pp_cur s).length = s.2.2.1.length + (if s.2.2.2 = [] then 0 else 1) := by
  unfold pp_cur
  split
  · rfl
  · simp
theorem pp_or {a x k : Nat} (hk : k ≤ 5) (ha : a < 32 ^ k) (hx : x < 32) : nI a ||| (nI x <<< (nI (5 * k) &&& 31)) = nI (a + x * 32 ^ k) := by
  have e : nI x <<< (nI (5 * k) &&& 31) = nI (x * 2 ^ (5 * k)) := by
    refine pk_shlN _ _ ?_ ?_
    · rcases (show k = 0 ∨ k = 1 ∨ k = 2 ∨ k = 3 ∨ k = 4 ∨ k = 5 by omega) with rfl | rfl | rfl | rfl | rfl | rfl <;> decide
    · rcases (show k = 0 ∨ k = 1 ∨ k = 2 ∨ k = 3 ∨ k = 4 ∨ k = 5 by omega) with rfl | rfl | rfl | rfl | rfl | rfl <;> omega
  have h32 : (32 : Nat) ^ k = 2 ^ (5 * k) := by rw [show (32 : Nat) = 2 ^ 5 by rfl, ← Nat.pow_mul]
  rw [e]
  rw [h32] at ha ⊢
  have hor : a + x * 2 ^ (5 * k) = a ||| x * 2 ^ (5 * k) := by
    rw [Nat.or_comm, Nat.mul_comm, ← Nat.two_pow_add_eq_or_of_lt ha, Nat.add_comm]
  rw [hor]
  apply Int32.toBitVec_inj.mp
  show BitVec.ofNat 32 a ||| BitVec.ofNat 32 _ = BitVec.ofNat 32 _
  apply BitVec.eq_of_toNat_eq
  rw [BitVec.toNat_or, BitVec.toNat_ofNat, BitVec.toNat_ofNat, BitVec.toNat_ofNat, Nat.or_mod_two_pow]
theorem pp_RdC_letter {τ τ1 : yy_T} {s : pp_S} {x : Nat} (h : pp_RdC τ s) (h4 : τ1 4 = τ 4) (h5 : τ1 5 = τ 5) (e3 : τ1 3 3 = nI (s.2.2.1.length + 1)) (e4 : τ1 3 4 = nI (s.2.2.2.length + 1)) (e6 : τ1 6 (8 * s.1 + s.2.2.1.length) = nI (pp_e5 (s.2.2.2 ++ [x]))) (e7 : ∀ k, k < 8 * s.1 + s.2.2.1.length → τ1 6 k = τ 6 k) (hw : ∀ i, i < s.1 → pp_wfL (s.2.1 i)) : pp_RdC τ1 (pp_sL s x) := by
  obtain ⟨h1, h2, h3, h6, h7⟩ := h
  have hl := pp_cur_len s
  refine ⟨by rw [h4]; exact h1, fun i hi => ?_, by rw [pp_curL, e3, List.length_append]; rfl, by rw [e4]; simp [pp_sL], fun k hk => ?_⟩
  · obtain ⟨q1, q2⟩ := h2 i hi
    refine ⟨by rw [show (4 + 1 : Nat) = 5 by rfl, h5]; exact q1, fun k hk => ?_⟩
    have := (hw i hi).2.1
    have hi2 : i < s.1 := hi
    have hk2 : k < (s.2.1 i).length := hk
    rw [show (4 + 2 : Nat) = 6 by rfl, e7 _ (by omega)]
    exact q2 k hk
  · rw [pp_curL] at hk ⊢
    rw [List.length_append] at hk
    have hk2 : k < s.2.2.1.length + 1 := hk
    rw [pp_snocD]
    show τ1 6 (8 * s.1 + k) = _
    by_cases hkl : k = s.2.2.1.length
    · rw [if_pos hkl, hkl]
      exact e6
    · rw [if_neg hkl, e7 _ (by omega), h7 k (by omega)]
      unfold pp_cur
      split
      · rfl
      · rw [pp_snocD, if_neg hkl]
theorem pp_cLetter {τ : yy_T} {s : pp_S} (h : pp_RdC τ s) (hs : pp_wS s) (x : Nat) (hx : 1 ≤ x ∧ x ≤ 26) : tt (mm_X6_readLetter (nI x)) τ (fun r τ1 => (∀ a, a ≠ 3 → a ≠ 6 → τ1 a = τ a) ∧ τ1 3 1 = τ 3 1 ∧ τ1 3 2 = τ 3 2 ∧ ((pp_okL s ∧ r = 0 ∧ pp_RdC τ1 (pp_sL s x)) ∨ (¬ pp_okL s ∧ r = 2))) := by
  have h0 := h
  obtain ⟨h1, h2, h3, h4, h5⟩ := h
  obtain ⟨w1, w2, w3, w4, w5, w6, w7⟩ := hs
  have hl := pp_cur_len s
  by_cases ok : pp_okL s
  · obtain ⟨o1, o2, o3⟩ := ok
    by_cases hw : s.2.2.2 = []
    · have o4 := o3 hw
      rw [if_pos hw] at hl
      have hz : s.2.2.2.length = 0 := by rw [hw]; rfl
      have ho := pp_or (a := 0) (x := x) (k := 0) (by omega) (by decide) (by omega)
      simp only [mm_X6_readLetter, mm_X6_readLetter_75, h1, h3, h4, tt_rF, tt_br, tt_wA, tt_rA, tt_wF, tt_rt, tt_ck, tt_cl, tt_rL, tt_wL, tt_cp, yy_upx, yy_rox, if_true, if_false, reduceIte, Nat.reduceEqDiff, and_true, true_and]
      simp (disch := omega) only [nI_lit, nI_add, nI_mul, nI_neg1, nI_sub, nI_ltI, nI_leI, nI_eq, yy_in_nI, nI_clamp, if_pos, if_neg, if_true, if_false, reduceIte, Nat.reduceEqDiff, Nat.reduceAdd, Nat.reduceMul, and_true, true_and]
      (repeat' (first | apply And.intro | intro _)) <;> (first | omega | trivial | (funext j; simp [yy_upx, *]; done) | skip)
      refine Or.inl ⟨⟨o1, o2, o3⟩, pp_RdC_letter h0 (by funext j; simp [yy_upx]) (by funext j; simp [yy_upx]) (by simp [yy_upx, hl]) (by simp [yy_upx]) ?_ ?_ w2⟩
      · rw [hz]
        have e : s.1 * 8 + ((pp_cur s).length + 1) - 1 = 8 * s.1 + s.2.2.1.length := by omega
        rw [e]
        simp only [yy_upx, reduceIte, Nat.reduceEqDiff]
        rw [hw]
        show nI 0 ||| nI x <<< (nI (5 * 0) &&& 31) = _
        rw [ho]
        simp [pp_e5, pp_eB]
      · intro k hk
        simp only [yy_upx, reduceIte, Nat.reduceEqDiff]
        rw [if_neg (by omega), if_neg (by omega)]
    · rw [if_neg hw] at hl
      have hz : s.2.2.2.length ≠ 0 := fun q => hw (List.length_eq_zero_iff.mp q)
      have hb := pp_eB_lt (B := 32) (by decide) s.2.2.2 (fun y hy => (w6 y hy).2)
      have ho := pp_or (a := pp_e5 s.2.2.2) (x := x) (k := s.2.2.2.length) (by omega) hb (by omega)
      have h6 := h5 s.2.2.1.length (by omega)
      rw [show (pp_cur s).getD s.2.2.1.length [] = s.2.2.2 by unfold pp_cur; rw [if_neg hw, pp_snocD, if_pos rfl]] at h6
      simp only [mm_X6_readLetter, mm_X6_readLetter_75, h1, h3, h4, tt_rF, tt_br, tt_wA, tt_rA, tt_wF, tt_rt, tt_ck, tt_cl, tt_rL, tt_wL, tt_cp, yy_upx, yy_rox, if_true, if_false, reduceIte, Nat.reduceEqDiff, and_true, true_and]
      simp (disch := omega) only [nI_lit, nI_add, nI_mul, nI_neg1, nI_sub, nI_ltI, nI_leI, nI_eq, yy_in_nI, nI_clamp, if_pos, if_neg, if_true, if_false, reduceIte, Nat.reduceEqDiff, Nat.reduceAdd, Nat.reduceMul, and_true, true_and]
      (repeat' (first | apply And.intro | intro _)) <;> (first | omega | trivial | (funext j; simp [yy_upx, *]; done) | skip)
      have e : s.1 * 8 + (pp_cur s).length - 1 = 8 * s.1 + s.2.2.1.length := by omega
      rw [e, h6]
      refine Or.inl ⟨⟨o1, o2, o3⟩, pp_RdC_letter h0 (by funext j; simp [yy_upx]) (by funext j; simp [yy_upx]) (by simp [yy_upx, hl, h3]) (by simp [yy_upx]) ?_ ?_ w2⟩
      · simp only [yy_upx, reduceIte, Nat.reduceEqDiff]
        rw [pp_e5_snoc]
        exact ho
      · intro k hk
        simp only [yy_upx, reduceIte, Nat.reduceEqDiff]
        rw [if_neg (by omega)]
  · have no : 14 ≤ s.1 ∨ 6 ≤ s.2.2.2.length ∨ (s.2.2.2.length = 0 ∧ 8 ≤ (pp_cur s).length) := by
      by_cases a1 : s.1 < 14
      · by_cases a2 : s.2.2.2.length < 6
        · by_cases a3 : s.2.2.2 = []
          · refine Or.inr (Or.inr ⟨by rw [a3]; rfl, ?_⟩)
            rw [if_pos a3] at hl
            exact Nat.not_lt.mp fun q => ok ⟨a1, a2, fun _ => by omega⟩
          · exact absurd ⟨a1, a2, fun q => absurd q a3⟩ ok
        · omega
      · omega
    simp only [mm_X6_readLetter, mm_X6_readLetter_75, h1, h3, h4, tt_rF, tt_br, tt_wA, tt_rA, tt_wF, tt_rt, tt_ck, tt_cl, tt_rL, tt_wL, tt_cp, yy_upx, yy_rox, if_true, if_false, reduceIte, Nat.reduceEqDiff, and_true, true_and]
    simp (disch := omega) only [nI_lit, nI_add, nI_mul, nI_neg1, nI_sub, nI_ltI, nI_leI, nI_eq, yy_in_nI, nI_clamp, if_pos, if_neg, if_true, if_false, reduceIte, Nat.reduceEqDiff, Nat.reduceAdd, Nat.reduceMul, and_true, true_and]
    (repeat' (first | apply And.intro | intro _)) <;> (first | omega | trivial | (funext j; simp [yy_upx, *]; done) | skip)
    all_goals first | exact Or.inr ok | exact Or.inr ⟨ok, rfl⟩
/-- a line ends -/
def pp_sC (s : pp_S) : pp_S := (s.1 + 1, fun i => if i = s.1 then pp_cur s else s.2.1 i, [], [])
abbrev pp_okC (s : pp_S) : Prop := s.1 < 14 ∧ pp_cur s ≠ []
/-- the word ends -/
def pp_sK (s : pp_S) : pp_S := (s.1, s.2.1, pp_cur s, [])
theorem pp_curK (s : pp_S) : pp_cur (pp_sK s) = pp_cur s := if_pos rfl
theorem pp_curC (s : pp_S) : pp_cur (pp_sC s) = [] := if_pos rfl
theorem pp_cClose {τ : yy_T} {s : pp_S} (h : pp_RdC τ s) (hs : pp_wS s) : tt mm_X6_closeLine τ (fun r τ1 => (∀ a, a ≠ 3 → a ≠ 4 → a ≠ 5 → τ1 a = τ a) ∧ τ1 3 1 = τ 3 1 ∧ τ1 3 2 = τ 3 2 ∧ ((pp_okC s ∧ r = 0 ∧ pp_RC τ1 4 (s.1 + 1, (pp_sC s).2.1) ∧ (s.2.2.2 = [] → pp_RdC τ1 (pp_sC s))) ∨ (¬ pp_okC s ∧ r = 1))) := by
  obtain ⟨h1, h2, h3, h4, h5⟩ := h
  obtain ⟨w1, w2, w3, w4, w5, w6, w7⟩ := hs
  by_cases ok : pp_okC s
  · obtain ⟨o1, o2⟩ := ok
    have hz : (pp_cur s).length ≠ 0 := fun q => o2 (List.length_eq_zero_iff.mp q)
    simp only [mm_X6_closeLine, h1, h3, h4, tt_rF, tt_br, tt_wA, tt_rA, tt_wF, tt_rt, tt_ck, tt_cl, tt_rL, tt_wL, tt_cp, yy_upx, yy_rox, if_true, if_false, reduceIte, Nat.reduceEqDiff, and_true, true_and]
    simp (disch := omega) only [nI_lit, nI_add, nI_mul, nI_neg1, nI_sub, nI_ltI, nI_leI, nI_eq, yy_in_nI, nI_clamp, if_pos, if_neg, if_true, if_false, reduceIte, Nat.reduceEqDiff, Nat.reduceAdd, Nat.reduceMul, and_true, true_and]
    (repeat' (first | apply And.intro | intro _)) <;> (first | omega | trivial | (funext j; simp [yy_upx, *]; done) | skip)
    refine Or.inl ⟨⟨o1, o2⟩, ?_⟩
    refine (fun (q : pp_RC _ 4 (s.1 + 1, (pp_sC s).2.1)) => ⟨q, fun hk => ⟨q.1, q.2, by rw [pp_curC]; simp [yy_upx], by simp [yy_upx, h4, hk, pp_sC], fun k hk => by rw [pp_curC] at hk; exact absurd hk (Nat.not_lt_zero k)⟩⟩) ⟨by simp [yy_upx], fun i hi => ?_⟩
    have hi2 : i < s.1 + 1 := hi
    by_cases hn : i = s.1
    · subst hn
      refine ⟨by simp [yy_upx, pp_sC], fun k hk => ?_⟩
      simp only [pp_sC, if_true] at hk ⊢
      simp only [yy_upx, reduceIte, Nat.reduceEqDiff, Nat.reduceAdd]
      exact h5 k hk
    · have := h2 i (by omega)
      refine ⟨by simp [yy_upx, pp_sC, hn, this.1], fun k hk => ?_⟩
      simp only [pp_sC, if_neg hn] at hk ⊢
      simp only [yy_upx, reduceIte, Nat.reduceEqDiff, Nat.reduceAdd]
      exact this.2 k hk
  · have no : 14 ≤ s.1 ∨ (pp_cur s).length = 0 := by
      by_cases a1 : s.1 < 14
      · exact Or.inr (by
          by_cases a2 : pp_cur s = []
          · rw [a2]; rfl
          · exact absurd ⟨a1, a2⟩ ok)
      · omega
    simp only [mm_X6_closeLine, h1, h3, h4, tt_rF, tt_br, tt_wA, tt_rA, tt_wF, tt_rt, tt_ck, tt_cl, tt_rL, tt_wL, tt_cp, yy_upx, yy_rox, if_true, if_false, reduceIte, Nat.reduceEqDiff, and_true, true_and]
    simp (disch := omega) only [nI_lit, nI_add, nI_mul, nI_neg1, nI_sub, nI_ltI, nI_leI, nI_eq, yy_in_nI, nI_clamp, if_pos, if_neg, if_true, if_false, reduceIte, Nat.reduceEqDiff, Nat.reduceAdd, Nat.reduceMul, and_true, true_and]
    (repeat' (first | apply And.intro | intro _)) <;> (first | omega | trivial | (funext j; simp [yy_upx, *]; done) | skip)
    all_goals first | exact Or.inr ok | exact Or.inr ⟨ok, rfl⟩
