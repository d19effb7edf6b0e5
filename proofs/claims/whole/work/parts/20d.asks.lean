/-! asking, the reference's side; which line, by any two numbers -/
def pp_ln (x : Int32) (n : Nat) : Prop := ¬ x < 0 ∧ x.toNatClampNeg < n
theorem pp_ln_of {x : Int32} {n : Nat} (h : pp_ln x n) : x = nI x.toNatClampNeg := by
  obtain ⟨j, hj, rfl⟩ := nI_of h.1
  rw [nI_clamp hj]
theorem pp_ln_nI {i n : Nat} (hi : i < 2 ^ 31) : pp_ln (nI i) n ↔ i < n := by
  unfold pp_ln
  rw [nI_clamp hi]
  exact ⟨fun h => h.2, fun h => ⟨nI_pos hi, h⟩⟩
def pp_sel {α : Type} (w : Nat) (o n : α) : α := if w = 0 then o else n
/-- line x2 of edition x1 is there -/
def pp_OK (x1 x2 : Int32) (o n : pp_Ed) : Prop := (x1 = 0 ∧ pp_ln x2 o.1) ∨ (x1 = 1 ∧ pp_ln x2 n.1)
theorem pp_OK_of {x1 x2 : Int32} {o n : pp_Ed} (h : pp_OK x1 x2 o n) : ∃ w i, w < 2 ∧ x1 = nI w ∧ x2 = nI i ∧ i < (pp_sel w o n).1 := by
  rcases h with ⟨rfl, h⟩ | ⟨rfl, h⟩
  · exact ⟨0, _, by omega, rfl, pp_ln_of h, h.2⟩
  · exact ⟨1, _, by omega, rfl, pp_ln_of h, h.2⟩
theorem pp_OK_to {w i : Nat} {o n : pp_Ed} (hw : w < 2) (hi : i < (pp_sel w o n).1) (h31 : i < 2 ^ 31) : pp_OK (nI w) (nI i) o n := by
  rcases (show w = 0 ∨ w = 1 by omega) with rfl | rfl
  · exact Or.inl ⟨rfl, (pp_ln_nI h31).mpr hi⟩
  · exact Or.inr ⟨rfl, (pp_ln_nI h31).mpr hi⟩
theorem pp_hasx {τ : yy_T} {c : Nat} {e : pp_Ed} (h : pp_RC τ c e) (he : e.1 ≤ 14) (x : Int32) : (pp_ln x e.1 ∧ mm_X2_has c x τ = some (1, τ)) ∨ (¬ pp_ln x e.1 ∧ mm_X2_has c x τ = some (0, τ)) := by
  by_cases hx : x < 0
  · exact Or.inr ⟨fun q => q.1 hx, pp_hasn hx⟩
  · obtain ⟨j, hj, rfl⟩ := nI_of hx
    rw [pp_ln_nI hj, pp_has h he j hj]
    by_cases hl : j < e.1
    · exact Or.inl ⟨hl, by rw [pp_b_t hl]⟩
    · exact Or.inr ⟨hl, by rw [pp_b_f hl]⟩
theorem pp_10 : ¬ ((1 : Int32) = 0) := by decide
theorem pp_hasLine {τ : yy_T} {o n : pp_Ed} (ho : pp_RC τ 7 o) (wo : pp_wfE o) (hn : pp_RC τ 10 n) (wn : pp_wfE n) (x1 x2 : Int32) : (pp_OK x1 x2 o n ∧ mm_X9_hasLine x1 x2 τ = some (1, τ)) ∨ (¬ pp_OK x1 x2 o n ∧ mm_X9_hasLine x1 x2 τ = some (0, τ)) := by
  by_cases h0 : x1 = 0
  · subst h0
    rcases pp_hasx ho wo.1 x2 with ⟨h1, h2⟩ | ⟨h1, h2⟩
    · refine Or.inl ⟨Or.inl ⟨rfl, h1⟩, tt_of ?_⟩
      simp only [mm_X9_hasLine, mm_X9_isEdition, mm_X9_editionOf, tt_rF, tt_br, tt_wA, tt_rA, tt_wF, tt_rt, tt_ck, tt_cl, tt_rL, tt_wL, tt_cp, yy_upx, yy_rox, if_true, if_false, reduceIte, Nat.reduceEqDiff, and_true, true_and, tt_eq h2]
      simp
    · refine Or.inr ⟨fun q => ?_, tt_of ?_⟩
      · rcases q with ⟨-, q⟩ | ⟨q, -⟩
        · exact h1 q
        · exact absurd q.symm pp_10
      simp only [mm_X9_hasLine, mm_X9_isEdition, mm_X9_editionOf, tt_rF, tt_br, tt_wA, tt_rA, tt_wF, tt_rt, tt_ck, tt_cl, tt_rL, tt_wL, tt_cp, yy_upx, yy_rox, if_true, if_false, reduceIte, Nat.reduceEqDiff, and_true, true_and, tt_eq h2]
      simp
  · by_cases h1 : x1 = 1
    · subst h1
      rcases pp_hasx hn wn.1 x2 with ⟨h1, h2⟩ | ⟨h1, h2⟩
      · refine Or.inl ⟨Or.inr ⟨rfl, h1⟩, tt_of ?_⟩
        simp only [mm_X9_hasLine, mm_X9_isEdition, mm_X9_editionOf, tt_rF, tt_br, tt_wA, tt_rA, tt_wF, tt_rt, tt_ck, tt_cl, tt_rL, tt_wL, tt_cp, yy_upx, yy_rox, if_true, if_false, reduceIte, Nat.reduceEqDiff, and_true, true_and, tt_eq h2]
        simp
      · refine Or.inr ⟨fun q => ?_, tt_of ?_⟩
        · rcases q with ⟨q, -⟩ | ⟨-, q⟩
          · exact absurd q pp_10
          · exact h1 q
        simp only [mm_X9_hasLine, mm_X9_isEdition, mm_X9_editionOf, tt_rF, tt_br, tt_wA, tt_rA, tt_wF, tt_rt, tt_ck, tt_cl, tt_rL, tt_wL, tt_cp, yy_upx, yy_rox, if_true, if_false, reduceIte, Nat.reduceEqDiff, and_true, true_and, tt_eq h2]
        simp
    · refine Or.inr ⟨fun q => ?_, tt_of ?_⟩
      · rcases q with ⟨q, -⟩ | ⟨q, -⟩
        · exact h0 q
        · exact h1 q
      simp only [mm_X9_hasLine, mm_X9_isEdition, tt_rF, tt_br, tt_wA, tt_rA, tt_wF, tt_rt, tt_ck, tt_cl, tt_rL, tt_wL, tt_cp, yy_upx, yy_rox, if_true, if_false, reduceIte, Nat.reduceEqDiff, and_true, true_and]
      simp [h0, h1]
theorem pp_editionOf {τ : yy_T} {w : Nat} (hw : w < 2) : mm_X9_editionOf (nI w) τ = some (pp_sel w 7 10, τ) := by
  rcases (show w = 0 ∨ w = 1 by omega) with rfl | rfl
  · rfl
  · rfl
theorem pp_isIn {τ : yy_T} (x a b : Int32) : mm_X10_isIn x a b τ = some (if x < a then 0 else if b < x then 0 else 1, τ) := by
  apply tt_of
  simp only [mm_X10_isIn, tt_rF, tt_br, tt_wA, tt_rA, tt_wF, tt_rt, tt_ck, tt_cl, tt_rL, tt_wL, tt_cp, yy_upx, yy_rox, if_true, if_false, reduceIte, Nat.reduceEqDiff, and_true, true_and]
  refine ⟨fun h => by rw [if_pos h], fun h => ⟨fun h2 => by rw [if_neg h, if_pos h2], fun h2 => by rw [if_neg h, if_neg h2]⟩⟩
theorem pp_many {τ : yy_T} {w : Nat} {e : pp_Ed} (hw : w < 2) (h : pp_RM τ 114 (127 * w) e) : mm_X10_many (nI w) τ = some (nI e.1, τ) := by
  apply tt_of
  simp only [mm_X10_many, tt_rF, tt_br, tt_wA, tt_rA, tt_wF, tt_rt, tt_ck, tt_cl, tt_rL, tt_wL, tt_cp, yy_upx, yy_rox, if_true, if_false, reduceIte, Nat.reduceEqDiff, and_true, true_and, nI_lit, nI_mul]
  rw [nI_clamp (by omega)]
  exact ⟨pp_in (by omega) (by decide), h.1⟩
theorem pp_wordsOf {τ : yy_T} {w i : Nat} {e : pp_Ed} (hw : w < 2) (h : pp_RM τ 114 (127 * w) e) (he : e.1 ≤ 14) (hi : i < e.1) : mm_X10_wordsOf (nI w) (nI i) τ = some (nI (e.2 i).length, τ) := by
  apply tt_of
  simp only [mm_X10_wordsOf, mm_X10_lineAt, tt_rF, tt_br, tt_wA, tt_rA, tt_wF, tt_rt, tt_ck, tt_cl, tt_rL, tt_wL, tt_cp, yy_upx, yy_rox, if_true, if_false, reduceIte, Nat.reduceEqDiff, and_true, true_and, nI_lit, nI_mul, nI_add]
  rw [nI_clamp (by omega)]
  exact ⟨pp_in (by omega) (by decide), (h.2 i hi).1⟩
theorem pp_word {τ : yy_T} {w i k : Nat} {e : pp_Ed} (hw : w < 2) (h : pp_RM τ 114 (127 * w) e) (he : pp_wfE e) (hi : i < e.1) (hk : k < (e.2 i).length) : mm_X10_word (nI w) (nI i) (nI k) τ = some (nI (pp_e27 ((e.2 i).getD k [])), τ) := by
  have h14 := he.1
  have h8 := (he.2 i hi).2.1
  apply tt_of
  simp only [mm_X10_word, mm_X10_lineAt, tt_rF, tt_br, tt_wA, tt_rA, tt_wF, tt_rt, tt_ck, tt_cl, tt_rL, tt_wL, tt_cp, yy_upx, yy_rox, if_true, if_false, reduceIte, Nat.reduceEqDiff, and_true, true_and, nI_lit, nI_mul, nI_add]
  rw [nI_clamp (by omega)]
  exact ⟨pp_in (by omega) (by decide), (h.2 i hi).2 k hk⟩
theorem pp_alike {τ : yy_T} {w v i j : Nat} {e f : pp_Ed} (hw : w < 2) (hv : v < 2) (h : pp_RM τ 114 (127 * w) e) (he : pp_wfE e) (g : pp_RM τ 114 (127 * v) f) (hf : pp_wfE f) (hi : i < e.1) (hj : j < f.1) : mm_X10_areAlike (nI w) (nI i) (nI v) (nI j) τ = some (pp_b (e.2 i = f.2 j), τ) := by
  have h14 := he.1
  have g14 := hf.1
  have hwl := he.2 i hi
  have hvl := hf.2 j hj
  have h8 := hwl.2.1
  have g8 := hvl.2.1
  apply tt_of
  simp only [mm_X10_areAlike, tt_cl, tt_eq (pp_wordsOf hw h he.1 hi), tt_eq (pp_wordsOf hv g hf.1 hj), tt_rF, tt_br, tt_wA, tt_rA, tt_wF, tt_rt, tt_ck, tt_cl, tt_rL, tt_wL, tt_cp, yy_upx, yy_rox, if_true, if_false, reduceIte, Nat.reduceEqDiff, and_true, true_and]
  rw [nI_eq (by omega) (by omega)]
  refine ⟨fun hl => ?_, fun hl => ?_⟩
  · simp only [mm_X10_areAlike_21, mm_X10_areAlike_26, tt_cl]
    have key : ∀ (n k : Nat), 9 - k < n → k ≤ 8 → (∀ q, q < k → q < (e.2 i).length → (e.2 i).getD q [] = (f.2 j).getD q []) → tt (yy_lp (fun (w1 : Int32 × Int32) => mm_X10_areAlike_26b (nI w) (nI i) (nI v) (nI j) w1.1 w1.2) (1, nI k)) τ (fun r τ1 => r = pp_b (e.2 i = f.2 j) ∧ τ1 = τ) := by
      intro n
      induction n with
      | zero => intro k hn; omega
      | succ n ih =>
        intro k hn hk hq
        by_cases h9 : 8 ≤ k
        · have : mm_X10_areAlike_26b (nI w) (nI i) (nI v) (nI j) 1 (nI k) τ = some (.inr 1, τ) := by
            apply tt_of
            simp only [mm_X10_areAlike_26b, tt_rF, tt_br, tt_wA, tt_rA, tt_wF, tt_rt, tt_ck, tt_cl, tt_rL, tt_wL, tt_cp, yy_upx, yy_rox, if_true, if_false, reduceIte, Nat.reduceEqDiff, and_true, true_and]
            exact ⟨fun _ => trivial, fun q => absurd (by rw [nI_lit, nI_leI (by omega) (by omega)]; exact h9) q⟩
          refine ⟨1, τ, by rw [yy_lp_eq, this], ?_, rfl⟩
          exact (pp_b_t (pp_L_ext hl (fun q hq2 => hq q (by omega) hq2))).symm
        · by_cases hkl : k < (e.2 i).length
          · have w1 := hwl.word (k := k) hkl
            have w2 := hvl.word (k := k) (by omega)
            have b1 := pp_e27_lt w1
            have b2 := pp_e27_lt w2
            by_cases hc : (e.2 i).getD k [] = (f.2 j).getD k []
            · have : mm_X10_areAlike_26b (nI w) (nI i) (nI v) (nI j) 1 (nI k) τ = some (.inl (1, nI (k + 1)), τ) := by
                apply tt_of
                simp only [mm_X10_areAlike_26b, mm_X10_areAlike_69, mm_X10_areAlike_74, tt_cl, tt_eq (pp_wordsOf hw h he.1 hi), tt_eq (pp_word hw h he hi hkl), tt_eq (pp_word (k := k) hv g hf hj (by omega)), tt_rF, tt_br, tt_wA, tt_rA, tt_wF, tt_rt, tt_ck, tt_cl, tt_rL, tt_wL, tt_cp, yy_upx, yy_rox, if_true, if_false, reduceIte, Nat.reduceEqDiff, and_true, true_and, hc]
                refine ⟨fun q => absurd q (by rw [nI_lit, nI_leI (by omega) (by omega)]; exact h9), fun _ => ⟨fun q => absurd q pp_10, fun _ => ⟨fun _ => nI_1 k ▸ rfl, fun _ => ⟨fun _ => nI_1 k ▸ rfl, fun q => absurd trivial q⟩⟩⟩⟩
              obtain ⟨r, τ2, z1, z2⟩ := ih (k + 1) (by omega) (by omega) (fun q h1 h2 => by
                by_cases hqk : q = k
                · subst hqk; exact hc
                · exact hq q (by omega) h2)
              exact ⟨r, τ2, by rw [yy_lp_eq, this]; exact z1, z2⟩
            · have hne : ¬ nI (pp_e27 ((e.2 i).getD k [])) = nI (pp_e27 ((f.2 j).getD k [])) := by
                rw [nI_eq (by omega) (by omega)]
                exact fun q => hc (pp_e27_inj w1 w2 q)
              have t1 : mm_X10_areAlike_26b (nI w) (nI i) (nI v) (nI j) 1 (nI k) τ = some (.inl (0, nI (k + 1)), τ) := by
                apply tt_of
                simp only [mm_X10_areAlike_26b, mm_X10_areAlike_69, mm_X10_areAlike_74, tt_cl, tt_eq (pp_wordsOf hw h he.1 hi), tt_eq (pp_word hw h he hi hkl), tt_eq (pp_word (k := k) hv g hf hj (by omega)), tt_rF, tt_br, tt_wA, tt_rA, tt_wF, tt_rt, tt_ck, tt_cl, tt_rL, tt_wL, tt_cp, yy_upx, yy_rox, if_true, if_false, reduceIte, Nat.reduceEqDiff, and_true, true_and]
                refine ⟨fun q => absurd q (by rw [nI_lit, nI_leI (by omega) (by omega)]; exact h9), fun _ => ⟨fun q => absurd q pp_10, fun _ => ⟨fun q => absurd q (by rw [nI_leI (by omega) (by omega)]; omega), fun _ => ⟨fun q => absurd q hne, fun _ => nI_1 k ▸ rfl⟩⟩⟩⟩
              have t2 : mm_X10_areAlike_26b (nI w) (nI i) (nI v) (nI j) 0 (nI (k + 1)) τ = some (.inr 0, τ) := by
                apply tt_of
                simp only [mm_X10_areAlike_26b, tt_rF, tt_br, tt_wA, tt_rA, tt_wF, tt_rt, tt_ck, tt_cl, tt_rL, tt_wL, tt_cp, yy_upx, yy_rox, if_true, if_false, reduceIte, Nat.reduceEqDiff, and_true, true_and]
                exact ⟨fun _ => trivial, fun _ => ⟨fun _ => trivial, fun q => absurd trivial q⟩⟩
              refine ⟨0, τ, by rw [yy_lp_eq, t1]; show yy_lp _ (0, nI (k + 1)) τ = _; rw [yy_lp_eq, t2], ?_, rfl⟩
              exact (pp_b_f (fun q => hc (by rw [q]))).symm
          · have : mm_X10_areAlike_26b (nI w) (nI i) (nI v) (nI j) 1 (nI k) τ = some (.inl (1, nI (k + 1)), τ) := by
              apply tt_of
              simp only [mm_X10_areAlike_26b, mm_X10_areAlike_69, mm_X10_areAlike_74, tt_cl, tt_eq (pp_wordsOf hw h he.1 hi), tt_rF, tt_br, tt_wA, tt_rA, tt_wF, tt_rt, tt_ck, tt_cl, tt_rL, tt_wL, tt_cp, yy_upx, yy_rox, if_true, if_false, reduceIte, Nat.reduceEqDiff, and_true, true_and]
              refine ⟨fun q => absurd q (by rw [nI_lit, nI_leI (by omega) (by omega)]; exact h9), fun _ => ⟨fun q => absurd q pp_10, fun _ => ⟨fun _ => nI_1 k ▸ rfl, fun q => absurd (by rw [nI_leI (by omega) (by omega)]; omega) q⟩⟩⟩
            obtain ⟨r, τ2, z1, z2⟩ := ih (k + 1) (by omega) (by omega) (fun q h1 h2 => hq q (by omega) h2)
            exact ⟨r, τ2, by rw [yy_lp_eq, this]; exact z1, z2⟩
    refine tt_mono (key 10 0 (by omega) (by omega) (fun q hq => by omega)) (fun r τ1 hr => ?_)
    obtain ⟨rfl, rfl⟩ := hr
    simp only [mm_X10_areAlike_82, tt_ck, tt_rt, and_true]
    by_cases hp : e.2 i = f.2 j
    · rw [pp_b_t hp]; exact Or.inr rfl
    · rw [pp_b_f hp]; exact Or.inl rfl
  · simp only [mm_X10_areAlike_21, mm_X10_areAlike_26, tt_cl]
    have t2 : mm_X10_areAlike_26b (nI w) (nI i) (nI v) (nI j) 0 0 τ = some (.inr 0, τ) := by
      apply tt_of
      simp only [mm_X10_areAlike_26b, tt_rF, tt_br, tt_wA, tt_rA, tt_wF, tt_rt, tt_ck, tt_cl, tt_rL, tt_wL, tt_cp, yy_upx, yy_rox, if_true, if_false, reduceIte, Nat.reduceEqDiff, and_true, true_and]
      exact ⟨fun _ => trivial, fun _ => ⟨fun _ => trivial, fun q => absurd trivial q⟩⟩
    refine ⟨0, τ, by rw [yy_lp_eq, t2], ?_⟩
    simp only [mm_X10_areAlike_82, tt_ck, tt_rt, and_true]
    exact ⟨Or.inl trivial, (pp_b_f (fun q => hl (by rw [q]))).symm⟩
