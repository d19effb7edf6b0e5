/-! lines moved: the reference -/
def pp_rmk (e : pp_Ed) (fr k : Nat) : pp_Ed := (e.1 - k, fun i => if i < fr then e.2 i else e.2 (i + k))
def pp_isk (e : pp_Ed) (fr n p k : Nat) : pp_Ed := (e.1 - n + k, fun i => if i < p then (pp_rmk e fr n).2 i else if i < p + k then e.2 (fr + i - p) else (pp_rmk e fr n).2 (i - k))
theorem pp_rmk_w {e : pp_Ed} {fr k : Nat} (he : pp_wfE e) (h : fr + k ≤ e.1) : pp_wfE (pp_rmk e fr k) := by
  refine ⟨by have := he.1; show e.1 - k ≤ 14; omega, fun i hi => ?_⟩
  have hi2 : i < e.1 - k := hi
  simp only [pp_rmk]
  split
  · exact he.2 i (by omega)
  · exact he.2 _ (by omega)
theorem pp_isk_w {e : pp_Ed} {fr n p k : Nat} (he : pp_wfE e) (h : fr + n ≤ e.1) (h2 : p + n ≤ e.1) (hk : k ≤ n) : pp_wfE (pp_isk e fr n p k) := by
  have hr := pp_rmk_w (k := n) he h
  refine ⟨by have := he.1; show e.1 - n + k ≤ 14; omega, fun i hi => ?_⟩
  have hi2 : i < e.1 - n + k := hi
  simp only [pp_isk]
  split
  · exact hr.2 i (by show i < e.1 - n; omega)
  · split
    · exact he.2 _ (by omega)
    · exact hr.2 _ (by show i - k < e.1 - n; omega)
theorem pp_mMove {τ : yy_T} {w fr n p : Nat} {e : pp_Ed} (hw : w < 2) (h : pp_RM τ 114 (127 * w) e) (he : pp_wfE e) (h1 : fr + n ≤ e.1) (h2 : p + n ≤ e.1) : tt (mm_X10_move_61 (nI w) (nI fr) (nI n) (nI p) 0 (fun _ => 0)) τ (fun r τ1 => r = 1 ∧ pp_RM τ1 114 (127 * w) (pp_arr e fr n p) ∧ pp_out w τ τ1) := by
  have e14 := he.1
  simp only [mm_X10_move_61, tt_cl]
  refine tt_lp (fun s τ1 => τ1 = τ ∧ ∃ k, k ≤ 9 * n ∧ s.1 = nI k ∧ ∀ j, j < k → s.2 j = τ 114 (127 * w + 1 + 9 * fr + j)) (fun s _ => 9 * n - s.1.toNatClampNeg) (fun s τ1 hI => ?_) (0, fun _ => 0) τ ⟨rfl, 0, Nat.zero_le _, rfl, fun j hj => absurd hj (Nat.not_lt_zero j)⟩
  obtain ⟨rfl, k, k1, k2, k3⟩ := hI
  obtain ⟨x, g⟩ := s
  simp only at k2 k3
  subst k2
  simp only [mm_X10_move_61b, mm_X10_lineAt, tt_cl, tt_br, tt_rt, tt_rA, tt_wL]
  simp only [nI_lit, nI_mul, nI_add]
  rw [nI_leI (by omega) (by omega), nI_clamp (by omega), nI_clamp (by omega)]
  refine ⟨fun hle => Or.inr ⟨g, by trivial, ?_⟩, fun hle => ⟨pp_in (by omega) (by decide), pp_in (by omega) (by decide), Or.inl ⟨(nI (k + 1), _), by trivial, ⟨by trivial, k + 1, by omega, by trivial, fun j hj => ?_⟩, ?_⟩⟩⟩
  · -- the lines are laid by
    have hg : ∀ j, j < 9 * n → g j = τ1 114 (127 * w + 1 + 9 * fr + j) := fun j hj => k3 j (by omega)
    simp only [mm_X10_move_94, mm_X10_move_97, tt_cl]
    refine tt_up n (fun m τ2 => pp_RM τ2 114 (127 * w) (pp_rmk e fr m) ∧ pp_out w τ1 τ2) (fun m τ2 hm hI => ?_) 0 τ1 (Nat.zero_le _) ⟨h.cg rfl (fun i hi => by simp [pp_rmk]), fun j _ => rfl, fun a _ => rfl⟩
    obtain ⟨i1, i2⟩ := hI
    simp only [mm_X10_move_97b, tt_cl, tt_br, tt_rt]
    rw [nI_leI (by omega) (by omega)]
    refine ⟨fun hle => Or.inr ⟨(), by trivial, ?_⟩, fun hle => ?_⟩
    · have hmn : m = n := by omega
      subst hmn
      simp only [mm_X10_move_115, mm_X10_move_118, mm_X10_move_184, tt_cl, tt_rt]
      refine tt_up m (fun k τ3 => pp_RM τ3 114 (127 * w) (pp_isk e fr m p k) ∧ pp_out w τ1 τ3) (fun k τ3 hk hI => ?_) 0 τ2 (Nat.zero_le _) ⟨i1.cg (by simp [pp_isk, pp_rmk]) (fun i hi => by simp only [pp_isk]; split; rfl; split; omega; rfl), i2⟩
      obtain ⟨j1, j2⟩ := hI
      have wk := pp_isk_w (k := k) he h1 h2 hk
      have wk1 : (pp_isk e fr m p k).1 = e.1 - m + k := rfl
      simp only [mm_X10_move_118b, tt_cl, tt_br, tt_rt]
      rw [nI_leI (by omega) (by omega), nI_add]
      refine ⟨fun hle => Or.inr ⟨(), by trivial, by trivial, ?_, j2⟩, fun hle => ?_⟩
      · have hkm : k = m := by omega
        subst hkm
        refine j1.cg (by show e.1 - k + k = e.1; omega) (fun i hi => ?_)
        have hi2 : i < e.1 - k + k := hi
        simp only [pp_isk, pp_arr, pp_rmk, pp_src]
        by_cases c1 : i < p
        · rw [if_pos c1, if_neg (show ¬ (p ≤ i ∧ i < p + k) by omega), if_pos c1]
          split <;> rfl
        · rw [if_neg c1]
          by_cases c2 : i < p + k
          · rw [if_pos c2, if_pos (show p ≤ i ∧ i < p + k by omega)]
          · rw [if_neg c2, if_neg (show ¬ (p ≤ i ∧ i < p + k) by omega), if_neg c1]
            split <;> rfl
      · refine tt_mono (pp_opens (p := p + k) hw j1 wk (by omega) (by omega)) (fun _ τ4 q => ?_)
        obtain ⟨q1, q2, q3, q4⟩ := q
        simp only [mm_X10_move_137, mm_X10_move_178, tt_cl, tt_rt]
        refine tt_up 9 (fun z τ5 => (∀ j, j < z → τ5 114 (127 * w + 1 + 9 * (p + k) + j) = τ1 114 (127 * w + 1 + 9 * (fr + k) + j)) ∧ (∀ j, (j < 127 * w + 1 + 9 * (p + k) ∨ 127 * w + 1 + 9 * (p + k) + 9 ≤ j) → τ5 114 j = τ4 114 j) ∧ ∀ a, a ≠ 114 → τ5 a = τ4 a) (fun z τ5 hz hI => ?_) 0 τ4 (Nat.zero_le _) ⟨fun j hj => absurd hj (Nat.not_lt_zero j), fun j _ => rfl, fun a _ => rfl⟩
        obtain ⟨z1, z2, z3⟩ := hI
        simp only [mm_X10_move_137b, mm_X10_lineAt, tt_cl, tt_br, tt_rt, tt_rL, tt_wA]
        simp only [nI_lit, nI_mul, nI_add]
        rw [nI_leI (by omega) (by omega), nI_clamp (by omega), nI_clamp (by omega)]
        refine ⟨fun hle => Or.inr ⟨(), by trivial, Or.inl ⟨by omega, by trivial, ⟨?_, fun i hi => ?_⟩, fun j hj => ?_, fun a a1 => by rw [z3 a a1, q4.2 a a1, j2.2 a a1]⟩⟩, fun hle => ⟨pp_in (by omega) (by decide), pp_in (by omega) (by decide), Or.inl ⟨by omega, by trivial, fun j hj => ?_, fun j hj => ?_, fun a a1 => by rw [← z3 a a1]; funext j; simp [yy_upx, a1]⟩⟩⟩
        · rw [z2 _ (by omega), q1]
          rfl
        · have hi2 : i < e.1 - m + (k + 1) := hi
          have ek : (pp_isk e fr m p (k + 1)).2 i = if i < p + k then (pp_isk e fr m p k).2 i else if i = p + k then e.2 (fr + k) else (pp_isk e fr m p k).2 (i - 1) := by
            simp only [pp_isk]
            by_cases c1 : i < p
            · rw [if_pos c1, if_pos (show i < p + k by omega), if_pos c1]
            · rw [if_neg c1]
              by_cases c2 : i < p + k
              · rw [if_pos (show i < p + (k + 1) by omega), if_pos c2, if_neg c1, if_pos c2]
              · by_cases c3 : i = p + k
                · rw [if_pos (show i < p + (k + 1) by omega), if_neg c2, if_pos c3]
                  exact congrArg e.2 (by omega)
                · rw [if_neg (show ¬ i < p + (k + 1) by omega), if_neg c2, if_neg c3, if_neg (show ¬ i - 1 < p by omega), if_neg (show ¬ i - 1 < p + k by omega)]
                  exact congrArg (pp_rmk e fr m).2 (by omega)
          rw [ek]
          by_cases c1 : i < p + k
          · rw [if_pos c1]
            exact (q2 i c1).to (wk.2 i (by omega)).2.1 (fun j hj => z2 _ (by omega))
          · rw [if_neg c1]
            by_cases c2 : i = p + k
            · rw [if_pos c2, c2]
              exact (h.2 (fr + k) (by omega)).to (he.2 (fr + k) (by omega)).2.1 (fun j hj => z1 j (by omega))
            · rw [if_neg c2]
              exact (q3 i (by omega) (by omega)).to (wk.2 (i - 1) (by omega)).2.1 (fun j hj => z2 _ (by omega))
        · rw [z2 _ (by omega), q4.1 j hj, j2.1 j hj]
        · simp only [yy_upx, if_true]
          by_cases e0 : j = z
          · rw [if_pos (by omega), e0, hg _ (by omega)]
            exact congrArg (τ1 114) (by omega)
          · rw [if_neg (by omega)]
            exact z1 j (by omega)
        · simp only [yy_upx, if_true]
          rw [if_neg (by omega)]
          exact z2 j hj
    · have hrw : (pp_rmk e fr m).1 = e.1 - m := rfl
      refine tt_mono (pp_closes (p := fr) hw i1 (pp_rmk_w he (by omega)) (by omega)) (fun _ τ3 q => ?_)
      refine Or.inl ⟨by omega, by rw [nI_1], q.1.cg (by show e.1 - m - 1 = e.1 - (m + 1); omega) (fun i hi => ?_), fun j hj => by rw [q.2.1 j hj, i2.1 j hj], fun a a1 => by rw [q.2.2 a a1, i2.2 a a1]⟩
      simp only [pp_rem, pp_rmk]
      by_cases c1 : i < fr
      · rw [if_pos c1, if_pos c1, if_pos c1]
      · rw [if_neg c1, if_neg c1, if_neg (show ¬ i + 1 < fr by omega)]
        exact congrArg e.2 (by omega)
  · simp only [upd]
    by_cases e0 : j = k
    · rw [if_pos e0, e0]
    · rw [if_neg e0]
      exact k3 j (by omega)
  · rw [nI_clamp (by omega)]
    omega
