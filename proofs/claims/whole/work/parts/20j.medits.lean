/-! LINES PUT IN AND TAKEN OUT: the reference -/
theorem pp_RM.cg {τ : yy_T} {c b : Nat} {e f : pp_Ed} (h : pp_RM τ c b e) (h1 : e.1 = f.1) (h2 : ∀ i, i < e.1 → e.2 i = f.2 i) : pp_RM τ c b f := ⟨by rw [← h1]; exact h.1, fun i hi => by rw [← h2 i (by omega)]; exact h.2 i (by omega)⟩
theorem pp_RC.cg {τ : yy_T} {c : Nat} {e f : pp_Ed} (h : pp_RC τ c e) (h1 : e.1 = f.1) (h2 : ∀ i, i < e.1 → e.2 i = f.2 i) : pp_RC τ c f := ⟨by rw [← h1]; exact h.1, fun i hi => by rw [← h2 i (by omega)]; exact h.2 i (by omega)⟩
/-- nine cells of one row -/
theorem pp_ML.to {τ τ1 : yy_T} {c d p q : Nat} {l : pp_L} (h : pp_ML τ c p l) (h8 : l.length ≤ 8) (e : ∀ k, k < 9 → τ1 d (q + k) = τ c (p + k)) : pp_ML τ1 d q l := by
  refine ⟨by have := e 0 (by omega); rw [Nat.add_zero, Nat.add_zero] at this; rw [this]; exact h.1, fun k hk => ?_⟩
  rw [show q + 1 + k = q + (k + 1) by omega, e (k + 1) (by omega), show p + (k + 1) = p + 1 + k by omega]
  exact h.2 k hk
theorem pp_copiesLine {τ : yy_T} {p q : Nat} (hp : p + 9 ≤ 254) (hq : q + 9 ≤ 254) (hpq : p + 9 ≤ q ∨ q + 9 ≤ p) : tt (mm_X10_copiesLine (nI p) (nI q)) τ (fun _ τ1 => (∀ k, k < 9 → τ1 114 (p + k) = τ 114 (q + k)) ∧ (∀ j, (j < p ∨ p + 9 ≤ j) → τ1 114 j = τ 114 j) ∧ ∀ a, a ≠ 114 → τ1 a = τ a) := by
  simp only [mm_X10_copiesLine, mm_X10_copiesLine_2, mm_X10_copiesLine_30, tt_cl, tt_rt]
  refine tt_up 9 (fun n τ1 => (∀ k, k < n → τ1 114 (p + k) = τ 114 (q + k)) ∧ (∀ j, (j < p ∨ p + n ≤ j) → τ1 114 j = τ 114 j) ∧ ∀ a, a ≠ 114 → τ1 a = τ a) (fun n τ1 hn hI => ?_) 0 τ (Nat.zero_le _) ⟨fun k hk => absurd hk (Nat.not_lt_zero k), fun j _ => rfl, fun a _ => rfl⟩
  obtain ⟨i1, i2, i3⟩ := hI
  simp only [mm_X10_copiesLine_2b, tt_br, tt_rt, tt_rA, tt_wA, nI_add]
  rw [show (9 : Int32) = nI 9 by rfl, nI_leI (by omega) (by omega), nI_clamp (by omega), nI_clamp (by omega)]
  refine ⟨fun hle => Or.inr ⟨(), by trivial, fun k hk => i1 k (by omega), fun j hj => i2 j (by omega), i3⟩, fun hle => ⟨pp_in (by omega) (by decide), pp_in (by omega) (by decide), Or.inl ⟨by omega, by rw [nI_1], fun k hk => ?_, fun j hj => ?_, fun a a1 => by rw [← i3 a a1]; funext j; simp [yy_upx, a1]⟩⟩⟩
  · simp only [yy_upx, if_true]
    by_cases e : k = n
    · rw [if_pos (by omega), e, i2 _ (by omega)]
    · rw [if_neg (by omega)]
      exact i1 k (by omega)
  · simp only [yy_upx, if_true]
    rw [if_neg (by omega)]
    exact i2 j (by omega)
theorem pp_laysRead {τ : yy_T} {w i : Nat} (hw : w < 2) (hi : i < 14) : tt (mm_X10_laysRead (nI w) (nI i)) τ (fun _ τ1 => (∀ k, k < 9 → τ1 114 (127 * w + 1 + 9 * i + k) = τ 115 (1 + k)) ∧ (∀ j, (j < 127 * w + 1 + 9 * i ∨ 127 * w + 1 + 9 * i + 9 ≤ j) → τ1 114 j = τ 114 j) ∧ ∀ a, a ≠ 114 → τ1 a = τ a) := by
  simp only [mm_X10_laysRead, mm_X10_laysRead_2, mm_X10_laysRead_34, tt_cl, tt_rt]
  refine tt_up 9 (fun n τ1 => (∀ k, k < n → τ1 114 (127 * w + 1 + 9 * i + k) = τ 115 (1 + k)) ∧ (∀ j, (j < 127 * w + 1 + 9 * i ∨ 127 * w + 1 + 9 * i + n ≤ j) → τ1 114 j = τ 114 j) ∧ ∀ a, a ≠ 114 → τ1 a = τ a) (fun n τ1 hn hI => ?_) 0 τ (Nat.zero_le _) ⟨fun k hk => absurd hk (Nat.not_lt_zero k), fun j _ => rfl, fun a _ => rfl⟩
  obtain ⟨i1, i2, i3⟩ := hI
  simp only [mm_X10_laysRead_2b, mm_X10_lineAt, tt_cl, tt_br, tt_rt, tt_rA, tt_wA]
  simp only [nI_lit, nI_mul, nI_add]
  rw [nI_leI (by omega) (by omega), nI_clamp (by omega), nI_clamp (by omega)]
  refine ⟨fun hle => Or.inr ⟨(), by trivial, fun k hk => i1 k (by omega), fun j hj => i2 j (by omega), i3⟩, fun hle => ⟨pp_in (by omega) (by decide), pp_in (by omega) (by decide), Or.inl ⟨by omega, by trivial, fun k hk => ?_, fun j hj => ?_, fun a a1 => by rw [← i3 a a1]; funext j; simp [yy_upx, a1]⟩⟩⟩
  · simp only [yy_upx, if_true]
    by_cases e : k = n
    · rw [if_pos (by omega), e, i3 115 (by omega)]
    · rw [if_neg (by omega)]
      exact i1 k (by omega)
  · simp only [yy_upx, if_true]
    rw [if_neg (by omega)]
    exact i2 j (by omega)
/-- the other edition's row is left alone -/
theorem pp_RM.row {τ τ1 : yy_T} {c b : Nat} {e : pp_Ed} (h : pp_RM τ c b e) (he : pp_wfE e) (h1 : ∀ j, b ≤ j → j < b + 127 → τ1 c j = τ c j) : pp_RM τ1 c b e := by
  have := he.1
  refine ⟨by rw [h1 b (by omega) (by omega)]; exact h.1, fun i hi => (h.2 i hi).to (he.2 i hi).2.1 (fun k hk => h1 _ (by omega) (by omega))⟩
def pp_out (w : Nat) (τ τ1 : yy_T) : Prop := (∀ j, (j < 127 * w ∨ 127 * w + 127 ≤ j) → τ1 114 j = τ 114 j) ∧ ∀ a, a ≠ 114 → τ1 a = τ a
theorem pp_opens {τ : yy_T} {w p : Nat} {e : pp_Ed} (hw : w < 2) (h : pp_RM τ 114 (127 * w) e) (he : pp_wfE e) (h14 : e.1 < 14) (hp : p ≤ e.1) : tt (mm_X10_opens (nI w) (nI p)) τ (fun _ τ1 => τ1 114 (127 * w) = nI (e.1 + 1) ∧ (∀ i, i < p → pp_ML τ1 114 (127 * w + 1 + 9 * i) (e.2 i)) ∧ (∀ i, p < i → i ≤ e.1 → pp_ML τ1 114 (127 * w + 1 + 9 * i) (e.2 (i - 1))) ∧ pp_out w τ τ1) := by
  simp only [mm_X10_opens, mm_X10_opens_6, tt_cl, tt_eq (pp_many hw h)]
  refine tt_dl p (fun k τ1 => k ≤ e.1 ∧ τ1 114 (127 * w) = nI e.1 ∧ (∀ i, i < k → pp_ML τ1 114 (127 * w + 1 + 9 * i) (e.2 i)) ∧ (∀ i, k < i → i ≤ e.1 → pp_ML τ1 114 (127 * w + 1 + 9 * i) (e.2 (i - 1))) ∧ pp_out w τ τ1) (fun τ1 hI => ?_) (fun k τ1 hk hI => ?_) e.1 τ hp ⟨Nat.le_refl _, h.1, fun i hi => h.2 i hi, fun i i1 i2 => by omega, fun j _ => rfl, fun a _ => rfl⟩
  · obtain ⟨i0, i1, i2, i3, i4⟩ := hI
    simp only [mm_X10_opens_6b, tt_br, tt_rt]
    refine ⟨fun _ => ⟨(), by trivial, ?_⟩, fun q => absurd (by rw [nI_leI (by omega) (by omega)]; omega) q⟩
    simp only [mm_X10_opens_33, tt_rA, tt_wA, tt_rt, nI_lit, nI_mul]
    rw [nI_clamp (by omega), i1, nI_add]
    refine ⟨pp_in (by omega) (by decide), pp_in (by omega) (by decide), by simp [yy_upx], fun i hi => (i2 i hi).to (he.2 i (by omega)).2.1 (fun k hk => ?_), fun i k1 k2 => (i3 i k1 k2).to (he.2 (i - 1) (by omega)).2.1 (fun k hk => ?_), fun j hj => ?_, fun a a1 => ?_⟩
    · simp only [yy_upx, if_true]
      rw [if_neg (by omega)]
    · simp only [yy_upx, if_true]
      rw [if_neg (by omega)]
    · rw [← i4.1 j hj]
      simp only [yy_upx, if_true]
      rw [if_neg (by omega)]
    · rw [← i4.2 a a1]
      funext j
      simp [yy_upx, a1]
  · obtain ⟨i0, i1, i2, i3, i4⟩ := hI
    simp only [mm_X10_opens_6b, mm_X10_lineAt, tt_cl, tt_br, tt_rt]
    rw [nI_leI (by omega) (by omega), nI_pred]
    refine ⟨fun q => by omega, fun _ => ?_⟩
    simp only [nI_lit, nI_mul, nI_add]
    refine tt_mono (pp_copiesLine (by omega) (by omega) (by omega)) (fun _ τ2 q => ?_)
    obtain ⟨q1, q2, q3⟩ := q
    refine Or.inl ⟨by trivial, by omega, by rw [q2 _ (by omega)]; exact i1, fun i hi => (i2 i (by omega)).to (he.2 i (by omega)).2.1 (fun k hk => q2 _ (by omega)), fun i k1 k2 => ?_, fun j hj => by rw [q2 j (by omega), i4.1 j hj], fun a a1 => by rw [q3 a a1, i4.2 a a1]⟩
    by_cases e2 : i = k + 1
    · subst e2
      exact (i2 k (by omega)).to (he.2 k (by omega)).2.1 q1
    · exact (i3 i (by omega) k2).to (he.2 (i - 1) (by omega)).2.1 (fun k hk => q2 _ (by omega))
theorem pp_closes {τ : yy_T} {w p : Nat} {e : pp_Ed} (hw : w < 2) (h : pp_RM τ 114 (127 * w) e) (he : pp_wfE e) (hp : p < e.1) : tt (mm_X10_closes (nI w) (nI p)) τ (fun _ τ1 => pp_RM τ1 114 (127 * w) (pp_rem e p) ∧ pp_out w τ τ1) := by
  have e14 := he.1
  simp only [mm_X10_closes, mm_X10_closes_2, tt_cl]
  refine tt_up (e.1 - 1) (fun k τ1 => p ≤ k ∧ τ1 114 (127 * w) = nI e.1 ∧ (∀ i, i < k → pp_ML τ1 114 (127 * w + 1 + 9 * i) ((pp_rem e p).2 i)) ∧ (∀ i, k < i → i < e.1 → pp_ML τ1 114 (127 * w + 1 + 9 * i) (e.2 i)) ∧ pp_out w τ τ1) (fun k τ1 hk hI => ?_) p τ (by omega) ⟨Nat.le_refl _, h.1, fun i hi => ?_, fun i _ i2 => h.2 i i2, fun j _ => rfl, fun a _ => rfl⟩
  · obtain ⟨i0, i1, i2, i3, i4⟩ := hI
    have hm : mm_X10_many (nI w) τ1 = some (nI e.1, τ1) := by
      apply tt_of
      simp only [mm_X10_many, tt_rA, tt_rt, nI_lit, nI_mul]
      rw [nI_clamp (by omega)]
      exact ⟨pp_in (by omega) (by decide), i1, trivial⟩
    simp only [mm_X10_closes_2b, mm_X10_lineAt, tt_cl, tt_eq hm, tt_br, tt_rt]
    simp only [nI_lit, nI_mul, nI_add]
    rw [nI_leI (by omega) (by omega)]
    refine ⟨fun hle => Or.inr ⟨(), by trivial, ?_⟩, fun hle => ?_⟩
    · simp only [mm_X10_closes_35, tt_rA, tt_wA, tt_rt, nI_lit, nI_mul]
      rw [nI_clamp (by omega), i1, nI_sub (by omega)]
      refine ⟨pp_in (by omega) (by decide), pp_in (by omega) (by decide), ⟨by simp [yy_upx, pp_rem], fun i hi => ?_⟩, fun j hj => ?_, fun a a1 => ?_⟩
      · have hi2 : i < e.1 - 1 := hi
        refine (i2 i (by omega)).to ?_ (fun k hk => ?_)
        · simp only [pp_rem]
          split
          · exact (he.2 i (by omega)).2.1
          · exact (he.2 (i + 1) (by omega)).2.1
        · simp only [yy_upx, if_true]
          rw [if_neg (by omega)]
      · rw [← i4.1 j hj]
        simp only [yy_upx, if_true]
        rw [if_neg (by omega)]
      · rw [← i4.2 a a1]
        funext j
        simp [yy_upx, a1]
    · refine tt_mono (pp_copiesLine (by omega) (by omega) (by omega)) (fun _ τ2 q => ?_)
      obtain ⟨q1, q2, q3⟩ := q
      refine Or.inl ⟨by omega, by trivial, by omega, by rw [q2 _ (by omega)]; exact i1, fun i hi => ?_, fun i k1 k2 => (i3 i (by omega) k2).to (he.2 i k2).2.1 (fun k hk => q2 _ (by omega)), fun j hj => by rw [q2 j (by omega), i4.1 j hj], fun a a1 => by rw [q3 a a1, i4.2 a a1]⟩
      by_cases e2 : i = k
      · have : (pp_rem e p).2 i = e.2 (k + 1) := by
          simp only [pp_rem]
          rw [if_neg (by omega), e2]
        rw [this, e2]
        exact (i3 (k + 1) (by omega) (by omega)).to (he.2 (k + 1) (by omega)).2.1 q1
      · refine (i2 i (by omega)).to ?_ (fun k hk => q2 _ (by omega))
        simp only [pp_rem]
        split
        · exact (he.2 i (by omega)).2.1
        · exact (he.2 (i + 1) (by omega)).2.1
  · simp only [pp_rem]
    rw [if_pos hi]
    exact h.2 i (by omega)
