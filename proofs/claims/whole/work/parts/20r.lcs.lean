/-! THE LONGEST COMMON ROW -/
/-- loops whose state carries more than the counter -/
theorem tt_dnx {S R X : Type} {b : S → yy_M (S ⊕ R)} {Q : R → yy_T → Prop} (f : Nat → X → S) (I : Nat → X → yy_T → Prop) (s0 : ∀ x τ, I 0 x τ → tt (b (f 0 x)) τ (fun y τ1 => ∃ r, y = .inr r ∧ Q r τ1)) (step : ∀ k x τ, I (k + 1) x τ → tt (b (f (k + 1) x)) τ (fun y τ1 => (∃ x1, y = .inl (f k x1) ∧ I k x1 τ1) ∨ ∃ r, y = .inr r ∧ Q r τ1)) : ∀ k x τ0, I k x τ0 → tt (yy_lp b (f k x)) τ0 Q := by
  intro k
  induction k with
  | zero =>
    intro x τ hI
    obtain ⟨y, τ1, hb, r, rfl, hr⟩ := s0 x τ hI
    exact ⟨r, τ1, by rw [yy_lp_eq, hb], hr⟩
  | succ k ih =>
    intro x τ hI
    obtain ⟨y, τ1, hb, hq⟩ := step k x τ hI
    rcases hq with ⟨x1, rfl, hI1⟩ | ⟨r, rfl, hr⟩
    · obtain ⟨r, τ2, h1, h2⟩ := ih x1 τ1 hI1
      exact ⟨r, τ2, by rw [yy_lp_eq, hb]; exact h1, h2⟩
    · exact ⟨r, τ1, by rw [yy_lp_eq, hb], hr⟩
theorem tt_upx {S R X : Type} {b : S → yy_M (S ⊕ R)} {Q : R → yy_T → Prop} (hi : Nat) (f : Nat → X → S) (I : Nat → X → yy_T → Prop) (step : ∀ k x τ, k ≤ hi → I k x τ → tt (b (f k x)) τ (fun y τ1 => (k < hi ∧ ∃ x1, y = .inl (f (k + 1) x1) ∧ I (k + 1) x1 τ1) ∨ ∃ r, y = .inr r ∧ Q r τ1)) : ∀ k x τ0, k ≤ hi → I k x τ0 → tt (yy_lp b (f k x)) τ0 Q := by
  have key : ∀ (n k : Nat) (x : X) (τ : yy_T), hi - k < n → k ≤ hi → I k x τ → tt (yy_lp b (f k x)) τ Q := by
    intro n
    induction n with
    | zero => intro k x τ h; omega
    | succ n ih =>
      intro k x τ hn hk hI
      obtain ⟨y, τ1, hb, hq⟩ := step k x τ hk hI
      rcases hq with ⟨hlt, x1, rfl, hI1⟩ | ⟨r, rfl, hr⟩
      · obtain ⟨r, τ2, h1, h2⟩ := ih (k + 1) x1 τ1 (by omega) (by omega) hI1
        exact ⟨r, τ2, by rw [yy_lp_eq, hb]; exact h1, h2⟩
      · exact ⟨r, τ1, by rw [yy_lp_eq, hb], hr⟩
  exact fun k x τ0 hk h => key (hi - k + 1) k x τ0 (by omega) hk h
def pp_lc (E : Nat → Nat → Bool) (n m i j : Nat) : Nat :=
  if i < n ∧ j < m then max (max (pp_lc E n m (i + 1) j) (pp_lc E n m i (j + 1))) (if E i j = true then pp_lc E n m (i + 1) (j + 1) + 1 else 0) else 0
termination_by (n - i) + (m - j)
decreasing_by all_goals omega
section
variable {E : Nat → Nat → Bool} {n m : Nat}
theorem pp_lc_out {i j : Nat} (h : ¬ (i < n ∧ j < m)) : pp_lc E n m i j = 0 := by
  rw [pp_lc, if_neg h]
theorem pp_lc_in {i j : Nat} (h : i < n ∧ j < m) : pp_lc E n m i j = max (max (pp_lc E n m (i + 1) j) (pp_lc E n m i (j + 1))) (if E i j = true then pp_lc E n m (i + 1) (j + 1) + 1 else 0) := by
  rw [pp_lc, if_pos h]
theorem pp_lc_i {i j : Nat} : pp_lc E n m (i + 1) j ≤ pp_lc E n m i j := by
  by_cases h : i < n ∧ j < m
  · rw [pp_lc_in (i := i) h]
    omega
  · rw [pp_lc_out (i := i + 1) (by omega)]
    omega
theorem pp_lc_j {i j : Nat} : pp_lc E n m i (j + 1) ≤ pp_lc E n m i j := by
  by_cases h : i < n ∧ j < m
  · rw [pp_lc_in (i := i) (j := j) h]
    omega
  · rw [pp_lc_out (i := i) (j := j + 1) (by omega)]
    omega
theorem pp_lc_1 : ∀ (d i j : Nat), (n - i) + (m - j) ≤ d → pp_lc E n m i j ≤ pp_lc E n m (i + 1) j + 1 ∧ pp_lc E n m i j ≤ pp_lc E n m i (j + 1) + 1
  | 0, i, j, h => by
    rw [pp_lc_out (i := i) (j := j) (by omega)]
    omega
  | d + 1, i, j, h => by
    by_cases hin : i < n ∧ j < m
    · have h1 := pp_lc_1 d i (j + 1) (by omega)
      have h2 := pp_lc_1 d (i + 1) j (by omega)
      have a1 := pp_lc_i (E := E) (n := n) (m := m) (i := i) (j := j + 1)
      have a2 := pp_lc_j (E := E) (n := n) (m := m) (i := i + 1) (j := j)
      rw [pp_lc_in hin]
      split <;> omega
    · rw [pp_lc_out hin]
      omega
theorem pp_lc_E {i j : Nat} (h : i < n ∧ j < m) (hE : E i j = true) : pp_lc E n m i j = pp_lc E n m (i + 1) (j + 1) + 1 := by
  have h1 := (pp_lc_1 (E := E) (n := n) (m := m) _ i (j + 1) (Nat.le_refl _)).1
  have h2 := (pp_lc_1 (E := E) (n := n) (m := m) _ (i + 1) j (Nat.le_refl _)).2
  rw [pp_lc_in h, if_pos hE]
  omega
theorem pp_lc_N {i j : Nat} (h : i < n ∧ j < m) (hE : ¬ E i j = true) : pp_lc E n m i j = max (pp_lc E n m (i + 1) j) (pp_lc E n m i (j + 1)) := by
  rw [pp_lc_in h, if_neg hE]
  omega
theorem pp_lc_le : ∀ (d i j : Nat), (n - i) + (m - j) ≤ d → pp_lc E n m i j ≤ n - i ∧ pp_lc E n m i j ≤ m - j
  | 0, i, j, h => by
    rw [pp_lc_out (i := i) (j := j) (by omega)]
    omega
  | d + 1, i, j, h => by
    by_cases hin : i < n ∧ j < m
    · have h1 := pp_lc_le d i (j + 1) (by omega)
      have h2 := pp_lc_le d (i + 1) j (by omega)
      have h3 := pp_lc_le d (i + 1) (j + 1) (by omega)
      rw [pp_lc_in hin]
      split <;> omega
    · rw [pp_lc_out hin]
      omega
theorem pp_lc_n {i j : Nat} : pp_lc E n m i j ≤ n := by
  have := (pp_lc_le (E := E) (n := n) (m := m) _ i j (Nat.le_refl _)).1
  omega
theorem pp_lc_m {i j : Nat} : pp_lc E n m i j ≤ m := by
  have := (pp_lc_le (E := E) (n := n) (m := m) _ i j (Nat.le_refl _)).2
  omega
theorem pp_lc_cg {E1 : Nat → Nat → Bool} (h : ∀ i j, i < n → j < m → E i j = E1 i j) : ∀ (d i j : Nat), (n - i) + (m - j) ≤ d → pp_lc E n m i j = pp_lc E1 n m i j
  | 0, i, j, hd => by rw [pp_lc_out (by omega), pp_lc_out (by omega)]
  | d + 1, i, j, hd => by
    by_cases hin : i < n ∧ j < m
    · rw [pp_lc_in hin, pp_lc_in hin, pp_lc_cg h d (i + 1) j (by omega), pp_lc_cg h d i (j + 1) (by omega), pp_lc_cg h d (i + 1) (j + 1) (by omega), h i j hin.1 hin.2]
    · rw [pp_lc_out hin, pp_lc_out hin]
end
/-- the class measures -/
def pp_LT (τ : yy_T) (k0 n m : Nat) (E : Nat → Nat → Bool) : Prop := ∀ i j, i ≤ n → j ≤ m → τ (k0 + 3) (15 * i + j) = nI (pp_lc E n m i j)
theorem pp_measure {τ : yy_T} {k0 n m : Nat} {E : Nat → Nat → Bool} (h1 : τ k0 3 = nI n) (h2 : τ k0 4 = nI m) (hn : n ≤ 14) (hm : m ≤ 14) (hE : ∀ i j, i < n → j < m → (τ (k0 + 1) i = τ (k0 + 2) j ↔ E i j = true)) : tt (mm_X0_measure k0) τ (fun r τ1 => r = nI (pp_lc E n m 0 0) ∧ pp_LT τ1 k0 n m E ∧ ∀ a, a ≠ k0 + 3 → τ1 a = τ a) := by
  simp only [mm_X0_measure, mm_X0_measure_2, tt_cl]
  refine tt_up (m + 1) (fun k τ1 => (∀ j, j < k → τ1 (k0 + 3) (15 * n + j) = nI 0) ∧ ∀ a, a ≠ k0 + 3 → τ1 a = τ a) (fun k τ1 hk hI => ?_) 0 τ (Nat.zero_le _) ⟨fun j hj => absurd hj (Nat.not_lt_zero j), fun a _ => rfl⟩
  obtain ⟨i1, i2⟩ := hI
  have e0 : τ1 k0 = τ k0 := i2 k0 (by omega)
  simp only [mm_X0_measure_2b, tt_rF, tt_br, tt_rt, tt_wA, e0, h1, h2]
  simp only [nI_lit, nI_mul, nI_add]
  rw [nI_ltI (by omega) (by omega), nI_clamp (by omega)]
  refine ⟨fun hle => Or.inr ⟨(), by trivial, ?_⟩, fun hle => ⟨pp_in (by omega) (by decide), Or.inl ⟨by omega, by trivial, fun j hj => ?_, fun a a1 => by rw [← i2 a a1]; funext j; simp [yy_upx, a1]⟩⟩⟩
  · simp only [mm_X0_measure_31, mm_X0_measure_38, tt_rF, tt_cl, e0, h1]
    refine tt_dn (fun i τ2 => i ≤ n ∧ (∀ i1 j, i ≤ i1 → i1 ≤ n → j ≤ m → τ2 (k0 + 3) (15 * i1 + j) = nI (pp_lc E n m i1 j)) ∧ ∀ a, a ≠ k0 + 3 → τ2 a = τ a) (fun τ2 hI => ?_) (fun i τ2 hI => ?_) n τ1 ⟨Nat.le_refl _, fun z j a1 a2 a3 => ?_, i2⟩
    · obtain ⟨-, q1, q2⟩ := hI
      simp only [mm_X0_measure_38b, tt_br, tt_rt]
      refine ⟨fun _ => ⟨(), by trivial, ?_⟩, fun q => absurd (by decide) q⟩
      simp only [mm_X0_measure_168, tt_rA, tt_rt]
      refine ⟨by decide, ?_, fun i j a1 a2 => q1 i j (by omega) a1 a2, q2⟩
      have := q1 0 0 (by omega) (by omega) (by omega)
      exact this
    · obtain ⟨q0, q1, q2⟩ := hI
      have f0 : τ2 k0 = τ k0 := q2 k0 (by omega)
      have f1 : τ2 (k0 + 1) = τ (k0 + 1) := q2 (k0 + 1) (by omega)
      have n0 : ¬ nI i < 0 := nI_pos (by omega)
      have w0 : ∀ (j : Nat) (v : Int32), yy_up τ2 (k0 + 3) j v k0 = τ k0 := fun j v => by
        rw [← f0]
        funext z
        simp [yy_upx]
      simp only [mm_X0_measure_38b, tt_rF, tt_br, tt_rt, tt_rA, tt_wA, f0, h2, w0]
      simp only [nI_lit, nI_mul, nI_add]
      rw [nI_clamp (by omega), nI_clamp (by omega)]
      refine ⟨fun q => absurd q n0, fun _ => ⟨pp_in (by omega) (by decide), pp_in (by omega) (by decide), ?_⟩⟩
      simp only [mm_X0_measure_83, tt_cl]
      refine tt_dnx (fun j (x : Unit) => (nI (pp_lc E n m i j), nI j - nI 1)) (fun j _ τ3 => j ≤ m ∧ (∀ j1, j ≤ j1 → j1 ≤ m → τ3 (k0 + 3) (15 * i + j1) = nI (pp_lc E n m i j1)) ∧ (∀ i1 j, i < i1 → i1 ≤ n → j ≤ m → τ3 (k0 + 3) (15 * i1 + j) = nI (pp_lc E n m i1 j)) ∧ ∀ a, a ≠ k0 + 3 → τ3 a = τ a) (fun x τ3 hI => ?_) (fun j x τ3 hI => ?_) m () _ ⟨Nat.le_refl _, fun j1 a1 a2 => ?_, fun i1 j a1 a2 a3 => ?_, fun a a1 => ?_⟩ |> fun z => by rw [pp_lc_out (show ¬ (i < n ∧ m < m) by omega)] at z; exact z
      · obtain ⟨-, g1, g2, g3⟩ := hI
        simp only [mm_X0_measure_83b, tt_br, tt_rt]
        refine ⟨fun _ => ⟨(), by trivial, ?_⟩, fun q => absurd (by decide) q⟩
        simp only [mm_X0_measure_162, tt_rt]
        refine Or.inl ⟨by trivial, by omega, fun i1 j a1 a2 a3 => ?_, g3⟩
        by_cases e : i1 = i
        · subst e
          exact g1 j (by omega) a3
        · exact g2 i1 j (by omega) a2 a3
      · obtain ⟨g0, g1, g2, g3⟩ := hI
        have hE2 := hE i j (by omega) (by omega)
        have s2 : τ3 (k0 + 2) = τ (k0 + 2) := g3 (k0 + 2) (by omega)
        have lin : i < n ∧ j < m := by omega
        have b1 := pp_lc_n (E := E) (n := n) (m := m) (i := i) (j := j + 1)
        have b2 := pp_lc_n (E := E) (n := n) (m := m) (i := i + 1) (j := j)
        have r1 := g2 (i + 1) (j + 1) (by omega) (by omega) (by omega)
        have r2 := g2 (i + 1) j (by omega) (by omega) (by omega)
        have nj : nI (j + 1) - nI 1 = nI j := nI_pred j
        have nz : ¬ nI j < nI 0 := nI_pos (by omega)
        have ix1 : 15 * (i + 1) + (j + 1) = i * 15 + 15 + j + 1 := by omega
        have ix2 : 15 * (i + 1) + j = i * 15 + 15 + j := by omega
        rw [ix1] at r1
        rw [ix2] at r2
        have fin : ∀ v, v = nI (pp_lc E n m i j) → tt (mm_X0_measure_145 k0 (nI i) (τ (k0 + 1) i) (nI (i * 15)) (nI (i * 15 + 15)) v (nI j)) τ3 (fun y τ1 => (∃ x1 : Unit, y = .inl (nI (pp_lc E n m i j), nI j - nI 1) ∧ (j ≤ m ∧ (∀ j1, j ≤ j1 → j1 ≤ m → τ1 (k0 + 3) (15 * i + j1) = nI (pp_lc E n m i j1)) ∧ (∀ i1 j, i < i1 → i1 ≤ n → j ≤ m → τ1 (k0 + 3) (15 * i1 + j) = nI (pp_lc E n m i1 j)) ∧ ∀ a, a ≠ k0 + 3 → τ1 a = τ a)) ∨ ∃ r : Unit, y = .inr r ∧ tt (mm_X0_measure_162 k0 (nI i)) τ1 (fun y τ1 => (y = .inl (nI i + -1) ∧ i ≤ n ∧ (∀ i1 j, i ≤ i1 → i1 ≤ n → j ≤ m → τ1 (k0 + 3) (15 * i1 + j) = nI (pp_lc E n m i1 j)) ∧ ∀ a, a ≠ k0 + 3 → τ1 a = τ a) ∨ ∃ r, y = .inr r ∧ tt (mm_X0_measure_168 k0) τ1 (fun r τ1 => r = nI (pp_lc E n m 0 0) ∧ pp_LT τ1 k0 n m E ∧ ∀ a, a ≠ k0 + 3 → τ1 a = τ a))) := by
          intro v hv
          subst hv
          simp only [mm_X0_measure_145, tt_wA, tt_rt, nI_add]
          rw [nI_clamp (by omega)]
          refine ⟨pp_in (by omega) (by decide), Or.inl ⟨(), by rw [Int32.sub_eq_add_neg]; rfl, by omega, fun j1 a1 a2 => ?_, fun i1 j a1 a2 a3 => ?_, fun a a1 => by rw [← g3 a a1]; funext z; simp [yy_upx, a1]⟩⟩
          · simp only [yy_upx, if_true]
            by_cases e : j1 = j
            · rw [if_pos (by omega), e]
            · rw [if_neg (by omega)]
              exact g1 j1 (by omega) a2
          · simp only [yy_upx, if_true]
            rw [if_neg (by omega)]
            exact g2 i1 j a1 a2 a3
        simp only [mm_X0_measure_83b, tt_br, tt_rt, tt_rA, nj]
        simp only [nI_lit, nI_add]
        rw [f1, nI_clamp (show j < 2 ^ 31 by omega), s2, nI_clamp (show i * 15 + 15 + j + 1 < 2 ^ 31 by omega), nI_clamp (show i * 15 + 15 + j < 2 ^ 31 by omega), r1, r2, nI_add, hE2, nI_leI (by omega) (by omega)]
        refine ⟨fun q => absurd q nz, fun _ => ⟨pp_in (by omega) (by decide), fun q => ⟨pp_in (by omega) (by decide), ?_⟩, fun q => ⟨pp_in (by omega) (by decide), fun q2 => ?_, fun q2 => ⟨pp_in (by omega) (by decide), ?_⟩⟩⟩⟩
        · exact fin _ (by rw [pp_lc_E lin q])
        · exact fin _ (by rw [pp_lc_N lin q]; congr 1; omega)
        · exact fin _ (by rw [pp_lc_N lin q]; congr 1; omega)
      · have e : j1 = m := by omega
        subst e
        simp only [yy_upx, if_true]
        rw [if_pos (by omega), pp_lc_out (by omega)]
      · simp only [yy_upx, if_true]
        rw [if_neg (by omega)]
        exact q1 i1 j (by omega) a2 a3
      · rw [← q2 a a1]
        funext z
        simp [yy_upx, a1]
    · have e : z = n := by omega
      subst e
      rw [i1 j (by omega), pp_lc_out (by omega)]
  · simp only [yy_upx, if_true]
    by_cases e : j = k
    · rw [if_pos (by omega)]
    · rw [if_neg (by omega)]
      exact i1 j (by omega)
