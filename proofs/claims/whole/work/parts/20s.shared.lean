/-! WORDS SHARED -/
def pp_EW (l1 l2 : pp_L) (i j : Nat) : Bool := decide (l1.getD i [] = l2.getD j [])
theorem pp_EW_iff {l1 l2 : pp_L} {i j : Nat} : pp_EW l1 l2 i j = true ↔ l1.getD i [] = l2.getD j [] := decide_eq_true_iff
def pp_lw (l1 l2 : pp_L) (i j : Nat) : Nat := pp_lc (pp_EW l1 l2) l1.length l2.length i j
def pp_sh (l1 l2 : pp_L) : Nat := pp_lw l1 l2 0 0
theorem pp_cpok {sp dp n n0 n1 : Nat} (h1 : sp + n ≤ n0) (h2 : dp + n ≤ n1) (h3 : n0 < 2 ^ 31) (h4 : n1 < 2 ^ 31) : yy_cpok (nI sp) (nI dp) (nI n) n0 n1 = true := by
  unfold yy_cpok
  simp only [Bool.and_eq_true, decide_eq_true_eq]
  rw [nI_clamp (by omega), nI_clamp (by omega), nI_clamp (by omega)]
  exact ⟨⟨⟨⟨nI_pos (by omega), nI_pos (by omega)⟩, nI_pos (by omega)⟩, by omega⟩, by omega⟩
theorem pp_copyRow {τ : yy_T} {a0 a3 fr ct A : Nat} (hA : yy_len a0 = A) (h3 : yy_len a3 = 14) (hA2 : A ≤ 225) (h1 : fr + ct ≤ A) (h2 : ct ≤ 14) : tt (mm_X0_copyRow a0 (nI fr) (nI ct) a3) τ (fun r τ1 => r = nI ct ∧ (∀ k, k < ct → τ1 a3 k = τ a0 (fr + k)) ∧ ∀ a, a ≠ a3 → τ1 a = τ a) := by
  simp only [mm_X0_copyRow, tt_br, tt_rt, tt_cp, hA, h3]
  have n1 : ¬ nI fr < 0 := nI_pos (by omega)
  have n2 : ¬ nI ct < 0 := nI_pos (by omega)
  have n3 : ¬ Int32.ofNat 14 < nI ct := by
    show ¬ nI 14 < nI ct
    rw [nI_ltI (by omega) (by omega)]
    omega
  have n4 : nI fr ≤ Int32.ofNat A - nI ct := by
    show nI fr ≤ nI A - nI ct
    rw [nI_sub (by omega), nI_leI (by omega) (by omega)]
    omega
  refine ⟨fun q => absurd q n1, fun _ => ⟨fun q => absurd q n2, fun _ => ⟨fun q => absurd q n3, fun _ => ⟨fun _ => ?_, fun q => absurd n4 q⟩⟩⟩⟩
  refine ⟨pp_cpok (dp := 0) h1 (by omega) (by omega) (by omega), by trivial, fun k hk => ?_, fun a ha => ?_⟩
  · rw [yy_rox, if_pos rfl, nI_clamp (by omega), nI_clamp (by omega)]
    show va_cpy (τ a0) (τ a3) fr 0 ct k = _
    unfold va_cpy
    rw [if_pos (by omega), Nat.sub_zero]
  · rw [yy_rox, if_neg ha]
theorem pp_setFirst {τ : yy_T} {k0 a1 fr ct A : Nat} (hA : yy_len a1 = A) (h3 : yy_len (k0 + 1) = 14) (hA2 : A ≤ 225) (h1 : fr + ct ≤ A) (h2 : ct ≤ 14) (hne : a1 ≠ k0) : tt (mm_X0_setFirst k0 a1 (nI fr) (nI ct)) τ (fun _ τ1 => τ1 k0 3 = nI ct ∧ (∀ j, j ≠ 3 → τ1 k0 j = τ k0 j) ∧ (∀ k, k < ct → τ1 (k0 + 1) k = τ a1 (fr + k)) ∧ ∀ a, a ≠ k0 → a ≠ k0 + 1 → τ1 a = τ a) := by
  simp only [mm_X0_setFirst, tt_cl, tt_wF, tt_rt]
  refine tt_mono (pp_copyRow hA h3 hA2 h1 h2) (fun r τ1 q => ?_)
  obtain ⟨rfl, q1, q2⟩ := q
  refine ⟨by simp [yy_upx], fun j hj => by simp [yy_upx, hj, q2 k0 (by omega)], fun k hk => by simp [yy_upx]; exact q1 k hk, fun a a1 a2 => by rw [← q2 a a2]; funext j; simp [yy_upx, a1]⟩
theorem pp_setSecond {τ : yy_T} {k0 a1 fr ct A : Nat} (hA : yy_len a1 = A) (h3 : yy_len (k0 + 2) = 14) (hA2 : A ≤ 225) (h1 : fr + ct ≤ A) (h2 : ct ≤ 14) (hne : a1 ≠ k0) : tt (mm_X0_setSecond k0 a1 (nI fr) (nI ct)) τ (fun _ τ1 => τ1 k0 4 = nI ct ∧ (∀ j, j ≠ 4 → τ1 k0 j = τ k0 j) ∧ (∀ k, k < ct → τ1 (k0 + 2) k = τ a1 (fr + k)) ∧ ∀ a, a ≠ k0 → a ≠ k0 + 2 → τ1 a = τ a) := by
  simp only [mm_X0_setSecond, tt_cl, tt_wF, tt_rt]
  refine tt_mono (pp_copyRow hA h3 hA2 h1 h2) (fun r τ1 q => ?_)
  obtain ⟨rfl, q1, q2⟩ := q
  refine ⟨by simp [yy_upx], fun j hj => by simp [yy_upx, hj, q2 k0 (by omega)], fun k hk => by simp [yy_upx]; exact q1 k hk, fun a a1 a2 => by rw [← q2 a a2]; funext j; simp [yy_upx, a1]⟩
/-- a row of words in a common row's cells -/
def pp_WR (τ : yy_T) (a : Nat) (l : pp_L) : Prop := ∀ k, k < l.length → τ a k = nI (pp_e5 (l.getD k []))
theorem pp_WR_E {τ : yy_T} {a b : Nat} {l1 l2 : pp_L} (w1 : pp_wfL l1) (w2 : pp_wfL l2) (h1 : pp_WR τ a l1) (h2 : pp_WR τ b l2) : ∀ i j, i < l1.length → j < l2.length → (τ a i = τ b j ↔ pp_EW l1 l2 i j = true) := by
  intro i j hi hj
  have v1 := w1.word hi
  have v2 := w2.word hj
  have b1 := pp_e5_lt v1
  have b2 := pp_e5_lt v2
  rw [h1 i hi, h2 j hj, nI_eq (by omega) (by omega), pp_EW_iff]
  exact ⟨fun q => pp_e5_inj v1 v2 q, fun q => by rw [q]⟩
theorem pp_CL_WR {τ τ1 : yy_T} {c i a : Nat} {l : pp_L} (h : pp_CL τ c i l) (e : ∀ k, k < l.length → τ1 a k = τ (c + 2) (i * 8 + k)) : pp_WR τ1 a l := by
  intro k hk
  rw [e k hk, Nat.mul_comm i 8]
  exact h.2 k hk
/-- what the words' common row holds when it is measured -/
def pp_MW (τ : yy_T) (k0 : Nat) (l1 l2 : pp_L) : Prop := τ k0 3 = nI l1.length ∧ τ k0 4 = nI l2.length ∧ pp_WR τ (k0 + 1) l1 ∧ pp_WR τ (k0 + 2) l2 ∧ pp_LT τ k0 l1.length l2.length (pp_EW l1 l2)
theorem pp_measureWords {τ : yy_T} {o n : pp_Ed} (ho : pp_RC τ 7 o) (wo : pp_wfE o) (hn : pp_RC τ 10 n) (wn : pp_wfE n) {i j : Nat} (hi : i < o.1) (hj : j < n.1) : tt (mm_X9_measureWords (nI i) (nI j)) τ (fun r τ1 => r = nI (pp_sh (o.2 i) (n.2 j)) ∧ pp_MW τ1 80 (o.2 i) (n.2 j) ∧ ∀ a, (a < 80 ∨ 84 ≤ a) → τ1 a = τ a) := by
  have w1 := wo.2 i hi
  have w2 := wn.2 j hj
  have o14 := wo.1
  have n14 := wn.1
  have l1 := w1.2.1
  have l2 := w2.2.1
  simp only [mm_X9_measureWords]
  rw [tt_cle (pp_sizeOf ho wo i hi), show (8 : Int32) = nI 8 by rfl, nI_mul, tt_cl]
  refine tt_mono (pp_setFirst (A := 112) rfl rfl (by omega) (by omega) (by omega) (by omega)) (fun _ τ1 q => ?_)
  obtain ⟨q1, q2, q3, q4⟩ := q
  have hn1 : pp_RC τ1 10 n := hn.of (q4 _ (by omega) (by omega)) (q4 _ (by omega) (by omega)) (q4 _ (by omega) (by omega))
  rw [tt_cle (pp_sizeOf hn1 wn j hj), tt_cl, nI_mul]
  refine tt_mono (pp_setSecond (A := 112) rfl rfl (by omega) (by omega) (by omega) (by omega)) (fun _ τ2 k => ?_)
  obtain ⟨k1, k2, k3, k4⟩ := k
  have r1 : pp_WR τ2 81 (o.2 i) := pp_CL_WR (ho.2 i hi) (fun k hk => by rw [k4 81 (by omega) (by omega)]; exact q3 k hk)
  have r2 : pp_WR τ2 82 (n.2 j) := pp_CL_WR (hn1.2 j hj) (fun k hk => k3 k hk)
  rw [tt_cl]
  refine tt_mono (pp_measure (n := (o.2 i).length) (m := (n.2 j).length) (E := pp_EW (o.2 i) (n.2 j)) (by rw [k2 3 (by decide)]; exact q1) k1 (by omega) (by omega) (pp_WR_E w1 w2 r1 r2)) (fun r τ3 z => ?_)
  obtain ⟨z1, z2, z3⟩ := z
  rw [tt_rt]
  refine ⟨z1, ⟨?_, ?_, ?_, ?_, z2⟩, fun a ha => ?_⟩
  · rw [z3 80 (by omega), k2 3 (by decide)]
    exact q1
  · rw [z3 80 (by omega)]
    exact k1
  · intro k hk
    rw [z3 81 (by omega)]
    exact r1 k hk
  · intro k hk
    rw [z3 82 (by omega)]
    exact r2 k hk
  · rw [z3 a (by omega), k4 a (by omega) (by omega), q4 a (by omega) (by omega)]
/-- the reference's words shared -/
def pp_ST (τ : yy_T) (l1 l2 : pp_L) : Prop := ∀ i j, i ≤ l1.length → j ≤ l2.length → τ 123 (9 * i + j) = nI (pp_lw l1 l2 i j)
theorem pp_sharedOf {τ : yy_T} {o n : pp_Ed} (ho : pp_RM τ 114 0 o) (wo : pp_wfE o) (hn : pp_RM τ 114 127 n) (wn : pp_wfE n) {i j : Nat} (hi : i < o.1) (hj : j < n.1) : tt (mm_X10_sharedOf (nI i) (nI j)) τ (fun r τ1 => r = nI (pp_sh (o.2 i) (n.2 j)) ∧ pp_ST τ1 (o.2 i) (n.2 j) ∧ ∀ a, a ≠ 123 → τ1 a = τ a) := by
  have w1 := wo.2 i hi
  have w2 := wn.2 j hj
  have l1 := w1.2.1
  have l2 := w2.2.1
  have e1 : mm_X10_wordsOf 0 (nI i) τ = some (nI (o.2 i).length, τ) := pp_wordsOf (w := 0) (by decide) ho wo.1 hi
  have e2 : mm_X10_wordsOf 1 (nI j) τ = some (nI (n.2 j).length, τ) := pp_wordsOf (w := 1) (by decide) hn wn.1 hj
  generalize hl1 : o.2 i = L1 at *
  generalize hl2 : n.2 j = L2 at *
  simp only [mm_X10_sharedOf, tt_cle e1, tt_cle e2, mm_X10_sharedOf_18, tt_cl]
  have st : nI L1.length = nI (L1.length + 1) - 1 := (nI_pred _).symm
  have st2 : nI L2.length = nI (L2.length + 1) - 1 := (nI_pred _).symm
  suffices h : tt (yy_lp (fun (w : Int32) => mm_X10_sharedOf_18b (nI i) (nI j) (nI L1.length) (nI L2.length) w) (nI (L1.length + 1) - 1)) τ (fun _ τ1 => tt mm_X10_sharedOf_207 τ1 (fun r τ1 => r = nI (pp_sh L1 L2) ∧ pp_ST τ1 L1 L2 ∧ ∀ a, a ≠ 123 → τ1 a = τ a)) by
    rw [nI_pred] at h
    exact h
  refine tt_dn (fun k τ1 => k ≤ L1.length + 1 ∧ (∀ i1 j1, k ≤ i1 → i1 ≤ L1.length → j1 ≤ L2.length → τ1 123 (9 * i1 + j1) = nI (pp_lw L1 L2 i1 j1)) ∧ ∀ a, a ≠ 123 → τ1 a = τ a) (fun τ1 hI => ?_) (fun k τ1 hI => ?_) (L1.length + 1) τ ⟨Nat.le_refl _, fun i1 j1 a1 a2 => by omega, fun a _ => rfl⟩
  · obtain ⟨-, q1, q2⟩ := hI
    simp only [mm_X10_sharedOf_18b, tt_br, tt_rt]
    refine ⟨fun _ => ⟨(), by trivial, ?_⟩, fun q => absurd (by decide) q⟩
    simp only [mm_X10_sharedOf_207, tt_rA, tt_rt]
    exact ⟨by decide, q1 0 0 (by omega) (by omega) (by omega), fun i1 j1 a1 a2 => q1 i1 j1 (by omega) a1 a2, q2⟩
  · obtain ⟨q0, q1, q2⟩ := hI
    have nk : ¬ nI k < 0 := nI_pos (by omega)
    simp only [mm_X10_sharedOf_18b, mm_X10_sharedOf_27, tt_br, tt_rt, tt_cl]
    refine ⟨fun q => absurd q nk, fun _ => ?_⟩
    suffices h : tt (yy_lp (fun (w : Int32) => mm_X10_sharedOf_27b (nI i) (nI j) (nI L1.length) (nI L2.length) (nI k) w) (nI (L2.length + 1) - 1)) τ1 (fun _ τ2 => tt (mm_X10_sharedOf_201 (nI i) (nI j) (nI L1.length) (nI L2.length) (nI k)) τ2 (fun y τ1 => (y = .inl (nI k + -1) ∧ k ≤ L1.length + 1 ∧ (∀ i1 j1, k ≤ i1 → i1 ≤ L1.length → j1 ≤ L2.length → τ1 123 (9 * i1 + j1) = nI (pp_lw L1 L2 i1 j1)) ∧ ∀ a, a ≠ 123 → τ1 a = τ a) ∨ ∃ r, y = .inr r ∧ tt mm_X10_sharedOf_207 τ1 (fun r τ1 => r = nI (pp_sh L1 L2) ∧ pp_ST τ1 L1 L2 ∧ ∀ a, a ≠ 123 → τ1 a = τ a))) by
      rw [nI_pred] at h
      exact h
    refine tt_dn (fun z τ2 => z ≤ L2.length + 1 ∧ (∀ j1, z ≤ j1 → j1 ≤ L2.length → τ2 123 (9 * k + j1) = nI (pp_lw L1 L2 k j1)) ∧ (∀ i1 j1, k < i1 → i1 ≤ L1.length → j1 ≤ L2.length → τ2 123 (9 * i1 + j1) = nI (pp_lw L1 L2 i1 j1)) ∧ ∀ a, a ≠ 123 → τ2 a = τ a) (fun τ2 hI => ?_) (fun z τ2 hI => ?_) (L2.length + 1) τ1 ⟨Nat.le_refl _, fun j1 a1 a2 => by omega, fun i1 j1 a1 a2 a3 => q1 i1 j1 (by omega) a2 a3, q2⟩
    · obtain ⟨-, g1, g2, g3⟩ := hI
      simp only [mm_X10_sharedOf_27b, tt_br, tt_rt]
      refine ⟨fun _ => ⟨(), by trivial, ?_⟩, fun q => absurd (by decide) q⟩
      simp only [mm_X10_sharedOf_201, tt_rt]
      refine Or.inl ⟨by trivial, by omega, fun i1 j1 a1 a2 a3 => ?_, g3⟩
      by_cases e : i1 = k
      · subst e
        exact g1 j1 (by omega) a3
      · exact g2 i1 j1 (by omega) a2 a3
    · obtain ⟨g0, g1, g2, g3⟩ := hI
      have nz : ¬ nI z < 0 := nI_pos (by omega)
      have fin : ∀ v (Q : Int32 ⊕ Unit → yy_T → Prop), v = nI (pp_lw L1 L2 k z) → (∀ τ3, (z ≤ L2.length + 1 ∧ (∀ j1, z ≤ j1 → j1 ≤ L2.length → τ3 123 (9 * k + j1) = nI (pp_lw L1 L2 k j1)) ∧ (∀ i1 j1, k < i1 → i1 ≤ L1.length → j1 ≤ L2.length → τ3 123 (9 * i1 + j1) = nI (pp_lw L1 L2 i1 j1)) ∧ ∀ a, a ≠ 123 → τ3 a = τ a) → Q (.inl (nI z + -1)) τ3) → tt (mm_X10_sharedOf_180 (nI i) (nI j) (nI L1.length) (nI L2.length) (nI k) (nI z) v) τ2 Q := by
        intro v Q hv hQ
        subst hv
        simp only [mm_X10_sharedOf_180, tt_wA, tt_rt]
        rw [show (9 : Int32) = nI 9 by rfl, nI_mul, nI_add, nI_clamp (by omega)]
        refine ⟨pp_in (by omega) (by decide), hQ _ ⟨by omega, fun j1 a1 a2 => ?_, fun i1 j1 a1 a2 a3 => ?_, fun a a1 => by rw [← g3 a a1]; funext y; simp [yy_upx, a1]⟩⟩
        · simp only [yy_upx, if_true]
          by_cases e : j1 = z
          · rw [if_pos (by omega), e]
          · rw [if_neg (by omega)]
            exact g1 j1 (by omega) a2
        · simp only [yy_upx, if_true]
          rw [if_neg (by omega)]
          exact g2 i1 j1 a1 a2 a3
      have zero : ¬ (k < L1.length ∧ z < L2.length) → (0 : Int32) = nI (pp_lw L1 L2 k z) := fun q => by
        unfold pp_lw
        rw [pp_lc_out q]
        rfl
      simp only [mm_X10_sharedOf_27b, tt_br, tt_rt, tt_rA]
      rw [nI_leI (by omega) (by omega), nI_leI (show L2.length < 2 ^ 31 by omega) (by omega)]
      refine ⟨fun q => absurd q nz, fun _ => ⟨fun q => fin _ _ (zero (by omega)) (fun τ3 h3 => Or.inl ⟨rfl, h3⟩), fun hk => ⟨fun q => fin _ _ (zero (by omega)) (fun τ3 h3 => Or.inl ⟨rfl, h3⟩), fun hz => ?_⟩⟩⟩
      have b1 := pp_lc_n (E := pp_EW L1 L2) (n := L1.length) (m := L2.length) (i := k + 1) (j := z)
      have b2 := pp_lc_n (E := pp_EW L1 L2) (n := L1.length) (m := L2.length) (i := k) (j := z + 1)
      have b3 := pp_lc_n (E := pp_EW L1 L2) (n := L1.length) (m := L2.length) (i := k + 1) (j := z + 1)
      have r1 := g2 (k + 1) z (by omega) (by omega) (by omega)
      have r2 := g1 (z + 1) (by omega) (by omega)
      have r3 := g2 (k + 1) (z + 1) (by omega) (by omega) (by omega)
      rw [show 9 * (k + 1) + z = 9 * k + 9 + z by omega] at r1
      rw [show 9 * k + (z + 1) = 9 * k + z + 1 by omega] at r2
      rw [show 9 * (k + 1) + (z + 1) = 9 * k + 10 + z by omega] at r3
      have v1 := w1.word (show k < L1.length by omega)
      have v2 := w2.word (show z < L2.length by omega)
      have c1 := pp_e27_lt v1
      have c2 := pp_e27_lt v2
      have ho2 : pp_RM τ2 114 0 o := ho.of (g3 114 (by decide))
      have hn2 : pp_RM τ2 114 127 n := hn.of (g3 114 (by decide))
      have x1 : mm_X10_word 0 (nI i) (nI k) τ2 = some (nI (pp_e27 (L1.getD k [])), τ2) := by
        have := pp_word (w := 0) (k := k) (by decide) ho2 wo hi (by rw [hl1]; omega)
        rw [hl1] at this
        exact this
      have x2 : mm_X10_word 1 (nI j) (nI z) τ2 = some (nI (pp_e27 (L2.getD z [])), τ2) := by
        have := pp_word (w := 1) (k := z) (by decide) hn2 wn hj (by rw [hl2]; omega)
        rw [hl2] at this
        exact this
      have lin : k < L1.length ∧ z < L2.length := by omega
      have val := pp_lc_in (E := pp_EW L1 L2) lin
      have cont : ∀ s0 (Q : Int32 ⊕ Unit → yy_T → Prop), s0 = max (pp_lc (pp_EW L1 L2) L1.length L2.length (k + 1) z) (pp_lc (pp_EW L1 L2) L1.length L2.length k (z + 1)) → (∀ τ3, (z ≤ L2.length + 1 ∧ (∀ j1, z ≤ j1 → j1 ≤ L2.length → τ3 123 (9 * k + j1) = nI (pp_lw L1 L2 k j1)) ∧ (∀ i1 j1, k < i1 → i1 ≤ L1.length → j1 ≤ L2.length → τ3 123 (9 * i1 + j1) = nI (pp_lw L1 L2 i1 j1)) ∧ ∀ a, a ≠ 123 → τ3 a = τ a) → Q (.inl (nI z + -1)) τ3) → tt (mm_X10_sharedOf_116 (nI i) (nI j) (nI L1.length) (nI L2.length) (nI k) (nI z) (nI s0)) τ2 Q := by
        intro s0 Q hs hQ
        simp only [mm_X10_sharedOf_116, tt_cle x1, tt_cle x2, tt_br, tt_rA]
        simp only [nI_lit, nI_mul, nI_add]
        rw [nI_eq (by omega) (by omega), nI_clamp (by omega), r3, nI_add]
        unfold pp_lw
        rw [nI_leI (by omega) (by omega)]
        refine ⟨fun q => ⟨pp_in (by omega) (by decide), fun q2 => fin _ _ ?_ hQ, fun q2 => ⟨pp_in (by omega) (by decide), fin _ _ ?_ hQ⟩⟩, fun q => fin _ _ ?_ hQ⟩
        · have hE : pp_EW L1 L2 k z = true := pp_EW_iff.mpr (pp_e27_inj v1 v2 q)
          rw [if_pos hE] at val
          unfold pp_lw
          congr 1
          omega
        · have hE : pp_EW L1 L2 k z = true := pp_EW_iff.mpr (pp_e27_inj v1 v2 q)
          rw [if_pos hE] at val
          unfold pp_lw
          congr 1
          omega
        · have hE : ¬ pp_EW L1 L2 k z = true := fun y => q (by rw [pp_EW_iff.mp y])
          rw [if_neg hE] at val
          unfold pp_lw
          congr 1
          omega
      simp only [nI_lit, nI_mul, nI_add]
      rw [nI_clamp (by omega), nI_clamp (by omega), r1, r2]
      unfold pp_lw
      rw [nI_leI (by omega) (by omega)]
      refine ⟨pp_in (by omega) (by decide), pp_in (by omega) (by decide), fun q => ⟨pp_in (by omega) (by decide), cont _ _ (by omega) (fun τ3 h3 => Or.inl ⟨rfl, h3⟩)⟩, fun q => ⟨pp_in (by omega) (by decide), cont _ _ (by omega) (fun τ3 h3 => Or.inl ⟨rfl, h3⟩)⟩⟩
