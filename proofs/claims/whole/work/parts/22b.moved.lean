/-! BLOCKS: both sides move them -/
theorem pp_BC.of {τ τ1 : yy_T} {k0 : Nat} {s : pp_Bs} (h : pp_BC τ k0 s) (e : ∀ a, k0 ≤ a → a < k0 + 14 → τ1 a = τ a) : pp_BC τ1 k0 s := by
  obtain ⟨h1, h2, h3, h4⟩ := h
  refine ⟨h1.of (fun a a1 a2 => e a (by omega) (by omega)), h2.of (e _ (by omega) (by omega)), by rw [e k0 (by omega) (by omega)]; exact h3, fun q hq => ?_⟩
  rw [e (k0 + 11) (by omega) (by omega), e (k0 + 12) (by omega) (by omega), e (k0 + 13) (by omega) (by omega)]
  exact h4 q hq
theorem pp_moveBlock {τ : yy_T} {k0 i j len : Nat} {s : pp_Bs} (hB : pp_BC τ k0 s) (hnb : s.2.1 < 14) (hi : i + len ≤ 14) (hj : j + len ≤ 14) (hl : ∀ q, q < len → s.1 0 (i + q) = 3 ∧ s.1 1 (j + q) = 3) : tt (mm_X8_moveBlock k0 (nI i) (nI j) (nI len)) τ (fun _ τ1 => pp_BC τ1 k0 (pp_b2 s i j len) ∧ (∀ q, q ≠ 7 → τ1 k0 q = τ k0 q) ∧ ∀ x, (x < k0 ∨ k0 + 14 ≤ x) → τ1 x = τ x) := by
  obtain ⟨b1, b2, b3, b4⟩ := hB
  have lt : nI s.2.1 < 14 := by rw [show (14 : Int32) = nI 14 by rfl, nI_ltI (by omega) (by omega)]; exact hnb
  have bb : (nI s.2.1).toNatClampNeg = s.2.1 := nI_clamp (by omega)
  have ib : yy_in (nI s.2.1) 14 = true := pp_in hnb (by decide)
  have e1 : ∀ v, yy_up τ (k0 + 11) s.2.1 v k0 7 = nI s.2.1 := fun v => by simp [yy_upx, b3]
  have e2 : ∀ v w, yy_up (yy_up τ (k0 + 11) s.2.1 v) (k0 + 12) s.2.1 w k0 7 = nI s.2.1 := fun v w => by simp [yy_upx, b3]
  simp only [mm_X8_moveBlock, tt_rF, tt_br, tt_wA, tt_rt, b3, bb, ib, true_and, e1, e2]
  refine ⟨fun _ => ?_, fun q => absurd lt q⟩
  generalize hτ0 : yy_up (yy_up (yy_up τ (k0 + 11) s.2.1 (nI i)) (k0 + 12) s.2.1 (nI j)) (k0 + 13) s.2.1 (nI len) = τ0
  have f0 : ∀ x, x ≠ k0 + 11 → x ≠ k0 + 12 → x ≠ k0 + 13 → τ0 x = τ x := fun x x1 x2 x3 => by
    rw [← hτ0]
    funext l
    simp [yy_upx, x1, x2, x3]
  have g0 : τ0 (k0 + 11) s.2.1 = nI i ∧ τ0 (k0 + 12) s.2.1 = nI j ∧ τ0 (k0 + 13) s.2.1 = nI len := by
    rw [← hτ0]
    simp [yy_upx]
  have g1 : ∀ q, q ≠ s.2.1 → τ0 (k0 + 11) q = τ (k0 + 11) q ∧ τ0 (k0 + 12) q = τ (k0 + 12) q ∧ τ0 (k0 + 13) q = τ (k0 + 13) q := fun q hq => by
    rw [← hτ0]
    simp [yy_upx, hq]
  simp only [mm_X8_moveBlock_43, tt_cl]
  refine tt_up len (fun m τ1 => pp_DC τ1 k0 (pp_mv s.1 i j (nI s.2.1) m) ∧ pp_CP τ1 k0 (pp_mv s.1 i j (nI s.2.1) m) ∧ ∀ a, (a < k0 + 2 ∨ k0 + 11 ≤ a) → τ1 a = τ0 a) (fun m τ1 hm hI => ?_) 0 τ0 (Nat.zero_le _) ⟨b1.of (fun a a1 a2 => f0 a (by omega) (by omega) (by omega)), b2.of (f0 _ (by omega) (by omega) (by omega)), fun a _ => rfl⟩
  obtain ⟨i1, i2, i3⟩ := hI
  have e7 : τ1 k0 7 = nI s.2.1 := by rw [i3 k0 (by omega), f0 k0 (by omega) (by omega) (by omega)]; exact b3
  simp only [mm_X8_moveBlock_43b, tt_br, tt_rt, tt_rF, e7, nI_add]
  rw [nI_leI (by omega) (by omega)]
  refine ⟨fun q => Or.inr ⟨(), by trivial, ?_⟩, fun q => ?_⟩
  · have em : m = len := by omega
    rw [em] at i1 i2
    simp only [mm_X8_moveBlock_72, tt_rF, tt_wF, tt_rt, e7, nI_1]
    have f2 : ∀ a, a ≠ k0 → yy_up τ1 k0 7 (nI (s.2.1 + 1)) a = τ1 a := fun a ha => by
      funext l
      simp [yy_upx, ha]
    refine ⟨⟨i1.of (fun a a1 a2 => f2 a (by omega)), i2.of (f2 _ (by omega)), by simp [yy_upx]; rfl, fun q hq => ?_⟩, fun q hq => ?_, fun x hx => ?_⟩
    · have hq : q < s.2.1 + 1 := hq
      rw [f2 (k0 + 11) (by omega), f2 (k0 + 12) (by omega), f2 (k0 + 13) (by omega), i3 (k0 + 11) (by omega), i3 (k0 + 12) (by omega), i3 (k0 + 13) (by omega)]
      show _ = nI (if q = s.2.1 then (i, j, len) else s.2.2 q).1 ∧ _ = nI (if q = s.2.1 then (i, j, len) else s.2.2 q).2.1 ∧ _ = nI (if q = s.2.1 then (i, j, len) else s.2.2 q).2.2
      by_cases e : q = s.2.1
      · rw [if_pos e, e]
        exact g0
      · rw [if_neg e, (g1 q e).1, (g1 q e).2.1, (g1 q e).2.2]
        exact b4 q (by omega)
    · simp only [yy_upx, if_true, if_neg hq]
      rw [i3 k0 (by omega), f0 k0 (by omega) (by omega) (by omega)]
    · rw [f2 x (by omega), i3 x (by omega), f0 x (by omega) (by omega) (by omega)]
  · rw [tt_cl]
    obtain ⟨h1, h2⟩ := hl m (by omega)
    refine tt_mono (pp_join (as := 1) (v := nI s.2.1) i1 i2 (by decide) (show i + m < 14 by omega) (show j + m < 14 by omega) (by rw [pp_mv0 m _ (Nat.le_refl _)]; exact h1) (by rw [pp_mv1 m _ (Nat.le_refl _)]; exact h2)) (fun _ τ2 z => ?_)
    obtain ⟨z1, z2, z3⟩ := z
    rw [tt_rt]
    exact Or.inl ⟨by omega, by rw [nI_1], z1, z2, fun a ha => by rw [z3 a (by omega)]; exact i3 a ha⟩
/-- the class moves the longest -/
theorem pp_moveLongest {τ : yy_T} {k0 : Nat} {o n : pp_Ed} {s : pp_Bs} (hk : 53 ≤ k0) (hN : pp_KN τ o n) (hB : pp_BC τ k0 s) (hW : pp_BW o n s) (o14 : o.1 ≤ 14) (n14 : n.1 ≤ 14) : tt (mm_X1_moveLongest k0) τ (fun r τ1 => (((pp_bs o n s.1).1 = 0 ∧ r = 0 ∧ pp_BC τ1 k0 s) ∨ ((pp_bs o n s.1).1 ≠ 0 ∧ r = 1 ∧ pp_BC τ1 k0 (pp_b1 o n s))) ∧ (∀ q, q ≠ 7 → τ1 k0 q = τ k0 q) ∧ ∀ x, (x < k0 ∨ k0 + 14 ≤ x) → τ1 x = τ x) := by
  have zr : ∀ k, ¬ (k / 14 < o.1 ∧ k % 14 < n.1) → pp_bf o n s.1 k = 0 := fun k hk => by
    unfold pp_bf
    exact pp_row_e (fun z => hk ⟨(pp_bp_iff.mp z.2).1, (pp_bp_iff.mp z.2).2.1⟩)
  have sb : ∀ k, (pp_sc (pp_bf o n s.1) k).1 ≤ 14 := fun k => pp_sc_b pp_bf_b k
  have s2 : ∀ k, (pp_sc (pp_bf o n s.1) k).2 ≤ k := fun k => pp_sc_2 k
  simp only [mm_X1_moveLongest, mm_X1_moveLongest_10, tt_cl]
  have s00 : pp_sc (pp_bf o n s.1) (14 * 0) = (0, 0) := rfl
  have z0 : nI (pp_sc (pp_bf o n s.1) (14 * 0)).1 = 0 := by rw [s00]; rfl
  have z1 : nI ((pp_sc (pp_bf o n s.1) (14 * 0)).2 / 14) = 0 := by rw [s00]; rfl
  have z2 : nI ((pp_sc (pp_bf o n s.1) (14 * 0)).2 % 14) = 0 := by rw [s00]; rfl
  suffices h : tt (yy_lp (fun (w : Int32 × Int32 × Int32 × Int32) => mm_X1_moveLongest_10b k0 w.1 w.2.1 w.2.2.1 w.2.2.2) (nI (pp_sc (pp_bf o n s.1) (14 * 0)).1, nI ((pp_sc (pp_bf o n s.1) (14 * 0)).2 / 14), nI ((pp_sc (pp_bf o n s.1) (14 * 0)).2 % 14), nI 0)) τ (fun r τ1 => tt (mm_X1_moveLongest_76 k0 r.1 r.2.1 r.2.2) τ1 (fun r τ1 => (((pp_bs o n s.1).1 = 0 ∧ r = 0 ∧ pp_BC τ1 k0 s) ∨ ((pp_bs o n s.1).1 ≠ 0 ∧ r = 1 ∧ pp_BC τ1 k0 (pp_b1 o n s))) ∧ (∀ q, q ≠ 7 → τ1 k0 q = τ k0 q) ∧ ∀ x, (x < k0 ∨ k0 + 14 ≤ x) → τ1 x = τ x)) by
    rw [z0, z1, z2] at h
    exact h
  clear z0 z1 z2 s00
  refine tt_upx o.1 (fun i (_ : Unit) => (nI (pp_sc (pp_bf o n s.1) (14 * i)).1, nI ((pp_sc (pp_bf o n s.1) (14 * i)).2 / 14), nI ((pp_sc (pp_bf o n s.1) (14 * i)).2 % 14), nI i)) (fun i _ τ1 => τ1 = τ) (fun i _ τ1 hi hI => ?_) 0 () τ (Nat.zero_le _) rfl
  subst hI
  simp only [mm_X1_moveLongest_10b, tt_rF, tt_br, tt_rt, hN.1]
  rw [nI_leI (by omega) (by omega)]
  refine ⟨fun q => Or.inr ⟨_, rfl, ?_⟩, fun q => ?_⟩
  · have ei : i = o.1 := by omega
    have e196 : pp_sc (pp_bf o n s.1) (14 * i) = pp_bs o n s.1 := by
      unfold pp_bs
      rw [show 196 = 14 * i + (196 - 14 * i) by omega]
      exact (pp_sc_z _ (fun k k1 k2 => zr k (fun z => by omega))).symm
    have sb9 := sb (14 * i)
    have s9 := s2 (14 * i)
    rw [e196] at sb9 s9 ⊢
    have c0 : nI (pp_bs o n s.1).1 ≤ 0 ↔ (pp_bs o n s.1).1 ≤ 0 := by rw [show (0 : Int32) = nI 0 by rfl, nI_leI (by omega) (by omega)]
    simp only [mm_X1_moveLongest_76, mm_X1_moveLongest_88, tt_br, tt_rt]
    refine ⟨fun z => ⟨fun _ => ⟨Or.inl ⟨by have := c0.mp z; omega, by trivial, hB⟩, fun q _ => by trivial, fun x _ => by trivial⟩, fun z2 => absurd z z2⟩, fun z => ?_⟩
    have hne : (pp_bs o n s.1).1 ≠ 0 := fun e => z (c0.mpr (by omega))
    obtain ⟨h1, h2, h3, h4⟩ := pp_bs_in hne o14 n14
    rw [tt_cl]
    refine tt_mono (pp_moveBlock hB (pp_b1_W hW hne o14 n14).2.2 h2 h3 (fun q hq => (h4 q hq).2.2)) (fun _ τ2 y => ?_)
    rw [tt_br, tt_rt, tt_rt]
    exact ⟨fun z2 => absurd z2 z, fun _ => ⟨Or.inr ⟨hne, by trivial, y.1⟩, y.2⟩⟩
  · simp only [mm_X1_moveLongest_25, tt_cl]
    suffices h : tt (yy_lp (fun (w : Int32 × Int32 × Int32 × Int32) => mm_X1_moveLongest_25b k0 w.1 w.2.1 w.2.2.1 (nI i) w.2.2.2) (nI (pp_sc (pp_bf o n s.1) (14 * i + 0)).1, nI ((pp_sc (pp_bf o n s.1) (14 * i + 0)).2 / 14), nI ((pp_sc (pp_bf o n s.1) (14 * i + 0)).2 % 14), nI 0)) τ1 (fun w τ2 => tt (mm_X1_moveLongest_70 k0 w.1 w.2.1 w.2.2 (nI i)) τ2 (fun y τ3 => (i < o.1 ∧ ∃ x1 : Unit, y = .inl (nI (pp_sc (pp_bf o n s.1) (14 * (i + 1))).1, nI ((pp_sc (pp_bf o n s.1) (14 * (i + 1))).2 / 14), nI ((pp_sc (pp_bf o n s.1) (14 * (i + 1))).2 % 14), nI (i + 1)) ∧ τ3 = τ1) ∨ ∃ r : Int32 × Int32 × Int32, y = .inr r ∧ tt (mm_X1_moveLongest_76 k0 r.1 r.2.1 r.2.2) τ3 (fun r τ2 => (((pp_bs o n s.1).1 = 0 ∧ r = 0 ∧ pp_BC τ2 k0 s) ∨ ((pp_bs o n s.1).1 ≠ 0 ∧ r = 1 ∧ pp_BC τ2 k0 (pp_b1 o n s))) ∧ (∀ q, q ≠ 7 → τ2 k0 q = τ1 k0 q) ∧ ∀ x, (x < k0 ∨ k0 + 14 ≤ x) → τ2 x = τ1 x))) by exact h
    refine tt_upx n.1 (fun j (_ : Unit) => (nI (pp_sc (pp_bf o n s.1) (14 * i + j)).1, nI ((pp_sc (pp_bf o n s.1) (14 * i + j)).2 / 14), nI ((pp_sc (pp_bf o n s.1) (14 * i + j)).2 % 14), nI j)) (fun j _ τ2 => τ2 = τ1) (fun j _ τ2 hj hI => ?_) 0 () τ1 (Nat.zero_le _) rfl
    subst hI
    simp only [mm_X1_moveLongest_25b, tt_rF, tt_br, tt_rt, hN.2.1]
    rw [nI_leI (by omega) (by omega)]
    have sbj := sb (14 * i + j)
    refine ⟨fun q => Or.inr ⟨_, rfl, ?_⟩, fun q => ?_⟩
    · have ej : j = n.1 := by omega
      have e14 : pp_sc (pp_bf o n s.1) (14 * (i + 1)) = pp_sc (pp_bf o n s.1) (14 * i + j) := by
        rw [show 14 * (i + 1) = 14 * i + j + (14 - j) by omega]
        exact pp_sc_z _ (fun k k1 k2 => zr k (fun z => by omega))
      simp only [mm_X1_moveLongest_70, tt_rt]
      exact Or.inl ⟨by omega, (), by rw [e14, nI_1], by trivial⟩
    · rw [tt_cle (pp_looseRow hN hB.1 o14 n14 (by omega) (by omega)), tt_br]
      have ef : pp_row (pp_bp o n s.1) i j = pp_bf o n s.1 (14 * i + j) := by
        unfold pp_bf
        rw [show (14 * i + j) / 14 = i by omega, show (14 * i + j) % 14 = j by omega]
      have fb := pp_bf_b (o := o) (n := n) (D := s.1) (14 * i + j)
      rw [ef, nI_leI (by omega) (by omega)]
      simp only [mm_X1_moveLongest_64, tt_rt]
      refine ⟨fun z => Or.inl ⟨by omega, (), ?_, by trivial⟩, fun z => Or.inl ⟨by omega, (), ?_, by trivial⟩⟩
      · rw [← Nat.add_assoc, pp_sc_n (by omega), nI_1]
      · rw [← Nat.add_assoc, pp_sc_s (by omega), nI_1]
        show _ = Sum.inl (nI (pp_bf o n s.1 (14 * i + j)), nI ((14 * i + j) / 14), nI ((14 * i + j) % 14), nI (j + 1))
        rw [show (14 * i + j) / 14 = i by omega, show (14 * i + j) % 14 = j by omega]
theorem pp_br_stop {o n : pp_Ed} {s : pp_Bs} (h : (pp_bs o n s.1).1 = 0) : ∀ m, pp_br o n m s = s
  | 0 => rfl
  | m + 1 => by rw [pp_br, if_pos h]
theorem pp_bs_0 {o n : pp_Ed} {D : pp_D} (o14 : o.1 ≤ 14) (h : pp_cnt (D 0) 3 14 = 0) : (pp_bs o n D).1 = 0 := by
  have key : ∀ m, pp_cnt (D 0) 3 m = 0 → ∀ l, l < m → D 0 l ≠ 3 := by
    intro m
    induction m with
    | zero => intro _ l hl; omega
    | succ m ih =>
      intro hm l hl
      rw [pp_cnt] at hm
      by_cases e : l = m
      · rw [e]
        intro z
        rw [if_pos z] at hm
        omega
      · exact ih (by omega) l (by omega)
  have hz := key 14 h
  unfold pp_bs
  have : pp_sc (pp_bf o n D) (0 + 196) = pp_sc (pp_bf o n D) 0 := pp_sc_z 196 (fun k _ _ => by
    unfold pp_bf
    refine pp_row_e (fun z => ?_)
    exact hz (k / 14) z.1 (pp_bp_iff.mp z.2).2.2.2.1)
  rw [Nat.zero_add] at this
  rw [this]
  rfl
/-- the class moves all blocks -/
theorem pp_moveAll {τ : yy_T} {k0 k1 k2 : Nat} {o n : pp_Ed} {s : pp_Bs} {Q : Unit → yy_T → Prop} (hk : 53 ≤ k0) (hN : pp_KN τ o n) (hB : pp_BC τ k0 s) (hW : pp_BW o n s) (o14 : o.1 ≤ 14) (n14 : n.1 ≤ 14) (hQ : ∀ τ1, pp_BC τ1 k0 (pp_br o n 14 s) → (∀ q, q ≠ 7 → τ1 k0 q = τ k0 q) → (∀ x, (x < k0 ∨ k0 + 14 ≤ x) → τ1 x = τ x) → tt (mm_X1_compare_56 k1 k2 k0) τ1 Q) : tt (mm_X1_compare_31 k1 k2 k0 1 0) τ Q := by
  simp only [mm_X1_compare_31, tt_cl]
  refine tt_upx 14 (fun k (x : Nat) => (nI x, nI k)) (fun k x τ1 => (∃ s1, pp_BC τ1 k0 s1 ∧ pp_BW o n s1 ∧ ((x = 1 ∧ pp_br o n (14 - k) s1 = pp_br o n 14 s) ∨ (x = 0 ∧ s1 = pp_br o n 14 s))) ∧ (∀ q, q ≠ 7 → τ1 k0 q = τ k0 q) ∧ ∀ x, (x < k0 ∨ k0 + 14 ≤ x) → τ1 x = τ x) (fun k x τ1 hk2 hI => ?_) 0 1 τ (Nat.zero_le _) ⟨⟨s, hB, hW, Or.inl ⟨rfl, rfl⟩⟩, fun q _ => rfl, fun x _ => rfl⟩
  obtain ⟨⟨s1, i1, i2, i3⟩, i4, i5⟩ := hI
  have c14 : (14 : Int32) ≤ nI k ↔ 14 ≤ k := by rw [show (14 : Int32) = nI 14 by rfl, nI_leI (by omega) (by omega)]
  have hx : x ≤ 1 := by rcases i3 with z | z <;> omega
  simp only [mm_X1_compare_31b, tt_br, tt_rt, c14]
  rw [show (0 : Int32) = nI 0 by rfl, nI_eq (by omega) (by omega)]
  refine ⟨fun q => Or.inr ⟨(), by trivial, ?_⟩, fun q => ⟨fun q2 => Or.inr ⟨(), by trivial, ?_⟩, fun q2 => ?_⟩⟩
  · refine hQ τ1 ?_ i4 i5
    rcases i3 with ⟨-, z⟩ | ⟨-, z⟩
    · rw [show 14 - k = 0 by omega] at z
      rw [← z]
      exact i1
    · rw [← z]
      exact i1
  · refine hQ τ1 ?_ i4 i5
    rcases i3 with ⟨z, -⟩ | ⟨-, z⟩
    · omega
    · rw [← z]
      exact i1
  · have i3 : pp_br o n (14 - k) s1 = pp_br o n 14 s := by
      rcases i3 with ⟨-, z⟩ | ⟨z, -⟩
      · exact z
      · exact absurd z q2
    have N1 : pp_KN τ1 o n := hN.of (i5 _ (by omega)) (i5 _ (by omega)) (i5 _ (by omega))
    rw [tt_cl]
    refine tt_mono (pp_moveLongest hk N1 i1 i2 o14 n14) (fun r τ2 z => ?_)
    obtain ⟨z1, z2, z3⟩ := z
    rw [tt_rt]
    have f1 : ∀ q, q ≠ 7 → τ2 k0 q = τ k0 q := fun q hq => by rw [z2 q hq]; exact i4 q hq
    have f2 : ∀ x, (x < k0 ∨ k0 + 14 ≤ x) → τ2 x = τ x := fun x hx => by rw [z3 x hx]; exact i5 x hx
    rcases z1 with ⟨y1, rfl, y2⟩ | ⟨y1, rfl, y2⟩
    · refine Or.inl ⟨by omega, 0, by rw [nI_1]; rfl, ⟨s1, y2, i2, Or.inr ⟨rfl, ?_⟩⟩, f1, f2⟩
      rw [← i3, pp_br_stop y1]
    · refine Or.inl ⟨by omega, 1, by rw [nI_1]; rfl, ⟨_, y2, (pp_b1_W i2 y1 o14 n14).1, Or.inl ⟨rfl, ?_⟩⟩, f1, f2⟩
      rw [← i3, show 14 - k = 14 - (k + 1) + 1 by omega, pp_br, if_neg y1]
/-- the reference lays a couple of a block -/
theorem pp_mCouple2 {τ : yy_T} {i j : Nat} {D : pp_D} {as v : Int32} (hD : pp_DM τ D) (hi : i < 14) (hj : j < 14) (h16 : τ 112 16 = v) {β : Type} {K : yy_M β} {Q : β → yy_T → Prop} (hQ : ∀ τ1, pp_DM τ1 (pp_jn D as i j v) → (∀ a, a ≠ 117 → a ≠ 118 → a ≠ 119 → τ1 a = τ a) → tt K τ1 Q) : tt (yy_cl (mm_X10_couples (nI i) (nI j) as) (fun _ => yy_rF 112 16 fun v2 => yy_wA 119 28 (nI i) v2 (yy_rF 112 16 fun v3 => yy_wA 119 28 (nI (14 + j)) v3 K))) τ Q := by
  have ii : (nI i).toNatClampNeg = i := nI_clamp (by omega)
  have jj : (nI (14 + j)).toNatClampNeg = 14 + j := nI_clamp (by omega)
  have j0 : (14 : Int32) + nI j = nI (14 + j) := by rw [show (14 : Int32) = nI 14 by rfl, nI_add]
  have ini : yy_in (nI i) 28 = true := pp_in (by omega) (by decide)
  have inj : yy_in (nI (14 + j)) 28 = true := pp_in (by omega) (by decide)
  have e1 : yy_up (yy_up (yy_up (yy_up τ 117 i as) 117 (14 + j) as) 118 i (nI j)) 118 (14 + j) (nI i) 112 16 = v := by simp [yy_upx, h16]
  have e2 : yy_up (yy_up (yy_up (yy_up (yy_up τ 117 i as) 117 (14 + j) as) 118 i (nI j)) 118 (14 + j) (nI i)) 119 i v 112 16 = v := by simp [yy_upx, h16]
  simp only [tt_cl, mm_X10_couples, tt_wA, tt_rt, tt_rF, j0, ii, jj, ini, inj, true_and, e1, e2]
  refine hQ _ (fun l hl => ?_) (fun a a1 a2 a3 => ?_)
  · obtain ⟨d0, d1, d2, d3, d4, d5⟩ := hD l hl
    have n1 : ¬ l = 14 + j := by omega
    have n2 : ¬ 14 + l = i := by omega
    have n3 : (14 + l = 14 + j) = (l = j) := propext (by omega)
    simp only [yy_upx, pp_jn0, pp_jn1, pp_jn2, pp_jn3, pp_jn4, pp_jn5, n1, n2, n3, ← d0, ← d1, ← d2, ← d3, ← d4, ← d5, if_false]
    refine ⟨by simp, by simp, by simp, by simp, by simp, by simp⟩
  · funext l
    simp [yy_upx, a1, a2, a3]
theorem pp_d14 {k : Nat} (h : k ≤ 196) : nI k / 14 = nI (k / 14) ∧ nI k - nI k / 14 * 14 = nI (k % 14) := ⟨pk_div (d := 14) (by omega) (by omega) (by omega), pk_rem (d := 14) (by omega) (by omega) (by omega)⟩
/-- the reference lays one block -/
theorem pp_layBlock {τ : yy_T} {s : pp_Bs} {k len : Nat} (hB : pp_BM τ s) (hk : k < 196) (hnb : s.2.1 < 14) (h1 : k / 14 + len ≤ 14) (h2 : k % 14 + len ≤ 14) : tt (mm_X10_laysBlocks_65 (nI len) (nI k) 0) τ (fun y τ1 => y = .inl (nI len) ∧ pp_BM τ1 (pp_b2 s (k / 14) (k % 14) len) ∧ (∀ q, q ≠ 16 → τ1 112 q = τ 112 q) ∧ ∀ x, x ≠ 112 → x ≠ 117 → x ≠ 118 → x ≠ 119 → x ≠ 122 → τ1 x = τ x) := by
  obtain ⟨b1, b2, b3⟩ := hB
  obtain ⟨d1, d2⟩ := pp_d14 (k := k) (by omega)
  simp only [mm_X10_laysBlocks_65, tt_cl]
  refine tt_up len (fun q τ1 => pp_DM τ1 (pp_mv s.1 (k / 14) (k % 14) (nI s.2.1) q) ∧ ∀ a, a ≠ 117 → a ≠ 118 → a ≠ 119 → τ1 a = τ a) (fun q τ1 hq hI => ?_) 0 τ (Nat.zero_le _) ⟨b1, fun a _ _ _ => rfl⟩
  obtain ⟨i1, i2⟩ := hI
  have e16 : τ1 112 16 = nI s.2.1 := by rw [i2 112 (by decide) (by decide) (by decide)]; exact b2
  have x1 : nI (k / 14) + nI q = nI (k / 14 + q) := nI_add _ _
  have x2 : nI (k % 14) + nI q = nI (k % 14 + q) := nI_add _ _
  have x3 : (14 : Int32) + nI (k % 14) + nI q = nI (14 + (k % 14 + q)) := by rw [show (14 : Int32) = nI 14 by rfl, nI_add, nI_add, Nat.add_assoc]
  simp only [mm_X10_laysBlocks_65b, tt_br, tt_rt]
  rw [nI_leI (by omega) (by omega), d2, d1, x1, x2, x3]
  refine ⟨fun z => Or.inr ⟨(), by trivial, ?_⟩, fun z => ?_⟩
  · have eq : q = len := by omega
    rw [eq] at i1
    have bb : ∀ c, c < 3 → ((3 : Int32) * nI s.2.1 + nI c).toNatClampNeg = 3 * s.2.1 + c ∧ yy_in ((3 : Int32) * nI s.2.1 + nI c) 42 = true := fun c hc => by
      rw [show (3 : Int32) = nI 3 by rfl, nI_mul, nI_add]
      exact ⟨nI_clamp (by omega), pp_in (by omega) (by decide)⟩
    have c0 : ((3 : Int32) * nI s.2.1).toNatClampNeg = 3 * s.2.1 ∧ yy_in ((3 : Int32) * nI s.2.1) 42 = true := by
      rw [show (3 : Int32) = nI 3 by rfl, nI_mul]
      exact ⟨nI_clamp (by omega), pp_in (by omega) (by decide)⟩
    have c1 : ((3 : Int32) * nI s.2.1 + 1).toNatClampNeg = 3 * s.2.1 + 1 ∧ yy_in ((3 : Int32) * nI s.2.1 + 1) 42 = true := bb 1 (by decide)
    have c2 : ((3 : Int32) * nI s.2.1 + 2).toNatClampNeg = 3 * s.2.1 + 2 ∧ yy_in ((3 : Int32) * nI s.2.1 + 2) 42 = true := bb 2 (by decide)
    have u : ∀ (τ2 : yy_T) (l : Nat) (v : Int32), yy_up τ2 122 l v 112 16 = τ2 112 16 := fun τ2 l v => by simp [yy_upx]
    simp only [mm_X10_laysBlocks_126, tt_rF, tt_wA, tt_wF, tt_rt, u, e16, c0, c1, c2, true_and]
    rw [d2, d1, nI_1]
    generalize hτ2 : yy_up (yy_up (yy_up (yy_up τ1 122 (3 * s.2.1) (nI (k / 14))) 122 (3 * s.2.1 + 1) (nI (k % 14))) 122 (3 * s.2.1 + 2) (nI len)) 112 16 (nI (s.2.1 + 1)) = τ2
    have f2 : ∀ a, a ≠ 112 → a ≠ 122 → τ2 a = τ1 a := fun a a1 a2 => by
      rw [← hτ2]
      funext l
      simp [yy_upx, a1, a2]
    refine ⟨⟨i1.of (f2 _ (by decide) (by decide)) (f2 _ (by decide) (by decide)) (f2 _ (by decide) (by decide)), by rw [← hτ2]; simp [yy_upx]; rfl, fun p hp => ?_⟩, fun p hp => ?_, fun x h0 h1 h2 h3 h4 => by rw [f2 x h0 h4]; exact i2 x h1 h2 h3⟩
    · have hp : p < s.2.1 + 1 := hp
      show _ = nI (if p = s.2.1 then (k / 14, k % 14, len) else s.2.2 p).1 ∧ _ = nI (if p = s.2.1 then (k / 14, k % 14, len) else s.2.2 p).2.1 ∧ _ = nI (if p = s.2.1 then (k / 14, k % 14, len) else s.2.2 p).2.2
      rw [← hτ2]
      by_cases e : p = s.2.1
      · rw [if_pos e, e]
        simp [yy_upx]
      · rw [if_neg e]
        have := b3 p (by omega)
        simp only [yy_upx]
        simp only [show ((122 : Nat) = 112) = False by simp, if_false, if_true]
        rw [i2 122 (by decide) (by decide) (by decide)]
        refine ⟨?_, ?_, ?_⟩
        · rw [if_neg (by omega), if_neg (by omega), if_neg (by omega)]; exact this.1
        · rw [if_neg (by omega), if_neg (by omega), if_neg (by omega)]; exact this.2.1
        · rw [if_neg (by omega), if_neg (by omega), if_neg (by omega)]; exact this.2.2
    · rw [← hτ2, ← i2 112 (by decide) (by decide) (by decide)]
      simp [yy_upx, hp]
  · refine pp_mCouple2 i1 (by omega) (by omega) e16 (fun τ2 z1 z2 => ?_)
    rw [tt_rt]
    exact Or.inl ⟨by omega, by rw [nI_1], z1, fun a a1 a2 a3 => by rw [z2 a a1 a2 a3]; exact i2 a a1 a2 a3⟩
/-- the reference lays all blocks -/
theorem pp_laysBlocks {τ : yy_T} {o n : pp_Ed} {D : pp_D} {B : Nat → Nat × Nat × Nat} (ho : pp_RM τ 114 0 o) (wo : pp_wfE o) (hn : pp_RM τ 114 127 n) (wn : pp_wfE n) (hD : pp_DM τ D) (hW : pp_BW o n (D, 0, B)) : tt mm_X10_laysBlocks τ (fun _ τ1 => pp_BM τ1 (pp_br o n 14 (D, 0, B)) ∧ (∀ q, q ≠ 16 → τ1 112 q = τ 112 q) ∧ ∀ x, x ≠ 112 → x ≠ 117 → x ≠ 118 → x ≠ 119 → x ≠ 122 → τ1 x = τ x) := by
  have o14 := wo.1
  have n14 := wn.1
  simp only [mm_X10_laysBlocks, tt_wF, mm_X10_laysBlocks_7, tt_cl]
  have f0 : ∀ a, a ≠ 112 → yy_up τ 112 16 0 a = τ a := fun a ha => by
    funext l
    simp [yy_upx, ha]
  refine tt_upx 14 (fun k (x : Nat) => nI x) (fun k x τ1 => (1 ≤ x ∧ x ≤ 14) ∧ (∃ s, pp_BM τ1 s ∧ pp_BW o n s ∧ pp_cnt (s.1 0) 3 14 + k ≤ 14 ∧ pp_br o n (14 - k) s = pp_br o n 14 (D, 0, B)) ∧ (∀ q, q ≠ 16 → τ1 112 q = τ 112 q) ∧ ∀ x, x ≠ 112 → x ≠ 117 → x ≠ 118 → x ≠ 119 → x ≠ 122 → τ1 x = τ x) (fun k x τ1 hk hI => ?_) 0 1 _ (Nat.zero_le _) ⟨by omega, ⟨(D, 0, B), ⟨hD.of (f0 _ (by decide)) (f0 _ (by decide)) (f0 _ (by decide)), by simp [yy_upx]; rfl, fun q hq => absurd hq (Nat.not_lt_zero q)⟩, hW, by have := hW.2; show pp_cnt (D 0) 3 14 + 0 ≤ 14; exact pp_cnt_le _ _ _, rfl⟩, fun q hq => by simp [yy_upx, hq], fun x h0 _ _ _ _ => f0 x h0⟩
  obtain ⟨hx, ⟨s, i1, i2, i3, i4⟩, i5, i6⟩ := hI
  have ho1 : pp_RM τ1 114 0 o := ho.of (i6 _ (by decide) (by decide) (by decide) (by decide) (by decide))
  have hn1 : pp_RM τ1 114 127 n := hn.of (i6 _ (by decide) (by decide) (by decide) (by decide) (by decide))
  simp only [mm_X10_laysBlocks_7b, tt_br, tt_rt]
  refine ⟨fun q => absurd q (nI_nle (by omega) (by omega)), fun _ => ?_⟩
  simp only [mm_X10_laysBlocks_17, tt_cl]
  refine tt_upx 196 (fun m (_ : Unit) => (nI (pp_sc (pp_bf o n s.1) m).1, nI (pp_sc (pp_bf o n s.1) m).2, nI m)) (fun m _ τ2 => τ2 = τ1) (fun m _ τ2 hm hI => ?_) 0 () τ1 (Nat.zero_le _) rfl
  subst hI
  have c196 : (196 : Int32) ≤ nI m ↔ 196 ≤ m := by rw [show (196 : Int32) = nI 196 by rfl, nI_leI (by omega) (by omega)]
  have sb := pp_sc_b (f := pp_bf o n s.1) pp_bf_b m
  simp only [mm_X10_laysBlocks_17b, tt_br, tt_rt, c196]
  refine ⟨fun q => Or.inr ⟨_, rfl, ?_⟩, fun q => ?_⟩
  · have em : m = 196 := by omega
    rw [em] at sb ⊢
    show tt (mm_X10_laysBlocks_58 (nI (pp_bs o n s.1).1) (nI (pp_bs o n s.1).2)) τ2 _
    have sb : (pp_bs o n s.1).1 ≤ 14 := sb
    simp only [mm_X10_laysBlocks_58, tt_br, tt_rt]
    rw [show (0 : Int32) = nI 0 by rfl, nI_eq (by omega) (by omega)]
    refine ⟨fun z => Or.inr ⟨.inr (), by trivial, ?_⟩, fun z => ?_⟩
    · simp only [Sum.elim, mm_X10_laysBlocks_62, tt_rt]
      rw [← i4, pp_br_stop z]
      exact ⟨i1, i5, i6⟩
    · obtain ⟨h1, h2, h3, h4⟩ := pp_bs_in z o14 n14
      obtain ⟨w1, w2, w3⟩ := pp_b1_W i2 z o14 n14
      refine tt_mono (pp_layBlock i1 h1 w3 h2 h3) (fun y τ3 u => ?_)
      obtain ⟨u0, u1, u2, u3⟩ := u
      refine Or.inl ⟨by omega, (pp_bs o n s.1).1, u0, by omega, ⟨_, u1, w1, by show pp_cnt ((pp_b1 o n s).1 0) 3 14 + (k + 1) ≤ 14; omega, ?_⟩, fun q hq => by rw [u2 q hq]; exact i5 q hq, fun x g0 g1 g2 g3 g4 => by rw [u3 x g0 g1 g2 g3 g4]; exact i6 x g0 g1 g2 g3 g4⟩
      rw [← i4, show 14 - k = 14 - (k + 1) + 1 by omega, pp_br, if_neg z]
      rfl
  · obtain ⟨d1, d2⟩ := pp_d14 (k := m) (by omega)
    rw [d2, d1, tt_cle (pp_blockFrom ho1 wo hn1 wn i1.1 (by omega) (by omega)), tt_br]
    have ef : pp_row (pp_bp o n s.1) (m / 14) (m % 14) = pp_bf o n s.1 m := rfl
    have fb := pp_bf_b (o := o) (n := n) (D := s.1) m
    rw [ef, nI_ltI (by omega) (by omega)]
    simp only [mm_X10_laysBlocks_52, tt_rt]
    refine ⟨fun z => Or.inl ⟨by omega, (), ?_, by trivial⟩, fun z => Or.inl ⟨by omega, (), ?_, by trivial⟩⟩
    · rw [pp_sc_s z, nI_1]
    · rw [pp_sc_n z, nI_1]
