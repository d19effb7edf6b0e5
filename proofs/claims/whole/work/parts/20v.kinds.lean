/-! KINDS: lines as numbers; the most lines -/
def pp_EL (o n : pp_Ed) (i j : Nat) : Bool := decide (o.2 i = n.2 j)
theorem pp_EL_iff {o n : pp_Ed} {i j : Nat} : pp_EL o n i j = true ↔ o.2 i = n.2 j := decide_eq_true_iff
theorem pp_firstLike {τ : yy_T} {c d : Nat} {e f : pp_Ed} (h : pp_RC τ c e) (he : pp_wfE e) (g : pp_RC τ d f) (hf : pp_wfE f) {i G : Nat} (hi : i < e.1) (hG : G ≤ f.1) : mm_X4_firstLike c (nI i) d (nI G) τ = some (nI (pp_nx (pp_EL e f) G i 0), τ) := by
  have f14 := hf.1
  apply tt_of
  simp only [mm_X4_firstLike, mm_X4_firstLike_3, tt_cl]
  refine tt_up G (fun k τ1 => τ1 = τ ∧ pp_nx (pp_EL e f) G i k = pp_nx (pp_EL e f) G i 0) (fun k τ1 hk hI => ?_) 0 τ (Nat.zero_le _) ⟨rfl, rfl⟩
  obtain ⟨rfl, hI⟩ := hI
  simp only [mm_X4_firstLike_3b, tt_br, tt_rt]
  rw [nI_leI (by omega) (by omega)]
  refine ⟨fun q => Or.inr ⟨_, by trivial, ?_⟩, fun q => ?_⟩
  · simp only [mm_X4_firstLike_26, tt_rt]
    refine ⟨?_, by trivial⟩
    rw [← hI, pp_nx_0 (by omega)]
  · rw [tt_cle (pp_isLike h he g hf i k hi (by omega)), tt_br, tt_rt, tt_rt, pp_b_0]
    refine ⟨fun q2 => Or.inl ⟨by omega, by rw [nI_1], by trivial, ?_⟩, fun q2 => Or.inr ⟨_, by trivial, ?_⟩⟩
    · rw [← pp_nx_s (by omega) (fun z => q2 (pp_EL_iff.mp z))]
      exact hI
    · simp only [mm_X4_firstLike_26, tt_rt]
      refine ⟨?_, by trivial⟩
      rw [← hI, pp_nx_0 (fun z => z.2 (pp_EL_iff.mpr (Classical.not_not.mp q2)))]
def pp_KN (τ : yy_T) (o n : pp_Ed) : Prop := τ 50 2 = nI o.1 ∧ τ 50 3 = nI n.1 ∧ (∀ i j, i < o.1 → j < n.1 → (τ 51 i = τ 52 j ↔ pp_EL o n i j = true)) ∧ ∀ i k, i < o.1 → k < o.1 → (τ 51 i = τ 51 k ↔ pp_EL o o i k = true)
theorem pp_KN.of {τ τ1 : yy_T} {o n : pp_Ed} (h : pp_KN τ o n) (e0 : τ1 50 = τ 50) (e1 : τ1 51 = τ 51) (e2 : τ1 52 = τ 52) : pp_KN τ1 o n := by
  unfold pp_KN
  rw [e0, e1, e2]
  exact h
theorem pp_KN_to {τ : yy_T} {o n : pp_Ed} (h14 : o.1 ≤ 14) (h1 : τ 50 2 = nI o.1) (h2 : τ 50 3 = nI n.1) (h3 : ∀ i, i < o.1 → τ 51 i = nI (pp_nx (pp_EL o o) i i 0)) (h4 : ∀ j, j < n.1 → τ 52 j = nI (pp_nx (pp_EL n o) o.1 j 0)) : pp_KN τ o n := by
  have a : ∀ i, i < o.1 → pp_nx (pp_EL o o) i i 0 ≤ i ∧ o.2 i = o.2 (pp_nx (pp_EL o o) i i 0) ∧ ∀ c, c < pp_nx (pp_EL o o) i i 0 → o.2 i ≠ o.2 c := by
    intro i hi
    obtain ⟨-, p2, p3, p4, -⟩ := pp_nx_p (E := pp_EL o o) (n := 0) (m := i) (i := i) _ 0 (Nat.le_refl _) (Nat.zero_le _)
    refine ⟨p2, ?_, fun c hc q => p3 c (Nat.zero_le _) hc (pp_EL_iff.mpr q)⟩
    by_cases e : pp_nx (pp_EL o o) i i 0 < i
    · exact pp_EL_iff.mp (p4 e)
    · rw [show pp_nx (pp_EL o o) i i 0 = i by omega]
  have b : ∀ j, j < n.1 → pp_nx (pp_EL n o) o.1 j 0 ≤ o.1 ∧ (pp_nx (pp_EL n o) o.1 j 0 < o.1 → n.2 j = o.2 (pp_nx (pp_EL n o) o.1 j 0)) ∧ ∀ c, c < pp_nx (pp_EL n o) o.1 j 0 → n.2 j ≠ o.2 c := by
    intro j hj
    obtain ⟨-, p2, p3, p4, -⟩ := pp_nx_p (E := pp_EL n o) (n := 0) (m := o.1) (i := j) _ 0 (Nat.le_refl _) (Nat.zero_le _)
    exact ⟨p2, fun z => pp_EL_iff.mp (p4 z), fun c hc q => p3 c (Nat.zero_le _) hc (pp_EL_iff.mpr q)⟩
  refine ⟨h1, h2, fun i j hi hj => ?_, fun i k hi hk => ?_⟩
  · obtain ⟨a1, a2, a3⟩ := a i hi
    obtain ⟨b1, b2, b3⟩ := b j hj
    rw [h3 i hi, h4 j hj, nI_eq (by omega) (by omega), pp_EL_iff]
    constructor
    · intro q
      rw [a2, q, ← b2 (by omega)]
    · intro q
      rcases Nat.lt_trichotomy (pp_nx (pp_EL o o) i i 0) (pp_nx (pp_EL n o) o.1 j 0) with z | z | z
      · exact absurd (by rw [← q, ← a2]) (b3 _ z)
      · exact z
      · exact absurd (by rw [q, ← b2 (by omega)]) (a3 _ z)
  · obtain ⟨a1, a2, a3⟩ := a i hi
    obtain ⟨b1, b2, b3⟩ := a k hk
    rw [h3 i hi, h3 k hk, nI_eq (by omega) (by omega), pp_EL_iff]
    constructor
    · intro q
      rw [a2, q, ← b2]
    · intro q
      rcases Nat.lt_trichotomy (pp_nx (pp_EL o o) i i 0) (pp_nx (pp_EL o o) k k 0) with z | z | z
      · exact absurd (by rw [← q, ← a2]) (b3 _ z)
      · exact z
      · exact absurd (by rw [q, ← b2]) (a3 _ z)
theorem pp_number {τ : yy_T} {c d : Nat} {o n : pp_Ed} (h : pp_RC τ c o) (ho : pp_wfE o) (g : pp_RC τ d n) (hn : pp_wfE n) (hc : c + 2 < 50) (hd : d + 2 < 50) : tt (mm_X4_number c d) τ (fun _ τ1 => pp_KN τ1 o n ∧ ∀ a, a ≠ 50 → a ≠ 51 → a ≠ 52 → τ1 a = τ a) := by
  have o14 := ho.1
  have n14 := hn.1
  simp only [mm_X4_number, tt_rF, tt_wF]
  have e1 : yy_up τ 50 2 (τ c 2) d 2 = τ d 2 := by
    simp only [yy_upx]
    rw [if_neg (by omega)]
  rw [e1, h.1, g.1]
  generalize hτ : yy_up (yy_up τ 50 2 (nI o.1)) 50 3 (nI n.1) = τ0
  have fr0 : ∀ a, a ≠ 50 → τ0 a = τ a := fun a ha => by
    rw [← hτ]
    funext j
    simp [yy_upx, ha]
  have a2 : τ0 50 2 = nI o.1 := by rw [← hτ]; simp [yy_upx]
  have a3 : τ0 50 3 = nI n.1 := by rw [← hτ]; simp [yy_upx]
  simp only [mm_X4_number_18, tt_cl]
  refine tt_up o.1 (fun k τ1 => (∀ i, i < k → τ1 51 i = nI (pp_nx (pp_EL o o) i i 0)) ∧ τ1 50 = τ0 50 ∧ ∀ a, a ≠ 50 → a ≠ 51 → τ1 a = τ a) (fun k τ1 hk hI => ?_) 0 τ0 (Nat.zero_le _) ⟨fun i hi => absurd hi (Nat.not_lt_zero i), rfl, fun a b1 b2 => fr0 a b1⟩
  obtain ⟨i1, i2, i3⟩ := hI
  have h1 : pp_RC τ1 c o := h.of (i3 _ (by omega) (by omega)) (i3 _ (by omega) (by omega)) (i3 _ (by omega) (by omega))
  simp only [mm_X4_number_18b, tt_rF, tt_br, tt_rt, i2, a2]
  rw [nI_leI (by omega) (by omega)]
  refine ⟨fun q => Or.inr ⟨(), by trivial, ?_⟩, fun q => ?_⟩
  · simp only [mm_X4_number_45, mm_X4_number_47, tt_cl]
    refine tt_up n.1 (fun k τ2 => (∀ j, j < k → τ2 52 j = nI (pp_nx (pp_EL n o) o.1 j 0)) ∧ τ2 50 = τ0 50 ∧ τ2 51 = τ1 51 ∧ ∀ a, a ≠ 50 → a ≠ 51 → a ≠ 52 → τ2 a = τ a) (fun k τ2 hk hI => ?_) 0 τ1 (Nat.zero_le _) ⟨fun i hi => absurd hi (Nat.not_lt_zero i), i2, rfl, fun a b1 b2 b3 => i3 a b1 b2⟩
    obtain ⟨j1, j2, j3, j4⟩ := hI
    have h2 : pp_RC τ2 c o := h.of (j4 _ (by omega) (by omega) (by omega)) (j4 _ (by omega) (by omega) (by omega)) (j4 _ (by omega) (by omega) (by omega))
    have g2 : pp_RC τ2 d n := g.of (j4 _ (by omega) (by omega) (by omega)) (j4 _ (by omega) (by omega) (by omega)) (j4 _ (by omega) (by omega) (by omega))
    simp only [mm_X4_number_47b, tt_rF, tt_br, tt_rt, j2, a2, a3]
    rw [nI_leI (by omega) (by omega)]
    refine ⟨fun q => Or.inr ⟨(), by trivial, ?_⟩, fun q => ?_⟩
    · simp only [mm_X4_number_77, tt_rt]
      exact ⟨pp_KN_to o14 (by rw [j2]; exact a2) (by rw [j2]; exact a3) (fun i hi => by rw [j3]; exact i1 i (by omega)) (fun j hj => j1 j (by omega)), j4⟩
    · rw [tt_cle (pp_firstLike g2 hn h2 ho (by omega) (Nat.le_refl _)), tt_wA, tt_rt, nI_clamp (by omega)]
      refine ⟨pp_in (by omega) (by decide), Or.inl ⟨by omega, by rw [nI_1], fun j hj => ?_, ?_, ?_, fun a b1 b2 b3 => ?_⟩⟩
      · simp only [yy_upx, if_true]
        by_cases e : j = k
        · rw [if_pos e, e]
        · rw [if_neg e]
          exact j1 j (by omega)
      · rw [← j2]
        funext z
        simp [yy_upx]
      · rw [← j3]
        funext z
        simp [yy_upx]
      · rw [← j4 a b1 b2 b3]
        funext z
        simp [yy_upx, b3]
  · rw [tt_cle (pp_firstLike h1 ho h1 ho (by omega) (by omega)), tt_wA, tt_rt, nI_clamp (by omega)]
    refine ⟨pp_in (by omega) (by decide), Or.inl ⟨by omega, by rw [nI_1], fun j hj => ?_, ?_, fun a b1 b2 => ?_⟩⟩
    · simp only [yy_upx, if_true]
      by_cases e : j = k
      · rw [if_pos e, e]
      · rw [if_neg e]
        exact i1 j (by omega)
    · rw [← i2]
      funext z
      simp [yy_upx]
    · rw [← i3 a b1 b2]
      funext z
      simp [yy_upx, b2]
theorem pp_mostLines {τ : yy_T} {o n : pp_Ed} (h : pp_RC τ 7 o) (ho : pp_wfE o) (g : pp_RC τ 10 n) (hn : pp_wfE n) : tt (mm_X1_mostLines 7 10) τ (fun r τ1 => r = nI (pp_lc (pp_EL o n) o.1 n.1 0 0) ∧ ∀ a, (a < 50 ∨ 65 ≤ a) → τ1 a = τ a) := by
  have o14 := ho.1
  have n14 := hn.1
  simp only [mm_X1_mostLines]
  rw [tt_cl]
  refine tt_mono (pp_number h ho g hn (by omega) (by omega)) (fun _ τ1 q => ?_)
  obtain ⟨⟨q1, q2, q3, -⟩, q4⟩ := q
  rw [tt_rF, q1, tt_cl]
  refine tt_mono (pp_setFirst (k0 := 61) (a1 := 51) (fr := 0) (ct := o.1) (A := 14) rfl rfl (by omega) (by omega) (by omega) (by omega)) (fun _ τ2 k => ?_)
  obtain ⟨k1, k2, k3, k4⟩ := k
  rw [tt_rF, k4 50 (by omega) (by omega), q2, tt_cl]
  refine tt_mono (pp_setSecond (k0 := 61) (a1 := 52) (fr := 0) (ct := n.1) (A := 14) rfl rfl (by omega) (by omega) (by omega) (by omega)) (fun _ τ3 z => ?_)
  obtain ⟨z1, z2, z3, z4⟩ := z
  rw [tt_cl]
  refine tt_mono (pp_measure (k0 := 61) (n := o.1) (m := n.1) (E := pp_EL o n) (by rw [z2 3 (by decide)]; exact k1) z1 (by omega) (by omega) (fun i j hi hj => ?_)) (fun r τ4 y => ?_)
  · have e1 : τ3 62 i = τ1 51 i := by
      rw [z4 62 (by omega) (by omega), k3 i hi, Nat.zero_add]
    have e2 : τ3 63 j = τ1 52 j := by
      rw [z3 j hj, Nat.zero_add, k4 52 (by omega) (by omega)]
    show τ3 62 i = τ3 63 j ↔ _
    rw [e1, e2]
    exact q3 i j hi hj
  · rw [tt_rt]
    exact ⟨y.1, fun a ha => by rw [y.2.2 a (by omega), z4 a (by omega) (by omega), k4 a (by omega) (by omega), q4 a (by omega) (by omega) (by omega)]⟩
theorem pp_alike2 {τ : yy_T} {o n : pp_Ed} (h : pp_RM τ 114 0 o) (ho : pp_wfE o) (g : pp_RM τ 114 127 n) (hn : pp_wfE n) {i j : Nat} (hi : i < o.1) (hj : j < n.1) : mm_X10_areAlike_ (nI i) (nI j) τ = some (pp_b (pp_EL o n i j = true), τ) := by
  have e : mm_X10_areAlike 0 (nI i) 1 (nI j) τ = some (pp_b (o.2 i = n.2 j), τ) := pp_alike (w := 0) (v := 1) (by decide) (by decide) h ho g hn hi hj
  apply tt_of
  rw [mm_X10_areAlike_, tt_cle e, tt_ck, tt_rt]
  by_cases q : o.2 i = n.2 j
  · rw [pp_b_t q, pp_b_t (pp_EL_iff.mpr q)]
    exact ⟨Or.inr rfl, rfl, rfl⟩
  · rw [pp_b_f q, pp_b_f (fun z => q (pp_EL_iff.mp z))]
    exact ⟨Or.inl rfl, rfl, rfl⟩
set_option maxHeartbeats 1000000 in
theorem pp_mMost {τ : yy_T} {o n : pp_Ed} (h : pp_RM τ 114 0 o) (ho : pp_wfE o) (g : pp_RM τ 114 127 n) (hn : pp_wfE n) : mm_X10_most_19 (nI o.1 - 1) (fun _ => 0) τ = some (nI (pp_lc (pp_EL o n) o.1 n.1 0 0), τ) := by
  have o14 := ho.1
  have n14 := hn.1
  have eM : mm_X10_many 1 τ = some (nI n.1, τ) := pp_many (w := 1) (by decide) g
  apply tt_of
  simp only [mm_X10_most_19, tt_cl]
  refine tt_dnx (fun k (x : Nat → Int32) => (nI k - 1, x)) (fun k x τ1 => τ1 = τ ∧ k ≤ o.1 ∧ (∀ i j, k ≤ i → i ≤ o.1 → j ≤ n.1 → x (15 * i + j) = nI (pp_lc (pp_EL o n) o.1 n.1 i j)) ∧ ∀ z, z < 15 * k → x z = 0) (fun x τ1 hI => ?_) (fun k x τ1 hI => ?_) o.1 (fun _ => 0) τ ⟨rfl, Nat.le_refl _, fun i j a1 a2 a3 => by rw [pp_lc_out (by omega)]; rfl, fun _ _ => rfl⟩
  · obtain ⟨rfl, -, q1, q2⟩ := hI
    simp only [mm_X10_most_19b, tt_br, tt_rt]
    refine ⟨fun _ => ⟨_, by trivial, ?_⟩, fun q => absurd (by decide) q⟩
    simp only [mm_X10_most_150, tt_rL, tt_rt]
    exact ⟨by decide, q1 0 0 (by omega) (by omega) (by omega), by trivial⟩
  · obtain ⟨rfl, q0, q1, q2⟩ := hI
    have nk : ¬ nI k < 0 := nI_pos (by omega)
    simp only [nI_pred, mm_X10_most_19b, tt_br, tt_rt, tt_cle eM, mm_X10_most_31, tt_cl]
    refine ⟨fun q => absurd q nk, fun _ => ?_⟩
    refine tt_dnx (fun z (x : Nat → Int32) => (nI z - 1, x)) (fun z x τ2 => τ2 = τ1 ∧ z ≤ n.1 ∧ (∀ j, z ≤ j → j ≤ n.1 → x (15 * k + j) = nI (pp_lc (pp_EL o n) o.1 n.1 k j)) ∧ (∀ i j, k < i → i ≤ o.1 → j ≤ n.1 → x (15 * i + j) = nI (pp_lc (pp_EL o n) o.1 n.1 i j)) ∧ ∀ y, y < 15 * k + z → x y = 0) (fun x τ2 hI => ?_) (fun z x τ2 hI => ?_) n.1 x τ1 ⟨rfl, Nat.le_refl _, fun j a1 a2 => by rw [pp_lc_out (by omega), q2 _ (by omega)]; rfl, fun i j a1 a2 a3 => q1 i j (by omega) a2 a3, fun y hy => q2 y (by omega)⟩
    · obtain ⟨rfl, -, g1, g2, g3⟩ := hI
      simp only [mm_X10_most_31b, tt_br, tt_rt]
      refine ⟨fun _ => ⟨_, by trivial, ?_⟩, fun q => absurd (by decide) q⟩
      simp only [mm_X10_most_144, tt_rt]
      refine Or.inl ⟨x, by rw [Int32.sub_eq_add_neg], by trivial, by omega, fun i j a1 a2 a3 => ?_, fun z hz => g3 z (by omega)⟩
      by_cases e : i = k
      · subst e
        exact g1 j (by omega) a3
      · exact g2 i j (by omega) a2 a3
    · obtain ⟨rfl, g0, g1, g2, g3⟩ := hI
      have nz : ¬ nI z < 0 := nI_pos (by omega)
      have lin : k < o.1 ∧ z < n.1 := by omega
      have b1 := pp_lc_n (E := pp_EL o n) (n := o.1) (m := n.1) (i := k + 1) (j := z)
      have b2 := pp_lc_n (E := pp_EL o n) (n := o.1) (m := n.1) (i := k) (j := z + 1)
      have b3 := pp_lc_n (E := pp_EL o n) (n := o.1) (m := n.1) (i := k + 1) (j := z + 1)
      have r1 := g2 (k + 1) z (by omega) (by omega) (by omega)
      have r2 := g1 (z + 1) (by omega) (by omega)
      have r3 := g2 (k + 1) (z + 1) (by omega) (by omega) (by omega)
      rw [show 15 * (k + 1) + z = 15 * k + 15 + z by omega] at r1
      rw [show 15 * k + (z + 1) = 15 * k + z + 1 by omega] at r2
      rw [show 15 * (k + 1) + (z + 1) = 15 * k + 16 + z by omega] at r3
      have eA := pp_alike2 h ho g hn lin.1 lin.2
      have i1 : (15 : Int32) * nI k + 15 + nI z = nI (15 * k + 15 + z) := by
        rw [show (15 : Int32) = nI 15 by rfl, nI_mul, nI_add, nI_add]
      have i2 : (15 : Int32) * nI k + nI z + 1 = nI (15 * k + z + 1) := by
        rw [show (15 : Int32) = nI 15 by rfl, show (1 : Int32) = nI 1 by rfl, nI_mul, nI_add, nI_add]
      have i3 : (15 : Int32) * nI k + 16 + nI z = nI (15 * k + 16 + z) := by
        rw [show (15 : Int32) = nI 15 by rfl, show (16 : Int32) = nI 16 by rfl, nI_mul, nI_add, nI_add]
      have i4 : (15 : Int32) * nI k + nI z = nI (15 * k + z) := by
        rw [show (15 : Int32) = nI 15 by rfl, nI_mul, nI_add]
      have fin : ∀ v (Q : (Int32 × (Nat → Int32)) ⊕ (Nat → Int32) → yy_T → Prop), v = nI (pp_lc (pp_EL o n) o.1 n.1 k z) → (∀ x1, ((∀ j, z ≤ j → j ≤ n.1 → x1 (15 * k + j) = nI (pp_lc (pp_EL o n) o.1 n.1 k j)) ∧ (∀ i j, k < i → i ≤ o.1 → j ≤ n.1 → x1 (15 * i + j) = nI (pp_lc (pp_EL o n) o.1 n.1 i j)) ∧ ∀ y, y < 15 * k + z → x1 y = 0) → Q (.inl (nI z - 1, x1)) τ2) → tt (mm_X10_most_137 (nI k) (nI z) x v (nI (15 * k + z))) τ2 Q := by
        intro v Q hv hQ
        subst hv
        simp only [mm_X10_most_137, tt_wL, tt_rt]
        rw [nI_clamp (by omega), ← Int32.sub_eq_add_neg]
        refine ⟨pp_in (by omega) (by decide), hQ _ ⟨fun j a1 a2 => ?_, fun i j a1 a2 a3 => ?_, fun y hy => ?_⟩⟩
        · unfold upd
          by_cases e : j = z
          · rw [if_pos (by omega), e]
          · rw [if_neg (by omega)]
            exact g1 j (by omega) a2
        · unfold upd
          rw [if_neg (by omega)]
          exact g2 i j a1 a2 a3
        · unfold upd
          rw [if_neg (by omega)]
          exact g3 y (by omega)
      have step : ∀ v, v = nI (max (pp_lc (pp_EL o n) o.1 n.1 (k + 1) z) (pp_lc (pp_EL o n) o.1 n.1 k (z + 1))) → ∀ (Q : (Int32 × (Nat → Int32)) ⊕ (Nat → Int32) → yy_T → Prop), (∀ x1, ((∀ j, z ≤ j → j ≤ n.1 → x1 (15 * k + j) = nI (pp_lc (pp_EL o n) o.1 n.1 k j)) ∧ (∀ i j, k < i → i ≤ o.1 → j ≤ n.1 → x1 (15 * i + j) = nI (pp_lc (pp_EL o n) o.1 n.1 i j)) ∧ ∀ y, y < 15 * k + z → x1 y = 0) → Q (.inl (nI z - 1, x1)) τ2) → tt (mm_X10_most_83 (nI k) (nI z) x v) τ2 Q := by
        intro v hv Q hQ
        subst hv
        simp only [mm_X10_most_83, mm_X10_most_135, tt_cle eA, tt_br, tt_rL, pp_b_0, i3, i4]
        rw [nI_clamp (by omega), r3, nI_1, nI_leI (by omega) (by omega)]
        have lcE := pp_lc_in (E := pp_EL o n) (n := o.1) (m := n.1) lin
        refine ⟨fun q => fin _ _ ?_ hQ, fun q => ⟨pp_in (by omega) (by decide), fun q2 => fin _ _ ?_ hQ, fun q2 => ⟨pp_in (by omega) (by decide), fin _ _ ?_ hQ⟩⟩⟩
        · rw [pp_lc_N lin q]
        · rw [if_pos (Classical.not_not.mp q)] at lcE
          rw [lcE]
          congr 1
          omega
        · rw [pp_lc_E lin (Classical.not_not.mp q)]
      simp only [nI_pred, mm_X10_most_31b, tt_br, tt_rL, i1, i2]
      rw [nI_clamp (by omega), nI_clamp (by omega), r1, r2, nI_leI (by omega) (by omega)]
      refine ⟨fun q => absurd q nz, fun _ => ⟨pp_in (by omega) (by decide), pp_in (by omega) (by decide), fun q => ⟨pp_in (by omega) (by decide), step _ (by congr 1; omega) _ (fun x1 hx => Or.inl ⟨x1, rfl, rfl, by omega, hx⟩)⟩, fun q => ⟨pp_in (by omega) (by decide), step _ (by congr 1; omega) _ (fun x1 hx => Or.inl ⟨x1, rfl, rfl, by omega, hx⟩)⟩⟩⟩
section
variable {T : yy_T → pp_Ed → pp_Ed → Prop} {τ : yy_T}
theorem pp_op10 (hT : pp_TL T) (hI : pp_I T τ) : ∃ τ1, mm_L_10 τ = some ((), τ1) ∧ pp_I T τ1 := by
  have hI0 := hI
  obtain ⟨t, bt, o, n, f, h, hs, ⟨wo, wn, wh, wb⟩, ⟨c1, c2, c3⟩, m1, m2, m3⟩ := hI
  refine pp_asking (r := nI (pp_lc (pp_EL o n) o.1 n.1 0 0)) hT hI0 ?_ (fun τ1 k => ?_)
  · simp only [mm_X9_most]
    rw [tt_cl]
    refine tt_mono (pp_mostLines c3.1 wo c3.2.1 wn) (fun r τ1 q => ?_)
    rw [tt_rt]
    exact ⟨q.1, fun a ha => q.2 a (by omega)⟩
  · obtain ⟨u1, u2, u3, u4⟩ := pp_pre k m1 m2 m3
    have eM : mm_X10_many 0 (yy_up τ1 112 0 0) = some (nI o.1, yy_up τ1 112 0 0) := pp_many (w := 0) (by decide) u3.1
    simp only [mm_X10_most, tt_wF, tt_cle eM]
    rw [tt_eq (pp_mMost u3.1 wo u3.2.1 wn)]
    exact ⟨rfl, pp_fr.z0⟩
end
