/-! THE REFERENCE GOES INTO A RANGE: ends, anchors -/
def pp_MS (τ : yy_T) (o n : pp_Ed) (D : pp_D) (K : List (Nat × Nat)) : Prop := pp_RM τ 114 0 o ∧ pp_RM τ 114 127 n ∧ pp_DM τ D ∧ pp_RK D K
theorem pp_MS.of {τ τ1 : yy_T} {o n : pp_Ed} {D : pp_D} {K : List (Nat × Nat)} (h : pp_MS τ o n D K) (e : ∀ a, a ≠ 112 → τ1 a = τ a) : pp_MS τ1 o n D K := ⟨h.1.of (e _ (by decide)), h.2.1.of (e _ (by decide)), h.2.2.1.of (e _ (by decide)) (e _ (by decide)) (e _ (by decide)), h.2.2.2⟩
theorem pp_MS.couple {τ : yy_T} {i j : Nat} {o n : pp_Ed} {D : pp_D} {K : List (Nat × Nat)} (h : pp_MS τ o n D K) (hi : i < 14) (hj : j < 14) (hf : ∀ p ∈ K, p.1 ≠ i ∧ p.2 ≠ j) : tt (mm_X10_couples (nI i) (nI j) 0) τ (fun _ τ1 => pp_MS τ1 o n (pp_jn D 0 i j (-1)) ((i, j) :: K) ∧ ∀ a, a ≠ 117 → a ≠ 118 → τ1 a = τ a) := by
  obtain ⟨h1, h2, h3, h4⟩ := h
  refine tt_mono (pp_mCouple (as := 0) (v := -1) h3 hi hj (h4.2.2.2 i hi).1 (h4.2.2.2 j hj).2) (fun _ τ1 q => ?_)
  exact ⟨⟨h1.of (q.2 _ (by decide) (by decide)), h2.of (q.2 _ (by decide) (by decide)), q.1, h4.jn hf⟩, q.2⟩
/-- a range whose ends are being kept -/
def pp_ME (τ τ1 : yy_T) (o n : pp_Ed) (K : List (Nat × Nat)) (a b c d : Nat) (D1 : pp_D) (K1 : List (Nat × Nat)) (a1 b1 c1 d1 : Nat) : Prop :=
  pp_MS τ1 o n D1 K1 ∧ (a ≤ a1 ∧ a1 ≤ b1 ∧ b1 ≤ b ∧ c ≤ c1 ∧ c1 ≤ d1 ∧ d1 ≤ d) ∧ pp_Fr K1 a1 b1 c1 d1 ∧ (∀ p, (p ∈ K1 ∨ p ∈ pp_KK (pp_EL o n) (pp_EL o o) a1 b1 c1 d1) ↔ (p ∈ K ∨ p ∈ pp_KK (pp_EL o n) (pp_EL o o) a b c d)) ∧ pp_tr (pp_EL o n) a1 b1 c1 d1 = pp_tr (pp_EL o n) a b c d ∧ ∀ x, x ≠ 117 → x ≠ 118 → τ1 x = τ x
theorem pp_mHead {τ : yy_T} {a b c d : Nat} {o n : pp_Ed} {D : pp_D} {K : List (Nat × Nat)} {rec : Int32 → Int32 → Int32 → Int32 → Int32 → yy_M Unit} {N : Nat} {x5 : Int32} (wo : pp_wfE o) (wn : pp_wfE n) (S : pp_MS τ o n D K) (hb : b ≤ o.1) (hd : d ≤ n.1) (hab : a ≤ b) (hcd : c ≤ d) (hF : pp_Fr K a b c d) {Q : Unit → yy_T → Prop} (hQ : ∀ τ1 D1 K1 a1 c1, pp_ME τ τ1 o n K a b c d D1 K1 a1 b c1 d → (¬ (a1 < b ∧ c1 < d) ∨ ¬ pp_EL o n a1 c1 = true) → tt (mm_X10_goesInto_56 rec N x5 (nI a1) (nI b) (nI c1) (nI d)) τ1 Q) : tt (mm_X10_goesInto_13 rec N x5 (nI a) (nI b) (nI c) (nI d)) τ Q := by
  have o14 := wo.1
  have n14 := wn.1
  simp only [mm_X10_goesInto_13, tt_cl]
  refine tt_upx (b - a) (fun k (_ : Unit) => (nI (a + k), nI (c + k))) (fun k _ τ1 => a + k ≤ b ∧ c + k ≤ d ∧ ∃ D1 K1, pp_ME τ τ1 o n K a b c d D1 K1 (a + k) b (c + k) d) (fun k _ τ1 hk hI => ?_) 0 () τ (Nat.zero_le _) ⟨hab, hcd, D, K, S, by omega, hF, fun p => Iff.rfl, rfl, fun x _ _ => rfl⟩
  obtain ⟨ha, hc, D1, K1, i1, i3, i4, i5, i7, i9⟩ := hI
  simp only [mm_X10_goesInto_13b, tt_br, tt_rt]
  rw [nI_leI (by omega) (by omega), nI_leI (by omega) (by omega)]
  refine ⟨fun q => Or.inr ⟨(nI (a + k), nI (c + k)), by trivial, hQ τ1 D1 K1 (a + k) (c + k) ⟨i1, i3, i4, i5, i7, i9⟩ (Or.inl (by omega))⟩, fun q => ⟨fun q2 => Or.inr ⟨(nI (a + k), nI (c + k)), by trivial, hQ τ1 D1 K1 (a + k) (c + k) ⟨i1, i3, i4, i5, i7, i9⟩ (Or.inl (by omega))⟩, fun q2 => ?_⟩⟩
  rw [tt_cle (pp_alike2 i1.1 wo i1.2.1 wn (by omega) (by omega)), tt_br, tt_rt, pp_b_0]
  refine ⟨fun q3 => Or.inr ⟨(nI (a + k), nI (c + k)), by trivial, hQ τ1 D1 K1 (a + k) (c + k) ⟨i1, i3, i4, i5, i7, i9⟩ (Or.inr q3)⟩, fun q3 => ?_⟩
  have hE : pp_EL o n (a + k) (c + k) = true := Classical.not_not.mp q3
  rw [tt_cl]
  refine tt_mono (i1.couple (i := a + k) (j := c + k) (by omega) (by omega) (i4.ne (by omega) (by omega))) (fun _ τ2 z => ?_)
  obtain ⟨z1, z2⟩ := z
  rw [tt_rt]
  refine Or.inl ⟨by omega, (), by rw [nI_1, nI_1]; rfl, by omega, by omega, _, (a + k, c + k) :: K1, z1, by omega, (i4.sub (by omega) (Nat.le_refl _) (by omega) (Nat.le_refl _)).cons (by omega) (by omega), fun p => ?_, ?_, fun x x1 x2 => by rw [z2 x x1 x2]; exact i9 x x1 x2⟩
  · rw [← i5 p, pp_KK_h (a := a + k) (b := b) (c := c + k) (d := d) (by omega) (by omega) hE, List.mem_cons, List.mem_cons]
    exact ⟨fun y => y.elim (fun y => y.elim (fun y => Or.inr (Or.inl y)) Or.inl) (fun y => Or.inr (Or.inr y)), fun y => y.elim (fun y => Or.inl (Or.inr y)) (fun y => y.elim (fun y => Or.inl (Or.inl y)) Or.inr)⟩
  · rw [← i7, pp_tr_h (a := a + k) (b := b) (c := c + k) (d := d) (by omega) hE]
    rfl
theorem pp_mTail {τ τ0 : yy_T} {a b c d a1 c1 : Nat} {o n : pp_Ed} {D : pp_D} {K0 K : List (Nat × Nat)} {rec : Int32 → Int32 → Int32 → Int32 → Int32 → yy_M Unit} {N : Nat} {x5 : Int32} (wo : pp_wfE o) (wn : pp_wfE n) (hb : b ≤ o.1) (hd : d ≤ n.1) (S : pp_ME τ0 τ o n K0 a b c d D K a1 b c1 d) (hend : ¬ (a1 < b ∧ c1 < d) ∨ ¬ pp_EL o n a1 c1 = true) {Q : Unit → yy_T → Prop} (hQ : ∀ τ1 D1 K1 b1 d1, pp_ME τ0 τ1 o n K0 a b c d D1 K1 a1 b1 c1 d1 → (¬ (a1 < b1 ∧ c1 < d1) ∨ (¬ pp_EL o n a1 c1 = true ∧ ¬ pp_EL o n (b1 - 1) (d1 - 1) = true)) → tt (mm_X10_goesInto_103 rec N x5 (nI a1) (nI b1) (nI c1) (nI d1)) τ1 Q) : tt (mm_X10_goesInto_56 rec N x5 (nI a1) (nI b) (nI c1) (nI d)) τ Q := by
  have o14 := wo.1
  have n14 := wn.1
  have S2 := S.2.1
  simp only [mm_X10_goesInto_56, tt_cl]
  refine tt_upx (b - a1) (fun k (_ : Unit) => (nI (b - k), nI (d - k))) (fun k _ τ1 => k ≤ b ∧ k ≤ d ∧ a1 ≤ b - k ∧ c1 ≤ d - k ∧ (∃ D1 K1, pp_ME τ0 τ1 o n K0 a b c d D1 K1 a1 (b - k) c1 (d - k)) ∧ (¬ (a1 < b - k ∧ c1 < d - k) ∨ ¬ pp_EL o n a1 c1 = true)) (fun k _ τ1 hk hI => ?_) 0 () τ (Nat.zero_le _) ⟨Nat.zero_le _, Nat.zero_le _, by omega, by omega, ⟨D, K, S⟩, hend⟩
  obtain ⟨k1, k2, k3, k4, ⟨D1, K1, i1, i3, i4, i5, i7, i9⟩, hend2⟩ := hI
  simp only [mm_X10_goesInto_56b, tt_br, tt_rt]
  rw [nI_leI (by omega) (by omega), nI_leI (by omega) (by omega)]
  have stop : (¬ (a1 < b - k ∧ c1 < d - k) ∨ (¬ pp_EL o n a1 c1 = true ∧ ¬ pp_EL o n (b - k - 1) (d - k - 1) = true)) → tt (mm_X10_goesInto_103 rec N x5 (nI a1) (nI (b - k)) (nI c1) (nI (d - k))) τ1 Q := fun h => hQ τ1 D1 K1 (b - k) (d - k) ⟨i1, i3, i4, i5, i7, i9⟩ h
  refine ⟨fun q => Or.inr ⟨(nI (b - k), nI (d - k)), by trivial, stop (Or.inl (by omega))⟩, fun q => ⟨fun q2 => Or.inr ⟨(nI (b - k), nI (d - k)), by trivial, stop (Or.inl (by omega))⟩, fun q2 => ?_⟩⟩
  have hE1 : ¬ pp_EL o n a1 c1 = true := by
    rcases hend2 with z | z
    · exact absurd (by omega) z
    · exact z
  have s1 : nI (b - k) - 1 = nI (b - (k + 1)) := by rw [show (1 : Int32) = nI 1 by rfl, nI_sub (by omega)]; congr 1
  have s2 : nI (d - k) - 1 = nI (d - (k + 1)) := by rw [show (1 : Int32) = nI 1 by rfl, nI_sub (by omega)]; congr 1
  have s3 : nI (b - k) + (-1) = nI (b - (k + 1)) := by rw [← Int32.sub_eq_add_neg]; exact s1
  have s4 : nI (d - k) + (-1) = nI (d - (k + 1)) := by rw [← Int32.sub_eq_add_neg]; exact s2
  simp only [s1, s2, s3, s4]
  rw [tt_cle (pp_alike2 i1.1 wo i1.2.1 wn (by omega) (by omega)), tt_br, tt_rt, pp_b_0]
  refine ⟨fun q3 => Or.inr ⟨(nI (b - k), nI (d - k)), by trivial, stop (Or.inr ⟨hE1, q3⟩)⟩, fun q3 => ?_⟩
  have hE2 : pp_EL o n (b - k - 1) (d - k - 1) = true := Classical.not_not.mp q3
  rw [tt_cl]
  refine tt_mono (i1.couple (i := b - (k + 1)) (j := d - (k + 1)) (by omega) (by omega) (i4.ne (by omega) (by omega))) (fun _ τ2 z => ?_)
  obtain ⟨z1, z2⟩ := z
  rw [tt_rt]
  refine Or.inl ⟨by omega, (), by trivial, by omega, by omega, by omega, by omega, ⟨_, (b - (k + 1), d - (k + 1)) :: K1, z1, by omega, (i4.sub (Nat.le_refl _) (by omega) (Nat.le_refl _) (by omega)).cons (by omega) (by omega), fun p => ?_, ?_, fun x x1 x2 => by rw [z2 x x1 x2]; exact i9 x x1 x2⟩, Or.inr hE1⟩
  · rw [← i5 p, pp_KK_t (a := a1) (b := b - k) (c := c1) (d := d - k) (by omega) (by omega) hE1 hE2, List.mem_cons, List.mem_cons]
    exact ⟨fun y => y.elim (fun y => y.elim (fun y => Or.inr (Or.inl y)) Or.inl) (fun y => Or.inr (Or.inr y)), fun y => y.elim (fun y => Or.inl (Or.inr y)) (fun y => y.elim (fun y => Or.inl (Or.inl y)) Or.inr)⟩
  · rw [← i7, pp_tr_t (a := a1) (b := b - k) (c := c1) (d := d - k) (by omega) hE1 hE2]
    rfl
theorem pp_alike0 {τ : yy_T} {o : pp_Ed} (h : pp_RM τ 114 0 o) (ho : pp_wfE o) {i j : Nat} (hi : i < o.1) (hj : j < o.1) : mm_X10_areAlike 0 (nI i) 0 (nI j) τ = some (pp_b (pp_EL o o i j = true), τ) := by
  have e : mm_X10_areAlike 0 (nI i) 0 (nI j) τ = some (pp_b (o.2 i = o.2 j), τ) := pp_alike (w := 0) (v := 0) (by decide) (by decide) h ho h ho hi hj
  rw [e]
  by_cases q : o.2 i = o.2 j
  · rw [pp_b_t q, pp_b_t (pp_EL_iff.mpr q)]
  · rw [pp_b_f q, pp_b_f (fun z => q (pp_EL_iff.mp z))]
theorem pp_anchorOf {τ : yy_T} {o n : pp_Ed} (ho : pp_RM τ 114 0 o) (wo : pp_wfE o) (hn : pp_RM τ 114 127 n) (wn : pp_wfE n) {a b c d k : Nat} (hb : b ≤ o.1) (hd : d ≤ n.1) (hak : a ≤ k) (hkb : k < b) (hcd : c ≤ d) : mm_X10_anchorOf (nI k) (nI a) (nI b) (nI c) (nI d) τ = some (pp_i (pp_AA o n a b c d k), τ) := by
  have o14 := wo.1
  have n14 := wn.1
  have hself : pp_EL o o k k = true := pp_EL_iff.mpr rfl
  have once := pp_on_once (p := pp_EL o o k) hak hkb hself
  apply tt_of
  simp only [mm_X10_anchorOf, mm_X10_anchorOf_3, tt_cl]
  refine tt_up b (fun i τ1 => τ1 = τ ∧ a ≤ i ∧ ∀ l, a ≤ l → l < i → l ≠ k → ¬ pp_EL o o k l = true) (fun i τ1 hi hI => ?_) a τ (by omega) ⟨rfl, Nat.le_refl _, fun l l1 l2 => by omega⟩
  obtain ⟨rfl, i1, i2⟩ := hI
  simp only [mm_X10_anchorOf_3b, tt_br, tt_rt]
  rw [nI_leI (by omega) (by omega), nI_eq (by omega) (by omega)]
  refine ⟨fun q => Or.inr ⟨.inl (), by trivial, ?_⟩, fun q => ⟨fun q2 => ?_, fun q2 => ?_⟩⟩
  · have on1 : ¬ pp_on (pp_EL o o k) a b 0 = 0 := fun z => by
      obtain ⟨l, l1, l2, l3, l4⟩ := once.mp z
      exact i2 l l1 (by omega) l3 l4
    have hA : pp_AA o n a b c d k = pp_on (pp_EL o n k) c d 0 := by
      unfold pp_AA pp_A
      by_cases z : pp_on (pp_EL o n k) c d 0 = 0
      · rw [if_pos z, z]
      · rw [if_neg z, if_neg on1]
    rw [hA]
    simp only [Sum.elim, mm_X10_anchorOf_35, mm_X10_anchorOf_42, tt_cl]
    refine tt_upx 14 (fun k (acc : Nat) => (pp_i acc, nI k)) (fun l acc τ2 => τ2 = τ1 ∧ c ≤ l ∧ acc ≤ 14 ∧ pp_on (pp_EL o n k) l d acc = pp_on (pp_EL o n k) c d 0) (fun l acc τ2 hl hI => ?_) c 0 τ1 (by omega) ⟨rfl, Nat.le_refl _, by omega, rfl⟩
    obtain ⟨rfl, j1, j2, j3⟩ := hI
    simp only [mm_X10_anchorOf_42b, tt_br, tt_rt]
    rw [nI_leI (by omega) (by omega)]
    refine ⟨fun q => Or.inr ⟨.inl (pp_i acc), by trivial, ?_⟩, fun q => ?_⟩
    · simp only [mm_X10_anchorOf_80, tt_rt]
      rw [pp_on_e (by omega)] at j3
      exact ⟨by rw [j3], by trivial⟩
    · rw [tt_cle (pp_alike2 ho wo hn wn (by omega) (by omega)), tt_br, tt_br, pp_b_0, pp_i_0 j2]
      refine ⟨fun z => ?_, fun z => ⟨fun z2 => ?_, fun z2 => ?_⟩⟩
      · simp only [mm_X10_anchorOf_74, tt_rt]
        refine Or.inl ⟨by omega, acc, by rw [nI_1], by trivial, by omega, j2, ?_⟩
        rw [pp_on_n (by omega) z] at j3
        exact j3
      · simp only [mm_X10_anchorOf_74, tt_rt]
        refine Or.inl ⟨by omega, l + 1, by rw [pp_i_s, nI_1], by trivial, by omega, by omega, ?_⟩
        rw [z2, pp_on_1 (by omega) (Classical.not_not.mp z)] at j3
        exact j3
      · rw [tt_rt]
        refine Or.inr ⟨.inr (), by trivial, ?_⟩
        simp only [mm_X10_anchorOf_68, tt_rt]
        rw [pp_on_2 (by omega) (Classical.not_not.mp z) z2] at j3
        rw [← j3]
        exact ⟨rfl, by trivial⟩
  · simp only [mm_X10_anchorOf_29, tt_rt]
    refine Or.inl ⟨by omega, by rw [nI_1], by trivial, by omega, fun l l1 l2 l3 => i2 l l1 (by omega) l3⟩
  · rw [tt_cle (pp_alike0 ho wo (by omega) (by omega)), tt_br, pp_b_0]
    refine ⟨fun z => ?_, fun z => ?_⟩
    · simp only [mm_X10_anchorOf_29, tt_rt]
      refine Or.inl ⟨by omega, by rw [nI_1], by trivial, by omega, fun l l1 l2 l3 => ?_⟩
      by_cases e : l = i
      · rw [e]
        exact z
      · exact i2 l l1 (by omega) l3
    · rw [tt_rt]
      refine Or.inr ⟨.inr (), by trivial, ?_⟩
      have on0 : pp_on (pp_EL o o k) a b 0 = 0 := once.mpr ⟨i, i1, by omega, q2, Classical.not_not.mp z⟩
      have hA : pp_AA o n a b c d k = 0 := by
        unfold pp_AA pp_A
        by_cases z : pp_on (pp_EL o n k) c d 0 = 0
        · rw [if_pos z]
        · rw [if_neg z, if_pos on0]
      rw [hA]
      simp only [Sum.elim, mm_X10_anchorOf_27, tt_rt]
      exact ⟨rfl, by trivial⟩
theorem pp_i_t {x : Nat} (h : x ≤ 14) : (pp_i x).toInt = (x : Int) - 1 := by
  unfold pp_i
  by_cases e : x = 0
  · rw [if_pos e, e]
    rfl
  · rw [if_neg e, nI_toInt (by omega)]
    omega
theorem pp_i_lt {x y : Nat} (hx : x ≤ 14) (hy : y ≤ 14) : pp_i x < pp_i y ↔ x < y := by
  rw [Int32.lt_iff_toInt_lt, pp_i_t hx, pp_i_t hy]
  omega
theorem pp_i_le {x y : Nat} (hx : x ≤ 14) (hy : y ≤ 14) : pp_i x ≤ pp_i y ↔ x ≤ y := by
  rw [Int32.le_iff_toInt_le, pp_i_t hx, pp_i_t hy]
  omega
/-- the run from a line on, 0 where there is no anchor -/
def pp_rl (A : Nat → Nat) (b k : Nat) : Nat := if A k = 0 then 0 else pp_G A b (A k) (k + 1) + 1
def pp_GL (A : Nat → Nat) (b i0 : Nat) (g10 g11 : Nat → Int32) : Prop := ∀ k, i0 ≤ k → k < b → g10 k = pp_i (A k) ∧ g11 k = nI (pp_rl A b k)
theorem pp_rl_b {A : Nat → Nat} {b k : Nat} : pp_rl A b k ≤ b + 1 := by
  have := pp_G_b (A := A) (b := b) (x := A k) (i := k + 1)
  unfold pp_rl
  split <;> omega
theorem pp_G_rl {A : Nat → Nat} {b k : Nat} (h : k < b) : pp_G A b 0 k = max (pp_rl A b k) (pp_G A b 0 (k + 1)) := by
  unfold pp_rl
  by_cases e : A k = 0
  · rw [if_pos e, pp_G_n h (by omega)]
    omega
  · rw [if_neg e, pp_G_s h (by omega)]
/-- the anchors and runs of a range -/
theorem pp_mRuns {τ : yy_T} {o n : pp_Ed} {a b c d : Nat} {rec : Int32 → Int32 → Int32 → Int32 → Int32 → yy_M Unit} {N : Nat} {x5 : Int32} (ho : pp_RM τ 114 0 o) (wo : pp_wfE o) (hn : pp_RM τ 114 127 n) (wn : pp_wfE n) (hb : b ≤ o.1) (hd : d ≤ n.1) (hab : a ≤ b) (hcd : c ≤ d) {Q : Unit → yy_T → Prop} (hQ : ∀ g10 g11, pp_GL (pp_AA o n a b c d) b a g10 g11 → tt (mm_X10_goesInto_275 rec N x5 (nI a) (nI b) (nI c) (nI d) (nI (pp_G (pp_AA o n a b c d) b 0 a)) (nI (pp_ct (pp_AA o n a b c d) b a)) g10 g11) τ Q) : tt (mm_X10_goesInto_103 rec N x5 (nI a) (nI b) (nI c) (nI d)) τ Q := by
  have o14 := wo.1
  have n14 := wn.1
  have an : ∀ k, a ≤ k → k < b → mm_X10_anchorOf (nI k) (nI a) (nI b) (nI c) (nI d) τ = some (pp_i (pp_AA o n a b c d k), τ) := fun k k1 k2 => pp_anchorOf ho wo hn wn hb hd k1 k2 hcd
  have hA : ∀ k, pp_AA o n a b c d k ≤ 14 := fun k => by
    by_cases e : pp_AA o n a b c d k = 0
    · omega
    · have := (pp_A_in e).2
      unfold pp_AA
      omega
  generalize pp_AA o n a b c d = A at *
  simp only [mm_X10_goesInto_103, mm_X10_goesInto_127, tt_cl]
  have s0 : pp_G A b 0 (a + (b - a)) = 0 := pp_G_e (by omega)
  have s1 : pp_ct A b (a + (b - a)) = 0 := pp_ct_e (by omega)
  suffices h : tt (yy_lp (fun (w : Int32 × Int32 × Int32 × (Nat → Int32) × (Nat → Int32)) => mm_X10_goesInto_127b rec N x5 (nI a) (nI b) (nI c) (nI d) w.1 w.2.1 w.2.2.1 w.2.2.2.1 w.2.2.2.2) (nI (pp_G A b 0 (a + (b - a))), nI (pp_ct A b (a + (b - a))), nI (a + (b - a)) - 1, (fun _ => 0), (fun _ => 0))) τ (fun w τ1 => tt (mm_X10_goesInto_275 rec N x5 (nI a) (nI b) (nI c) (nI d) w.1 w.2.1 w.2.2.1 w.2.2.2) τ1 Q) by
    rw [s0, s1, show a + (b - a) = b by omega] at h
    exact h
  refine tt_dnx (fun m (x : (Nat → Int32) × (Nat → Int32)) => (nI (pp_G A b 0 (a + m)), nI (pp_ct A b (a + m)), nI (a + m) - 1, x.1, x.2)) (fun m x τ1 => τ1 = τ ∧ a + m ≤ b ∧ pp_GL A b (a + m) x.1 x.2) (fun x τ1 hI => ?_) (fun m x τ1 hI => ?_) (b - a) (fun _ => 0, fun _ => 0) τ ⟨rfl, by omega, fun k k1 k2 => by omega⟩
  · obtain ⟨rfl, -, q1⟩ := hI
    simp only [mm_X10_goesInto_127b, tt_br, tt_rt]
    rw [pp_m1 (by omega) (by omega)]
    exact ⟨fun _ => ⟨_, rfl, hQ _ _ q1⟩, fun q => absurd (by omega) q⟩
  · obtain ⟨rfl, q0, q1⟩ := hI
    obtain ⟨g10, g11⟩ := x
    have q1 : pp_GL A b (a + m + 1) g10 g11 := q1
    have kk : (nI (a + m)).toNatClampNeg = a + m := nI_clamp (by omega)
    have ik : yy_in (nI (a + m)) 14 = true := pp_in (by omega) (by decide)
    have pr : nI (a + (m + 1)) - 1 = nI (a + m) := by rw [show (1 : Int32) = nI 1 by rfl, nI_sub (by omega)]; congr 1
    have lt : ¬ nI (a + m) < nI a := by rw [nI_ltI (by omega) (by omega)]; omega
    have gb := pp_G_b (A := A) (b := b) (x := 0) (i := a + m + 1)
    have cb := pp_ct_le (A := A) (b := b) _ (a + m + 1) (Nat.le_refl _)
    have G0 := pp_G_rl (A := A) (b := b) (k := a + m) (by omega)
    have C0 := pp_ct_i (A := A) (b := b) (i := a + m) (by omega)
    have rb := pp_rl_b (A := A) (b := b) (k := a + m)
    have hAk := hA (a + m)
    show tt (mm_X10_goesInto_127b rec N x5 (nI a) (nI b) (nI c) (nI d) (nI (pp_G A b 0 (a + m + 1))) (nI (pp_ct A b (a + m + 1))) (nI (a + (m + 1)) - 1) g10 g11) τ1 _
    rw [pr]
    generalize hk : a + m = k at *
    have u10 : upd g10 k (pp_i (A k)) k = pp_i (A k) := by simp [upd]
    simp only [mm_X10_goesInto_127b, tt_br, lt, false_implies, not_false_iff, true_implies, true_and]
    rw [tt_cle (an k (by omega) (by omega))]
    simp only [tt_wL, tt_rL, tt_br, kk, ik, true_and, u10]
    rw [pp_i_0 hAk]
    -- the end of the round
    have done : ∀ h11 : Nat → Int32, h11 k = nI (pp_rl A b k) → (∀ l, k + 1 ≤ l → l < b → h11 l = nI (pp_rl A b l)) → ∀ ct : Nat, ct = pp_ct A b k → tt (mm_X10_goesInto_252 rec N x5 (nI a) (nI b) (nI c) (nI d) (nI (pp_G A b 0 (k + 1))) (nI ct) (nI k) (upd g10 k (pp_i (A k))) h11) τ1 (fun y τ2 => (∃ x1 : (Nat → Int32) × (Nat → Int32), y = .inl (nI (pp_G A b 0 k), nI (pp_ct A b k), nI k - 1, x1.1, x1.2) ∧ τ2 = τ1 ∧ k ≤ b ∧ pp_GL A b k x1.1 x1.2) ∨ ∃ r, y = .inr r ∧ tt (mm_X10_goesInto_275 rec N x5 (nI a) (nI b) (nI c) (nI d) r.1 r.2.1 r.2.2.1 r.2.2.2) τ2 Q) := by
      intro h11 e1 e2 ct ect
      subst ect
      simp only [mm_X10_goesInto_252, mm_X10_goesInto_269, tt_rL, tt_br, tt_rt, kk, ik, true_and, e1]
      rw [nI_leI (by omega) (by omega), ← Int32.sub_eq_add_neg]
      have GL : pp_GL A b k (upd g10 k (pp_i (A k))) h11 := fun l l1 l2 => by
        by_cases e : l = k
        · rw [e]
          exact ⟨u10, e1⟩
        · refine ⟨?_, e2 l (by omega) l2⟩
          unfold upd
          rw [if_neg e]
          exact (q1 l (by omega) l2).1
      refine ⟨fun z => Or.inl ⟨(upd g10 k (pp_i (A k)), h11), ?_, by omega, GL⟩, fun z => Or.inl ⟨(upd g10 k (pp_i (A k)), h11), ?_, by omega, GL⟩⟩
      · rw [G0, Nat.max_eq_right (by omega)]
      · rw [G0, Nat.max_eq_left (by omega)]
    refine ⟨fun z => ?_, fun z => ?_⟩
    · have rl0 : pp_rl A b k = 0 := by unfold pp_rl; rw [if_pos z]
      simp only [mm_X10_goesInto_171, mm_X10_goesInto_184, tt_wL, tt_rL, tt_br, kk, ik, true_and, u10]
      rw [pp_i_0 hAk]
      refine ⟨fun _ => ?_, fun z2 => absurd z z2⟩
      simp only [mm_X10_goesInto_190, tt_cl]
      refine ⟨upd g11 k 0, τ1, ?_, done (upd g11 k 0) (by rw [rl0]; simp [upd]; rfl) (fun l l1 l2 => ?_) _ (by rw [C0, if_pos z]; omega)⟩
      · rw [yy_lp_eq]
        have e : mm_X10_goesInto_190b rec N x5 (nI a) (nI b) (nI c) (nI d) (nI (pp_G A b 0 (k + 1))) (nI (pp_ct A b (k + 1))) (nI k) (nI k + 1) (upd g10 k (pp_i (A k))) (upd g11 k 0) τ1 = some (.inr (upd g11 k 0), τ1) := by
          apply tt_of
          simp only [mm_X10_goesInto_190b, tt_br, tt_rL, tt_rt, kk, ik, true_and, u10]
          refine ⟨fun _ => trivial, fun _ => ⟨fun _ => trivial, fun z2 => absurd ((pp_i_0 hAk).mpr z) z2⟩⟩
        simp only [e]
      · unfold upd
        rw [if_neg (by omega)]
        exact (q1 l l1 l2).2
    · have rl1 : pp_rl A b k = pp_G A b (A k) (k + 1) + 1 := by unfold pp_rl; rw [if_neg z]
      have gk := pp_G_b (A := A) (b := b) (x := A k) (i := k + 1)
      simp only [mm_X10_goesInto_171, mm_X10_goesInto_184, tt_wL, tt_rL, tt_br, kk, ik, true_and, u10]
      rw [pp_i_0 hAk]
      refine ⟨fun z2 => absurd z2 z, fun _ => ?_⟩
      simp only [mm_X10_goesInto_190, tt_cl]
      rw [nI_1, nI_1]
      refine tt_upx b (fun i (h11 : Nat → Int32) => (nI i, h11)) (fun i h11 τ2 => τ2 = τ1 ∧ k + 1 ≤ i ∧ (∃ acc, (1 ≤ acc ∧ acc ≤ b + 1) ∧ h11 k = nI acc ∧ max acc (pp_G A b (A k) i + 1) = pp_G A b (A k) (k + 1) + 1) ∧ ∀ l, k + 1 ≤ l → l < b → h11 l = nI (pp_rl A b l)) (fun i h11 τ2 hi hI => ?_) (k + 1) (upd g11 k 1) τ1 (by omega) ⟨rfl, Nat.le_refl _, ⟨1, by omega, by simp [upd]; rfl, by omega⟩, fun l l1 l2 => ?_⟩
      · obtain ⟨rfl, m0, ⟨acc, m1, m2, m3⟩, m4⟩ := hI
        simp only [mm_X10_goesInto_190b, tt_br, tt_rL, tt_rt, kk, ik, true_and, u10]
        rw [nI_leI (by omega) (by omega), pp_i_0 hAk]
        refine ⟨fun q => Or.inr ⟨h11, by trivial, ?_⟩, fun q => ⟨fun z2 => absurd z2 z, fun _ => ?_⟩⟩
        · rw [pp_G_e (by omega)] at m3
          exact done h11 (by rw [rl1, m2]; congr 1; omega) m4 _ (by rw [C0, if_neg z]; omega)
        · have ii : (nI i).toNatClampNeg = i := nI_clamp (by omega)
          have ini : yy_in (nI i) 14 = true := pp_in (by omega) (by decide)
          have hAi := hA i
          have v10 : upd g10 k (pp_i (A k)) i = pp_i (A i) := by
            unfold upd
            rw [if_neg (by omega)]
            exact (q1 i m0 (by omega)).1
          have v11 := m4 i m0 (by omega)
          have rbi := pp_rl_b (A := A) (b := b) (k := i)
          simp only [ii, ini, true_and, v10, v11, m2]
          rw [pp_i_le hAi hAk, nI_1, nI_leI (by omega) (by omega)]
          have skip : (∀ acc1 : Nat, acc1 = acc → max acc1 (pp_G A b (A k) (i + 1) + 1) = pp_G A b (A k) (k + 1) + 1) → tt (mm_X10_goesInto_246 rec N x5 (nI a) (nI b) (nI c) (nI d) (nI (pp_G A b 0 (k + 1))) (nI (pp_ct A b (k + 1) + 1)) (nI k) (nI i) (upd g10 k (pp_i (A k))) h11) τ2 (fun y τ1 => (i < b ∧ ∃ x1 : Nat → Int32, y = .inl (nI (i + 1), x1) ∧ τ1 = τ2 ∧ k + 1 ≤ i + 1 ∧ (∃ acc, (1 ≤ acc ∧ acc ≤ b + 1) ∧ x1 k = nI acc ∧ max acc (pp_G A b (A k) (i + 1) + 1) = pp_G A b (A k) (k + 1) + 1) ∧ ∀ l, k + 1 ≤ l → l < b → x1 l = nI (pp_rl A b l)) ∨ ∃ r, y = .inr r ∧ tt (mm_X10_goesInto_252 rec N x5 (nI a) (nI b) (nI c) (nI d) (nI (pp_G A b 0 (k + 1))) (nI (pp_ct A b (k + 1) + 1)) (nI k) (upd g10 k (pp_i (A k))) r) τ1 (fun y τ3 => (∃ x1 : (Nat → Int32) × (Nat → Int32), y = .inl (nI (pp_G A b 0 k), nI (pp_ct A b k), nI k - 1, x1.1, x1.2) ∧ τ3 = τ2 ∧ k ≤ b ∧ pp_GL A b k x1.1 x1.2) ∨ ∃ r, y = .inr r ∧ tt (mm_X10_goesInto_275 rec N x5 (nI a) (nI b) (nI c) (nI d) r.1 r.2.1 r.2.2.1 r.2.2.2) τ3 Q)) := by
            intro hacc
            simp only [mm_X10_goesInto_246, tt_rt]
            exact Or.inl ⟨by omega, h11, by rw [nI_1], by trivial, by omega, ⟨acc, m1, m2, hacc acc rfl⟩, m4⟩
          refine ⟨fun y => skip (fun acc1 e => ?_), fun y => ⟨fun y2 => skip (fun acc1 e => ?_), fun y2 => ?_⟩⟩
          · rw [e, ← pp_G_n (by omega) (by omega)]
            exact m3
          · have rli : pp_rl A b i = pp_G A b (A i) (i + 1) + 1 := by unfold pp_rl; rw [if_neg (by omega)]
            have Gs := pp_G_s (A := A) (b := b) (x := A k) (i := i) (by omega) (by omega)
            rw [e]
            omega
          · have rli : pp_rl A b i = pp_G A b (A i) (i + 1) + 1 := by unfold pp_rl; rw [if_neg (by omega)]
            have Gs := pp_G_s (A := A) (b := b) (x := A k) (i := i) (by omega) (by omega)
            have gi := pp_G_b (A := A) (b := b) (x := A i) (i := i + 1)
            simp only [tt_wL, kk, ik, true_and, mm_X10_goesInto_246, tt_rt]
            refine Or.inl ⟨by omega, upd h11 k (nI (pp_rl A b i + 1)), by rw [nI_1], by omega, ⟨pp_rl A b i + 1, by omega, by simp [upd], by omega⟩, fun l l1 l2 => ?_⟩
            unfold upd
            rw [if_neg (by omega)]
            exact m4 l l1 l2
      · unfold upd
        rw [if_neg (by omega)]
        exact (q1 l l1 l2).2
