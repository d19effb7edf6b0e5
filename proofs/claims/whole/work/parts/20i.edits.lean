/-! LINES SET, PUT IN, TAKEN OUT, ARRANGED: the class -/
/-- a loop that counts down to 0, and on to -1 -/
theorem tt_dn {R : Type} {b : Int32 → yy_M (Int32 ⊕ R)} {Q : R → yy_T → Prop} (I : Nat → yy_T → Prop) (s0 : ∀ τ, I 0 τ → tt (b (-1)) τ (fun y τ1 => ∃ r, y = .inr r ∧ Q r τ1)) (step : ∀ k τ, I (k + 1) τ → tt (b (nI k)) τ (fun y τ1 => (y = .inl (nI k + -1) ∧ I k τ1) ∨ ∃ r, y = .inr r ∧ Q r τ1)) : ∀ k τ0, I k τ0 → tt (yy_lp b (nI k - 1)) τ0 Q := by
  intro k
  induction k with
  | zero =>
    intro τ hI
    obtain ⟨y, τ1, hb, r, rfl, hr⟩ := s0 τ hI
    exact ⟨r, τ1, by rw [show nI 0 - 1 = (-1 : Int32) by rfl, yy_lp_eq, hb], hr⟩
  | succ k ih =>
    intro τ hI
    rw [nI_pred]
    obtain ⟨y, τ1, hb, hq⟩ := step k τ hI
    rcases hq with ⟨rfl, hI1⟩ | ⟨r, rfl, hr⟩
    · obtain ⟨r, τ2, h1, h2⟩ := ih τ1 hI1
      exact ⟨r, τ2, by rw [yy_lp_eq, hb]; show yy_lp b (nI k + -1) τ1 = _; rw [← Int32.sub_eq_add_neg]; exact h1, h2⟩
    · exact ⟨r, τ1, by rw [yy_lp_eq, hb], hr⟩
/-- a loop that counts down to lo -/
theorem tt_dl {R : Type} {b : Int32 → yy_M (Int32 ⊕ R)} {Q : R → yy_T → Prop} (lo : Nat) (I : Nat → yy_T → Prop) (s0 : ∀ τ, I lo τ → tt (b (nI lo)) τ (fun y τ1 => ∃ r, y = .inr r ∧ Q r τ1)) (step : ∀ k τ, lo ≤ k → I (k + 1) τ → tt (b (nI (k + 1))) τ (fun y τ1 => (y = .inl (nI (k + 1) + -1) ∧ I k τ1) ∨ ∃ r, y = .inr r ∧ Q r τ1)) : ∀ k τ0, lo ≤ k → I k τ0 → tt (yy_lp b (nI k)) τ0 Q := by
  intro k
  induction k with
  | zero =>
    intro τ hl hI
    have : lo = 0 := by omega
    subst this
    obtain ⟨y, τ1, hb, r, rfl, hr⟩ := s0 τ hI
    exact ⟨r, τ1, by rw [yy_lp_eq, hb], hr⟩
  | succ k ih =>
    intro τ hl hI
    by_cases e : lo = k + 1
    · subst e
      obtain ⟨y, τ1, hb, r, rfl, hr⟩ := s0 τ hI
      exact ⟨r, τ1, by rw [yy_lp_eq, hb], hr⟩
    · obtain ⟨y, τ1, hb, hq⟩ := step k τ (by omega) hI
      rcases hq with ⟨rfl, hI1⟩ | ⟨r, rfl, hr⟩
      · obtain ⟨r, τ2, h1, h2⟩ := ih τ1 (by omega) hI1
        exact ⟨r, τ2, by rw [yy_lp_eq, hb]; show yy_lp b (nI (k + 1) + -1) τ1 = _; rw [show (-1 : Int32) = -nI 1 by rfl, nI_neg1]; exact h1, h2⟩
      · exact ⟨r, τ1, by rw [yy_lp_eq, hb], hr⟩
theorem pp_hasN {τ : yy_T} {c n : Nat} (h : τ c 2 = nI n) (hn : n ≤ 14) (i : Nat) (hi : i < 2 ^ 31) : mm_X2_has c (nI i) τ = some (pp_b (i < n), τ) := by
  apply tt_of
  simp only [mm_X2_has, tt_rF, tt_br, tt_wA, tt_rA, tt_wF, tt_rt, tt_ck, tt_cl, tt_rL, tt_wL, tt_cp, yy_upx, yy_rox, if_true, if_false, reduceIte, Nat.reduceEqDiff, and_true, true_and, h]
  simp (disch := omega) only [nI_lit, nI_add, nI_mul, nI_ltI, nI_leI, nI_eq, yy_in_nI, nI_clamp]
  refine ⟨fun h => by omega, fun _ => ⟨fun h => (pp_b_f (by omega)).symm, fun h => (pp_b_t (by omega)).symm⟩⟩
theorem pp_setLine {τ : yy_T} {c d n m i j : Nat} {l : pp_L} (hc : τ c 2 = nI n) (hd : τ d 2 = nI m) (hn : n ≤ 14) (hm : m ≤ 14) (hi : i < n) (hj : j < m) (hl : pp_CL τ d j l) (h8 : l.length ≤ 8) (hcd : c = d ∨ c + 2 < d ∨ d + 2 < c) : tt (mm_X2_setLine c (nI i) d (nI j)) τ (fun _ τ1 => pp_CL τ1 c i l ∧ (∀ i1 l1, i1 ≠ i → l1.length ≤ 8 → pp_CL τ c i1 l1 → pp_CL τ1 c i1 l1) ∧ ∀ a, a ≠ c + 1 → a ≠ c + 2 → τ1 a = τ a) := by
  simp only [mm_X2_setLine, tt_cl, tt_eq (pp_hasN hc hn i (by omega)), tt_eq (pp_hasN hd hm j (by omega)), tt_br, pp_b_0, tt_rt, tt_rA, tt_wA, tt_cp]
  refine ⟨fun q => absurd hi q, fun _ => ⟨fun q => absurd hj q, fun _ => ⟨pp_in (by omega) (by decide), pp_in (by omega) (by decide), pp_in (by omega) (by decide), ?_⟩⟩⟩
  rw [show (8 : Int32) = nI 8 by rfl, nI_mul, nI_mul, nI_clamp (show i < 2 ^ 31 by omega), nI_clamp (show j < 2 ^ 31 by omega), hl.1]
  have e1 : yy_up τ (c + 1) i (nI l.length) (c + 1) i = nI l.length := by simp [yy_upx]
  rw [e1, nI_clamp (by omega), nI_clamp (by omega), nI_clamp (by omega)]
  refine ⟨?_, ?_, ?_, ?_⟩
  · unfold yy_cpok
    simp only [Bool.and_eq_true, decide_eq_true_eq]
    rw [nI_clamp (by omega), nI_clamp (by omega), nI_clamp (by omega)]
    exact ⟨⟨⟨⟨nI_pos (by omega), nI_pos (by omega)⟩, nI_pos (by omega)⟩, by omega⟩, by omega⟩
  · refine ⟨by simp [yy_rox, yy_upx], fun k hk => ?_⟩
    simp only [yy_rox, if_true, va_cpy]
    rw [if_pos (by omega)]
    simp only [yy_upx]
    rw [if_neg (by omega), ← hl.2 k hk]
    congr 1
    omega
  · intro i1 l1 hne h81 h1
    refine ⟨?_, fun k hk => ?_⟩
    · simp only [yy_rox]
      rw [if_neg (by omega)]
      simp only [yy_upx]
      rw [if_pos trivial, if_neg hne]
      exact h1.1
    · simp only [yy_rox, if_true, va_cpy]
      rw [if_neg (by omega)]
      simp only [yy_upx]
      rw [if_neg (by omega)]
      exact h1.2 k hk
  · intro a a1 a2
    funext j
    simp [yy_rox, yy_upx, a1, a2]
theorem pp_copyAll {τ : yy_T} {c d : Nat} {f : pp_Ed} (hd : pp_RC τ d f) (hf : pp_wfE f) (hcd : c + 2 < d ∨ d + 2 < c) : tt (mm_X2_copyAll c d) τ (fun _ τ1 => pp_RC τ1 c f ∧ ∀ a, a ≠ c → a ≠ c + 1 → a ≠ c + 2 → τ1 a = τ a) := by
  have f14 := hf.1
  simp only [mm_X2_copyAll, mm_X2_copyAll_10, mm_X2_copyAll_31, tt_rF, tt_wF, tt_cl, tt_rt, hd.1]
  refine tt_up f.1 (fun k τ1 => τ1 c 2 = nI f.1 ∧ (∀ i, i < k → pp_CL τ1 c i (f.2 i)) ∧ ∀ a, a ≠ c → a ≠ c + 1 → a ≠ c + 2 → τ1 a = τ a) (fun k τ1 hk hI => ?_) 0 _ (Nat.zero_le _) ⟨by simp [yy_upx], fun i hi => absurd hi (Nat.not_lt_zero i), fun a a1 a2 a3 => by funext j; simp [yy_upx, a1]⟩
  obtain ⟨i1, i2, i3⟩ := hI
  have hd1 : pp_RC τ1 d f := hd.of (i3 d (by omega) (by omega) (by omega)) (i3 (d + 1) (by omega) (by omega) (by omega)) (i3 (d + 2) (by omega) (by omega) (by omega))
  simp only [mm_X2_copyAll_10b, tt_rF, tt_br, tt_rt, tt_cl, i1]
  rw [nI_leI (by omega) (by omega)]
  refine ⟨fun hle => Or.inr ⟨(), trivial, ⟨i1, fun i hi => i2 i (by omega)⟩, i3⟩, fun hle => ?_⟩
  refine tt_mono (pp_setLine i1 hd1.1 f14 f14 (by omega) (show k < f.1 by omega) (hd1.2 k (by omega)) (hf.2 k (by omega)).2.1 (by omega)) (fun _ τ2 q => ?_)
  obtain ⟨q1, q2, q3⟩ := q
  refine Or.inl ⟨by omega, by rw [nI_1], by rw [q3 c (by omega) (by omega)]; exact i1, fun i hi => ?_, fun a a1 a2 a3 => by rw [q3 a a2 a3, i3 a a1 a2 a3]⟩
  by_cases e : i = k
  · subst e; exact q1
  · exact q2 i _ e (hf.2 i (by omega)).2.1 (i2 i (by omega))
def pp_ins (e : pp_Ed) (p : Nat) (l : pp_L) : pp_Ed := (e.1 + 1, fun i => if i < p then e.2 i else if i = p then l else e.2 (i - 1))
def pp_rem (e : pp_Ed) (p : Nat) : pp_Ed := (e.1 - 1, fun i => if i < p then e.2 i else e.2 (i + 1))
def pp_set (e : pp_Ed) (p : Nat) (l : pp_L) : pp_Ed := (e.1, fun i => if i = p then l else e.2 i)
theorem pp_insertLine {τ : yy_T} {c d p : Nat} {e f : pp_Ed} (hc : pp_RC τ c e) (he : pp_wfE e) (hd : pp_RC τ d f) (hf : pp_wfE f) (f1 : 0 < f.1) (hp : p ≤ e.1) (h14 : e.1 < 14) (hcd : c + 2 < d ∨ d + 2 < c) : tt (mm_X2_insertLine c (nI p) d 0) τ (fun _ τ1 => pp_RC τ1 c (pp_ins e p (f.2 0)) ∧ ∀ a, a ≠ c → a ≠ c + 1 → a ≠ c + 2 → τ1 a = τ a) := by
  have f14 := hf.1
  simp only [mm_X2_insertLine, tt_rF, tt_br, tt_wF, tt_rt, hc.1]
  refine ⟨fun _ => ?_, fun q => absurd (by rw [show (14 : Int32) = nI 14 by rfl, nI_ltI (by omega) (by omega)]; omega) q⟩
  have e0 : yy_up τ c 2 (nI e.1 + 1) c 2 - 1 = nI e.1 := by
    simp only [yy_upx, if_true]
    rw [nI_1, nI_pred]
  rw [e0]
  simp only [mm_X2_insertLine_28, tt_cl]
  refine tt_dl p (fun k τ1 => k ≤ e.1 ∧ τ1 c 2 = nI (e.1 + 1) ∧ (∀ i, i < k → pp_CL τ1 c i (e.2 i)) ∧ (∀ i, k < i → i ≤ e.1 → pp_CL τ1 c i (e.2 (i - 1))) ∧ ∀ a, a ≠ c → a ≠ c + 1 → a ≠ c + 2 → τ1 a = τ a) (fun τ1 hI => ?_) (fun k τ1 hk hI => ?_) e.1 _ hp ⟨Nat.le_refl _, by simp only [yy_upx, if_true]; rw [nI_1], fun i hi => (hc.2 i hi).of (by funext j; simp [yy_upx]) (by funext j; simp [yy_upx]), fun i i1 i2 => by omega, fun a a1 a2 a3 => by funext j; simp [yy_upx, a1]⟩
  · obtain ⟨i0, i1, i2, i3, i4⟩ := hI
    have hd1 : pp_RC τ1 d f := hd.of (i4 d (by omega) (by omega) (by omega)) (i4 (d + 1) (by omega) (by omega) (by omega)) (i4 (d + 2) (by omega) (by omega) (by omega))
    simp only [mm_X2_insertLine_28b, tt_br, tt_rt, tt_cl]
    refine ⟨fun _ => ⟨(), trivial, ?_⟩, fun q => absurd (by rw [nI_leI (by omega) (by omega)]; omega) q⟩
    simp only [mm_X2_insertLine_51, tt_cl, tt_rt]
    refine tt_mono (pp_setLine (i := p) (j := 0) i1 hd1.1 (by omega) f14 (by omega) f1 (hd1.2 0 f1) (hf.2 0 f1).2.1 (by omega)) (fun _ τ2 q => ?_)
    obtain ⟨q1, q2, q3⟩ := q
    refine ⟨⟨by rw [q3 c (by omega) (by omega)]; exact i1, fun i hi => ?_⟩, fun a a1 a2 a3 => by rw [q3 a a2 a3, i4 a a1 a2 a3]⟩
    have hi2 : i < e.1 + 1 := hi
    simp only [pp_ins]
    by_cases e1 : i < p
    · rw [if_pos e1]
      exact q2 i _ (by omega) (he.2 i (by omega)).2.1 (i2 i e1)
    · rw [if_neg e1]
      by_cases e2 : i = p
      · rw [if_pos e2, e2]
        exact q1
      · rw [if_neg e2]
        exact q2 i _ e2 (he.2 (i - 1) (by omega)).2.1 (i3 i (by omega) (by omega))
  · obtain ⟨i0, i1, i2, i3, i4⟩ := hI
    simp only [mm_X2_insertLine_28b, tt_br, tt_rt, tt_cl]
    rw [nI_leI (by omega) (by omega), nI_pred]
    refine ⟨fun q => by omega, fun _ => ?_⟩
    refine tt_mono (pp_setLine (i := k + 1) (j := k) i1 i1 (by omega) (by omega) (by omega) (by omega) (i2 k (by omega)) (he.2 k (by omega)).2.1 (Or.inl rfl)) (fun _ τ2 q => ?_)
    obtain ⟨q1, q2, q3⟩ := q
    refine Or.inl ⟨by trivial, by omega, by rw [q3 c (by omega) (by omega)]; exact i1, fun i hi => q2 i _ (by omega) (he.2 i (by omega)).2.1 (i2 i (by omega)), fun i k1 k2 => ?_, fun a a1 a2 a3 => by rw [q3 a a2 a3, i4 a a1 a2 a3]⟩
    by_cases e2 : i = k + 1
    · subst e2; exact q1
    · exact q2 i _ e2 (he.2 (i - 1) (by omega)).2.1 (i3 i (by omega) k2)
theorem pp_removeLine {τ : yy_T} {c p : Nat} {e : pp_Ed} (hc : pp_RC τ c e) (he : pp_wfE e) (hp : p < e.1) : tt (mm_X2_removeLine c (nI p)) τ (fun _ τ1 => pp_RC τ1 c (pp_rem e p) ∧ ∀ a, a ≠ c → a ≠ c + 1 → a ≠ c + 2 → τ1 a = τ a) := by
  have e14 := he.1
  simp only [mm_X2_removeLine, tt_cl, tt_eq (pp_has hc he.1 p (by omega)), tt_br, pp_b_0, tt_rt]
  refine ⟨fun q => absurd hp q, fun _ => ?_⟩
  rw [nI_1]
  simp only [mm_X2_removeLine_13, tt_cl]
  refine tt_up e.1 (fun k τ1 => p < k ∧ τ1 c 2 = nI e.1 ∧ (∀ i, i < k - 1 → pp_CL τ1 c i ((pp_rem e p).2 i)) ∧ (∀ i, k ≤ i → i < e.1 → pp_CL τ1 c i (e.2 i)) ∧ ∀ a, a ≠ c → a ≠ c + 1 → a ≠ c + 2 → τ1 a = τ a) (fun k τ1 hk hI => ?_) (p + 1) τ (by omega) ⟨by omega, hc.1, fun i hi => ?_, fun i i1 i2 => hc.2 i i2, fun a a1 a2 a3 => rfl⟩
  · obtain ⟨i0, i1, i2, i3, i4⟩ := hI
    simp only [mm_X2_removeLine_13b, tt_rF, tt_br, tt_rt, tt_cl, i1]
    rw [nI_leI (by omega) (by omega)]
    refine ⟨fun hle => Or.inr ⟨(), trivial, ?_⟩, fun hle => ?_⟩
    · simp only [mm_X2_removeLine_36, tt_rF, tt_wF, tt_rt, i1]
      refine ⟨⟨by simp only [yy_upx, if_true]; rw [show (1 : Int32) = nI 1 by rfl, nI_sub (by omega)]; rfl, fun i hi => ?_⟩, fun a a1 a2 a3 => by rw [← i4 a a1 a2 a3]; funext j; simp [yy_upx, a1]⟩
      have hi2 : i < e.1 - 1 := hi
      exact (i2 i (by omega)).of (by funext j; simp [yy_upx]) (by funext j; simp [yy_upx])
    · rw [show (1 : Int32) = nI 1 by rfl, nI_sub (by omega), nI_add]
      refine tt_mono (pp_setLine (i := k - 1) (j := k) i1 i1 e14 e14 (by omega) (by omega) (i3 k (by omega) (by omega)) (he.2 k (by omega)).2.1 (Or.inl rfl)) (fun _ τ2 q => ?_)
      obtain ⟨q1, q2, q3⟩ := q
      refine Or.inl ⟨by omega, by trivial, by omega, by rw [q3 c (by omega) (by omega)]; exact i1, fun i hi => ?_, fun i k1 k2 => q2 i _ (by omega) (he.2 i k2).2.1 (i3 i (by omega) k2), fun a a1 a2 a3 => by rw [q3 a a2 a3, i4 a a1 a2 a3]⟩
      by_cases e2 : i = k - 1
      · have : (pp_rem e p).2 i = e.2 k := by
          simp only [pp_rem]
          rw [if_neg (by omega), show i + 1 = k by omega]
        rw [this, e2]
        exact q1
      · refine q2 i _ e2 ?_ (i2 i (by omega))
        simp only [pp_rem]
        split
        · exact (he.2 i (by omega)).2.1
        · exact (he.2 (i + 1) (by omega)).2.1
  · simp only [pp_rem]
    rw [if_pos (by omega)]
    exact hc.2 i (by omega)
def pp_src (i from_ n p : Nat) : Nat := if p ≤ i ∧ i < p + n then from_ + i - p else if i < p then (if i < from_ then i else i + n) else if i - n < from_ then i - n else i - n + n
theorem pp_sourceOf {τ : yy_T} {i fr n p m : Nat} (hi : i < m) (hm : m ≤ 14) (h1 : fr + n ≤ m) (h2 : p + n ≤ m) : mm_X2_sourceOf (nI i) (nI fr) (nI n) (nI p) τ = some (nI (pp_src i fr n p), τ) := by
  apply tt_of
  simp only [mm_X2_sourceOf, mm_X2_sourceOf_18, mm_X2_sourceOf_30, tt_br, tt_rt, nI_add]
  unfold pp_src
  by_cases c1 : p ≤ i ∧ i < p + n
  · rw [if_pos c1, nI_ltI (by omega) (by omega), nI_leI (show p + n < 2 ^ 31 by omega) (by omega), nI_sub (show p ≤ fr + i by omega)]
    exact ⟨fun q => by omega, fun _ => ⟨fun q => by omega, fun _ => ⟨rfl, trivial⟩⟩⟩
  · rw [if_neg c1]
    by_cases c2 : i < p
    · rw [if_pos c2, nI_ltI (by omega) (by omega), nI_leI (show p < 2 ^ 31 by omega) (by omega), nI_leI (show fr < 2 ^ 31 by omega) (show i < 2 ^ 31 by omega)]
      refine ⟨fun _ => ⟨fun q => by omega, fun _ => ⟨fun q => ⟨by rw [if_neg (by omega)], trivial⟩, fun q => ⟨by rw [if_pos (by omega)], trivial⟩⟩⟩, fun q => by omega⟩
    · rw [if_neg c2, nI_sub (show n ≤ i by omega), nI_ltI (by omega) (by omega), nI_leI (show p + n < 2 ^ 31 by omega) (by omega), nI_leI (show p < 2 ^ 31 by omega) (by omega), nI_leI (show fr < 2 ^ 31 by omega) (show i - n < 2 ^ 31 by omega), nI_add]
      refine ⟨fun q => by omega, fun _ => ⟨fun _ => ⟨fun _ => ⟨fun q => ⟨by rw [if_neg (by omega)], trivial⟩, fun q => ⟨by rw [if_pos (by omega)], trivial⟩⟩, fun q => by omega⟩, fun q => by omega⟩⟩
def pp_arr (e : pp_Ed) (fr n p : Nat) : pp_Ed := (e.1, fun i => e.2 (pp_src i fr n p))
theorem pp_src_lt {i fr n p m : Nat} (hi : i < m) (h1 : fr + n ≤ m) (h2 : p + n ≤ m) : pp_src i fr n p < m := by
  unfold pp_src
  split
  · omega
  · split
    · split <;> omega
    · split <;> omega
theorem pp_arrange {τ : yy_T} {c d fr n p : Nat} {e : pp_Ed} (hc : τ c 2 = nI e.1) (hd : pp_RC τ d e) (he : pp_wfE e) (h1 : fr + n ≤ e.1) (h2 : p + n ≤ e.1) (hcd : c + 2 < d ∨ d + 2 < c) : tt (mm_X2_arrangeFrom c d (nI fr) (nI n) (nI p)) τ (fun _ τ1 => pp_RC τ1 c (pp_arr e fr n p) ∧ ∀ a, a ≠ c → a ≠ c + 1 → a ≠ c + 2 → τ1 a = τ a) := by
  have f14 := he.1
  simp only [mm_X2_arrangeFrom, mm_X2_arrangeFrom_3, mm_X2_arrangeFrom_34, tt_cl, tt_rt]
  refine tt_up e.1 (fun k τ1 => τ1 c 2 = nI e.1 ∧ (∀ i, i < k → pp_CL τ1 c i (e.2 (pp_src i fr n p))) ∧ ∀ a, a ≠ c → a ≠ c + 1 → a ≠ c + 2 → τ1 a = τ a) (fun k τ1 hk hI => ?_) 0 _ (Nat.zero_le _) ⟨hc, fun i hi => absurd hi (Nat.not_lt_zero i), fun a a1 a2 a3 => rfl⟩
  obtain ⟨i1, i2, i3⟩ := hI
  have hd1 : pp_RC τ1 d e := hd.of (i3 d (by omega) (by omega) (by omega)) (i3 (d + 1) (by omega) (by omega) (by omega)) (i3 (d + 2) (by omega) (by omega) (by omega))
  simp only [mm_X2_arrangeFrom_3b, tt_rF, tt_br, tt_rt, tt_cl, i1]
  rw [nI_leI (by omega) (by omega)]
  refine ⟨fun hle => Or.inr ⟨(), trivial, ⟨i1, fun i hi => i2 i (Nat.lt_of_lt_of_le hi hle)⟩, i3⟩, fun hle => ?_⟩
  have hs := pp_src_lt (i := k) (by omega) h1 h2
  rw [tt_eq (pp_sourceOf (m := e.1) (by omega) f14 h1 h2)]
  refine tt_mono (pp_setLine i1 hd1.1 f14 f14 (show k < e.1 by omega) hs (hd1.2 _ hs) (he.2 _ hs).2.1 (by omega)) (fun _ τ2 q => ?_)
  obtain ⟨q1, q2, q3⟩ := q
  refine Or.inl ⟨by omega, by rw [nI_1], by rw [q3 c (by omega) (by omega)]; exact i1, fun i hi => ?_, fun a a1 a2 a3 => by rw [q3 a a2 a3, i3 a a1 a2 a3]⟩
  by_cases e0 : i = k
  · subst e0; exact q1
  · exact q2 i _ e0 (he.2 _ (pp_src_lt (i := i) (by omega) h1 h2)).2.1 (i2 i (by omega))
