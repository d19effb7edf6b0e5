/-! THE TAPE -/
def pp_shr (x : Int32) (k : Int32) : Int32 := (Int32.toUInt32 x >>> (Int32.toUInt32 k &&& Int32.toUInt32 31)).toInt32
theorem pp_and255 (v : Int32) : ∃ b : Nat, b < 256 ∧ v &&& 255 = nI b ∧ sb_b b = v.toInt8.toInt32 := by
  refine ⟨(v.toBitVec &&& 255#32).toNat, ?_, ?_, ?_⟩
  · rw [BitVec.toNat_and]
    exact Nat.lt_of_le_of_lt Nat.and_le_right (by decide)
  · apply Int32.toBitVec_inj.mp
    show v.toBitVec &&& 255#32 = BitVec.ofNat 32 _
    rw [BitVec.ofNat_toNat]
    simp
  · have h : nI (v.toBitVec &&& 255#32).toNat = v &&& 255 := by
      apply Int32.toBitVec_inj.mp
      show BitVec.ofNat 32 _ = v.toBitVec &&& 255#32
      rw [BitVec.ofNat_toNat]
      simp
    unfold sb_b
    rw [h, Int32.toInt8_and]
    have h2 : Int32.toInt8 255 = -1 := by decide
    rw [h2, Int8.and_neg_one]
theorem pp_nar (v : Int32) : vp_nar .byte (v.toInt8.toInt32) = v.toInt8.toInt32 := by
  rw [vp_nar_byte]
  simp
def pp_byte (x : Int32) (k : Int32) : Nat := (pp_shr x k &&& 255).toNatClampNeg
theorem pp_byte_lt (x k : Int32) : pp_byte x k < 256 := by
  obtain ⟨b, h1, h2, -⟩ := pp_and255 (pp_shr x k)
  unfold pp_byte
  rw [h2, nI_clamp (by omega)]
  exact h1
theorem pp_byte_m (x k : Int32) : pp_shr x k &&& 255 = nI (pp_byte x k) := by
  obtain ⟨b, h1, h2, -⟩ := pp_and255 (pp_shr x k)
  unfold pp_byte
  rw [h2, nI_clamp (by omega)]
theorem pp_byte_c (x k : Int32) : vp_nar .byte ((pp_shr x k).toInt8.toInt32) = sb_b (pp_byte x k) := by
  obtain ⟨b, h1, h2, h3⟩ := pp_and255 (pp_shr x k)
  unfold pp_byte
  rw [h2, nI_clamp (by omega), pp_nar, h3]
theorem pp_shr0 (x : Int32) : pp_shr x 0 = x := by
  unfold pp_shr
  have h : Int32.toUInt32 0 &&& Int32.toUInt32 31 = 0 := by decide
  rw [h, UInt32.shiftRight_zero, Int32.toInt32_toUInt32]
def pp_TC (τ : yy_T) (t : Nat) (bt : Nat → Nat) : Prop := t ≤ 640 ∧ τ 1 1 = nI t ∧ ∀ i, i < t → τ 2 i = sb_b (bt i)
def pp_TM (τ : yy_T) (t : Nat) (bt : Nat → Nat) : Prop := t ≤ 640 ∧ τ 112 2 = nI t ∧ ∀ i, i < t → τ 113 i = nI (bt i)
/-- four bytes more -/
def pp_four (t : Nat) (bt : Nat → Nat) (x : Int32) : Nat → Nat := fun i => if i = t then pp_byte x 24 else if i = t + 1 then pp_byte x 16 else if i = t + 2 then pp_byte x 8 else if i = t + 3 then pp_byte x 0 else bt i
theorem pp_append {τ : yy_T} {t : Nat} {bt : Nat → Nat} (x : Int32) (h : pp_TC τ t bt) (ht : t + 4 ≤ 640) : tt (mm_X7_append x) τ (fun _ τ1 => pp_TC τ1 (t + 4) (pp_four t bt x) ∧ ∀ a, a ≠ 1 → a ≠ 2 → τ1 a = τ a) := by
  obtain ⟨h1, h2, h3⟩ := h
  have c1 := pp_byte_c x 24
  have c2 := pp_byte_c x 16
  have c3 := pp_byte_c x 8
  have c4 := pp_byte_c x 0
  rw [pp_shr0] at c4
  unfold pp_shr at c1 c2 c3
  simp only [mm_X7_append, tt_rF, tt_br, tt_wA, tt_rA, tt_wF, tt_rt, tt_ck, tt_cl, tt_rL, tt_wL, tt_cp, yy_upx, yy_rox, if_true, if_false, reduceIte, Nat.reduceEqDiff, and_true, true_and, h2, c1, c2, c3, c4]
  simp (disch := omega) only [nI_lit, nI_add, nI_mul, nI_ltI, nI_leI, nI_eq, yy_in_nI, nI_clamp]
  refine ⟨fun h => by omega, fun _ => ⟨fun _ => ⟨by omega, by omega, by omega, by omega, ⟨by omega, by simp [yy_upx], fun i hi => ?_⟩, fun a a1 a2 => ?_⟩, fun h => by omega⟩⟩
  · simp only [yy_upx, pp_four, nI_lit, reduceIte, Nat.reduceEqDiff]
    by_cases e0 : i = t
    · subst e0; simp
    · by_cases e1 : i = t + 1
      · subst e1; simp
      · by_cases e2 : i = t + 2
        · subst e2; simp
        · by_cases e3 : i = t + 3
          · subst e3; simp
          · simp only [e0, e1, e2, e3, if_false]
            exact h3 i (by omega)
  · funext j
    simp [yy_upx, a1, a2]
theorem pp_lays {τ : yy_T} {t : Nat} {bt : Nat → Nat} (x : Int32) (h : pp_TM τ t bt) (ht : t + 4 ≤ 640) : tt (mm_X10_lays x) τ (fun _ τ1 => pp_TM τ1 (t + 4) (pp_four t bt x) ∧ (∀ i, i ≠ 2 → τ1 112 i = τ 112 i) ∧ ∀ a, a ≠ 112 → a ≠ 113 → τ1 a = τ a) := by
  obtain ⟨h1, h2, h3⟩ := h
  have c1 := pp_byte_m x 24
  have c2 := pp_byte_m x 16
  have c3 := pp_byte_m x 8
  have c4 := pp_byte_m x 0
  unfold pp_shr at c1 c2 c3 c4
  have s1 : ((24 : Int32) + -8) = 16 := by decide
  have s2 : ((16 : Int32) + -8) = 8 := by decide
  have s3 : ((8 : Int32) + -8) = 0 := by decide
  have n1 : ¬ ((24 : Int32) < 0) := by decide
  have n2 : ¬ ((16 : Int32) < 0) := by decide
  have n3 : ¬ ((8 : Int32) < 0) := by decide
  have n4 : ¬ ((0 : Int32) < 0) := by decide
  have n5 : ((0 : Int32) + -8) < 0 := by decide
  have key : ∀ (k : Int32) (τ : yy_T) (t b : Nat) (Q : Int32 ⊕ Unit → yy_T → Prop), ¬ k < 0 → t < 640 → τ 112 2 = nI t → ((Int32.toUInt32 x >>> (Int32.toUInt32 k &&& Int32.toUInt32 31)).toInt32) &&& 255 = nI b → Q (.inl (k + -8)) (yy_up (yy_up τ 113 t (nI b)) 112 2 (nI (t + 1))) → tt (mm_X10_lays_3b x k) τ Q := by
    intro k τ t b Q hk ht h2 hb hQ
    simp only [mm_X10_lays_3b, tt_rF, tt_br, tt_wA, tt_rA, tt_wF, tt_rt, tt_ck, tt_cl, tt_rL, tt_wL, tt_cp, yy_upx, yy_rox, if_true, if_false, reduceIte, Nat.reduceEqDiff, and_true, true_and, h2, hb]
    refine ⟨fun h => absurd h hk, fun _ => ?_⟩
    simp (disch := omega) only [nI_lit, nI_add, nI_mul, nI_ltI, nI_leI, nI_eq, yy_in_nI, nI_clamp]
    exact ⟨ht, hQ⟩
  have lp : ∀ (k : Int32) (τ τ1 : yy_T) (Q : Unit → yy_T → Prop), tt (mm_X10_lays_3b x k) τ (fun y τ2 => y = .inl (k + -8) ∧ τ2 = τ1) → tt (yy_lp (fun (w : Int32) => mm_X10_lays_3b x w) (k + -8)) τ1 Q → tt (yy_lp (fun (w : Int32) => mm_X10_lays_3b x w) k) τ Q := by
    intro k τ τ1 Q hb hr
    obtain ⟨r, τ2, e1, e2⟩ := hr
    refine ⟨r, τ2, ?_, e2⟩
    rw [yy_lp_eq, tt_of hb]
    exact e1
  simp only [mm_X10_lays, mm_X10_lays_3, mm_X10_lays_39, tt_cl, tt_rt]
  refine lp _ _ _ _ (key _ _ t _ _ n1 (by omega) h2 c1 ⟨rfl, rfl⟩) ?_
  rw [s1]
  refine lp _ _ _ _ (key _ _ (t + 1) _ _ n2 (by omega) (by simp [yy_upx]) c2 ⟨rfl, rfl⟩) ?_
  rw [s2]
  refine lp _ _ _ _ (key _ _ (t + 2) _ _ n3 (by omega) (by simp [yy_upx]) c3 ⟨rfl, rfl⟩) ?_
  rw [s3]
  refine lp _ _ _ _ (key _ _ (t + 3) _ _ n4 (by omega) (by simp [yy_upx]) c4 ⟨rfl, rfl⟩) ?_
  refine ⟨(), _, by rw [yy_lp_eq]; unfold mm_X10_lays_3b yy_br; rw [if_pos n5]; rfl, ⟨by omega, by simp [yy_upx], fun i hi => ?_⟩, fun i hi => by simp [yy_upx, hi], fun a a1 a2 => ?_⟩
  · simp only [yy_upx, pp_four, reduceIte, Nat.reduceEqDiff]
    by_cases e0 : i = t
    · subst e0; simp
    · by_cases e1 : i = t + 1
      · subst e1; simp
      · by_cases e2 : i = t + 2
        · subst e2; simp
        · by_cases e3 : i = t + 3
          · subst e3; simp
          · simp only [e0, e1, e2, e3, if_false]
            exact h3 i (by omega)
  · funext j
    simp [yy_upx, a1, a2]
