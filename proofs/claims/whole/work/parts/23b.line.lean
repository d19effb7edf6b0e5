/-! ASKED OF WHAT IS TOLD: line, changes -/
section
variable {τ : yy_T} {t f h : Nat} {bt : Nat → Nat} {o n : pp_Ed} {hs : Nat → Nat × pp_Ed}
theorem pp_0123 (x : Int32) : (x = 0 ∨ x = 1 ∨ x = 2 ∨ x = 3) ∨ (¬ x = 0 ∧ ¬ x = 1 ∧ ¬ x = 2 ∧ ¬ x = 3) := by
  rcases pp_012 x with (h | h | h) | ⟨h0, h1, h2⟩
  · exact Or.inl (Or.inl h)
  · exact Or.inl (Or.inr (Or.inl h))
  · exact Or.inl (Or.inr (Or.inr (Or.inl h)))
  · by_cases c : x = 3
    · exact Or.inl (Or.inr (Or.inr (Or.inr c)))
    · exact Or.inr ⟨h0, h1, h2, c⟩
theorem pp_isIn3 (x : Int32) : ((x = 0 ∨ x = 1 ∨ x = 2 ∨ x = 3) ∧ mm_X10_isIn x 0 3 τ = some (1, τ)) ∨ ((¬ x = 0 ∧ ¬ x = 1 ∧ ¬ x = 2 ∧ ¬ x = 3) ∧ mm_X10_isIn x 0 3 τ = some (0, τ)) := by
  rcases pp_0123 x with h | h
  · refine Or.inl ⟨h, ?_⟩
    rcases h with rfl | rfl | rfl | rfl <;> rw [pp_isIn] <;> rfl
  · refine Or.inr ⟨h, ?_⟩
    rcases pp_isIn0 (τ := τ) (n := 4) (by decide) x with ⟨a, -⟩ | ⟨-, b⟩
    · exfalso
      obtain ⟨j, hj, rfl⟩ := nI_of a.1
      have := (pp_ln_nI hj).mp a
      rcases (show j = 0 ∨ j = 1 ∨ j = 2 ∨ j = 3 by omega) with rfl | rfl | rfl | rfl
      · exact h.1 rfl
      · exact h.2.1 rfl
      · exact h.2.2.1 rfl
      · exact h.2.2.2 rfl
    · exact b
/-- what a line is told to be -/
def pp_lv (o n : pp_Ed) (w i : Nat) (x : Int32) : Int32 := if x = 0 then nI ((pp_sel w o n).2 i).length else if x = 1 then pp_Df o n w i else if x = 2 then pp_Df o n (2 + w) i else pp_Df o n (4 + w) i
theorem pp_op5 (hI : pp_I pp_TT τ) (y1 y2 y3 : Int32) : ∃ τ1, mm_L_5 y1 y2 y3 τ = some ((), τ1) ∧ pp_I pp_TT τ1 := by
  obtain ⟨t, bt, o, n, f, h, hs, w, ⟨c1, c2, c3⟩, m1, m2, m3⟩ := hI
  have wo := w.1
  have wn := w.2.1
  have o14 := wo.1
  have n14 := wn.1
  suffices hh : tt (mm_L_5 y1 y2 y3) τ (fun _ τ2 => pp_I pp_TT τ2) by
    obtain ⟨u, τ2, h1, h2⟩ := hh
    exact ⟨τ2, h1, h2⟩
  -- how the call ends
  have fin : ∀ (A : yy_M (Int32 ⊕ Unit)) (q : Int32 ⊕ Unit) (r2 r3 : Int32), (q = .inl r2 ∧ r3 = 0 ∨ q = .inr () ∧ r3 = 1) → tt A τ (fun q1 τ1 => q1 = q ∧ pp_fk τ τ1 o n h hs) → (∀ τ1, (∀ a, 112 ≤ a → τ1 a = τ a) → tt (mm_X10_line y1 y2 y3) τ1 (fun r τ2 => r = r2 ∧ τ2 112 0 = r3 ∧ pp_fr τ1 τ2)) → tt (yy_cl A (fun q => yy_cl (mm_X10_line y1 y2 y3) (fun r2 => yy_cl mm_X10_thrown (fun r3 => yy_ck (q = .inl r2 ∧ r3 = 0 ∨ q = .inr () ∧ r3 = 1) (yy_rt ()))))) τ (fun _ τ2 => pp_I pp_TT τ2) := by
    intro A q r2 r3 hq hA hB
    rw [tt_cl]
    refine tt_mono hA (fun q1 τ1 z => ?_)
    obtain ⟨rfl, z1, z2⟩ := z
    rw [tt_cl]
    refine tt_mono (hB τ1 (fun a ha => z1 a (by omega))) (fun r τ2 y => ?_)
    obtain ⟨rfl, y1, y2⟩ := y
    simp only [mm_X10_thrown, tt_cl, tt_rF, tt_ck, tt_rt]
    rw [y1]
    have g : ∀ a, 112 ≤ a → τ1 a = τ a := fun a ha => z1 a (by omega)
    have m1' : pp_TM τ1 t bt := m1.of (by rw [g 112 (by omega)]) (g 113 (by omega))
    have m3' : pp_MK τ1 o n h hs := m3.of (g 114 (by omega)) (g 116 (by omega)) (by rw [g 112 (by omega)])
    obtain ⟨⟨k1, k2⟩, k3, k4⟩ := y2.M m1' (by rw [g 112 (by omega)]; exact m2) m3'
    have c1' : pp_TC τ1 t bt := c1.of (z1 1 (by omega)) (z1 2 (by omega))
    exact ⟨hq, t, bt, o, n, f, h, hs, w, ⟨c1'.of (k4 1 (by omega)) (k4 2 (by omega)), by rw [k4 3 (by omega), z1 3 (by omega)]; exact c2, z2.of pp_TT_L (fun a ha => k4 a (by omega))⟩, k1, k2, k3⟩
  have refuse : ∀ τ1 : yy_T, tt mm_X10_line_23 (yy_up τ1 112 0 0) (fun r τ2 => r = 0 ∧ τ2 112 0 = 1 ∧ pp_fr τ1 τ2) := by
    intro τ1
    simp only [mm_X10_line_23, mm_X10_refuse, tt_cl, tt_wF, tt_rt]
    exact ⟨by trivial, by simp [yy_upx], pp_fr.z0.tr pp_fr.z0⟩
  by_cases ok : pp_OK y1 y2 o n
  · rcases pp_0123 y3 with what | what
    · obtain ⟨v, i, hv, rfl, rfl, hi⟩ := pp_OK_of ok
      have we := pp_sel_w (w := v) wo wn
      have e14 := we.1
      have vv : (nI v).toNatClampNeg = v := nI_clamp (by omega)
      have ii : (nI i).toNatClampNeg = i := nI_clamp (by omega)
      have inv : yy_in (nI v) 2 = true := pp_in hv (by decide)
      have ini : yy_in (nI i) 14 = true := pp_in (by omega) (by decide)
      refine fin _ (.inl (pp_lv o n v i y3)) (pp_lv o n v i y3) 0 (Or.inl ⟨rfl, rfl⟩) ?_ (fun τ1 k => ?_)
      · have cmp : ∀ {K : Nat → yy_M (Int32 ⊕ Unit)} {x : Int32 ⊕ Unit}, (∀ τ1, pp_TD τ1 84 o n → tt (K 84) τ1 (fun r τ2 => r = x ∧ τ2 = τ1)) → tt (yy_cl mm_X9_compared K) τ (fun r1 τ1 => r1 = x ∧ pp_fk τ τ1 o n h hs) := by
          intro K x hK
          rw [tt_cl]
          refine tt_mono (pp_compared c3 wo wn) (fun r τ1 z => ?_)
          obtain ⟨z0, z1, z2, z3⟩ := z
          rw [z0]
          refine tt_mono (hK τ1 z1) (fun r τ2 y => ?_)
          obtain ⟨y1, y2⟩ := y
          rw [y2]
          exact ⟨y1, z2⟩
        rcases pp_hasLine c3.1 wo c3.2.1 wn (nI v) (nI i) with ⟨-, e⟩ | ⟨no, -⟩
        · simp only [mm_X9_line]
          rw [tt_cle e, tt_br]
          refine ⟨fun q => absurd q (by decide), fun _ => ?_⟩
          simp only [tt_br, tt_rt]
          refine ⟨fun q => ?_, fun q0 => ⟨fun q => ?_, fun q1 => ⟨fun q => ?_, fun q2 => ⟨fun q => ?_, fun q3 => ?_⟩⟩⟩⟩
          · rw [tt_cle (pp_editionOf hv), tt_cle (pp_sizeOf (pp_sel_C c3.1 c3.2.1) we i hi), tt_rt]
            exact ⟨by rw [pp_lv, if_pos q], pp_fk.re c3⟩
          · refine cmp (fun τ1 z => ?_)
            simp only [tt_ck, tt_rA, tt_rt, vv, ii, inv, ini, true_and]
            refine ⟨?_, by trivial⟩
            rw [pp_lv, if_neg q0, if_pos q]
            have := z.1 i (by omega)
            rcases (show v = 0 ∨ v = 1 by omega) with rfl | rfl
            · exact congrArg Sum.inl this.1
            · exact congrArg Sum.inl this.2.1
          · refine cmp (fun τ1 z => ?_)
            simp only [tt_ck, tt_rA, tt_rt, vv, ii, inv, ini, true_and]
            refine ⟨?_, by trivial⟩
            rw [pp_lv, if_neg q0, if_neg q1, if_pos q]
            have := z.1 i (by omega)
            rcases (show v = 0 ∨ v = 1 by omega) with rfl | rfl
            · exact congrArg Sum.inl this.2.2.1
            · exact congrArg Sum.inl this.2.2.2.1
          · refine cmp (fun τ1 z => ?_)
            simp only [tt_ck, tt_rA, tt_rt, vv, ii, inv, ini, true_and]
            refine ⟨?_, by trivial⟩
            rw [pp_lv, if_neg q0, if_neg q1, if_neg q2]
            have := z.1 i (by omega)
            rcases (show v = 0 ∨ v = 1 by omega) with rfl | rfl
            · exact congrArg Sum.inl this.2.2.2.2.1
            · exact congrArg Sum.inl this.2.2.2.2.2
          · exfalso
            rcases what with z | z | z | z
            · exact q0 z
            · exact q1 z
            · exact q2 z
            · exact q3 z
        · exact absurd ok no
      · obtain ⟨u1, u2, u3, u4⟩ := pp_pre k m1 m2 m3
        simp only [mm_X10_line, tt_wF]
        rcases pp_isLine u3.1 wo u3.2.1 wn (nI v) (nI i) with ⟨-, e⟩ | ⟨no, -⟩
        · rw [tt_cle e, tt_br]
          refine ⟨fun q => absurd q (by decide), fun _ => ?_⟩
          rcases pp_isIn3 (τ := yy_up τ1 112 0 0) y3 with ⟨-, e2⟩ | ⟨⟨n0, n1, n2, n3⟩, -⟩
          · rw [tt_cle e2, tt_br]
            refine ⟨fun q => absurd q (by decide), fun _ => ?_⟩
            rw [tt_cl]
            refine tt_mono (pp_laysK u3.1 wo u3.2.1 wn) (fun _ τ2 z => ?_)
            obtain ⟨z1, z2, z3, -⟩ := z
            have fr : pp_fr τ1 τ2 := pp_fr.z0.tr z2
            have th : τ2 112 0 = 0 := by rw [z3]; simp [yy_upx]
            have M : pp_RM τ2 114 (127 * v) (pp_sel v o n) := pp_sel_M hv (u3.1.of z2.2.2.2.2.2.1) (u3.2.1.of z2.2.2.2.2.2.1)
            have ix : (14 : Int32) * nI v + nI i = nI (14 * v + i) := by rw [show (14 : Int32) = nI 14 by rfl, nI_mul, nI_add]
            have cx : (nI (14 * v + i)).toNatClampNeg = 14 * v + i := nI_clamp (by omega)
            have inx : yy_in (nI (14 * v + i)) 28 = true := pp_in (by omega) (by decide)
            have dm := z1.1 i (by omega)
            have d117 : τ2 117 (14 * v + i) = pp_Df o n v i := by
              rcases (show v = 0 ∨ v = 1 by omega) with rfl | rfl
              · rw [Nat.mul_zero, Nat.zero_add]; exact dm.1
              · exact dm.2.1
            have d118 : τ2 118 (14 * v + i) = pp_Df o n (2 + v) i := by
              rcases (show v = 0 ∨ v = 1 by omega) with rfl | rfl
              · rw [Nat.mul_zero, Nat.zero_add]; exact dm.2.2.1
              · exact dm.2.2.2.1
            have d119 : τ2 119 (14 * v + i) = pp_Df o n (4 + v) i := by
              rcases (show v = 0 ∨ v = 1 by omega) with rfl | rfl
              · rw [Nat.mul_zero, Nat.zero_add]; exact dm.2.2.2.2.1
              · exact dm.2.2.2.2.2
            simp only [tt_br, tt_rA, tt_rt, ix, cx, inx, true_and, d117, d118, d119]
            refine ⟨fun q => ?_, fun q0 => ⟨fun q => ⟨by rw [pp_lv, if_neg q0, if_pos q], th, fr⟩, fun q1 => ⟨fun q => ⟨by rw [pp_lv, if_neg q0, if_neg q1, if_pos q], th, fr⟩, fun q2 => ⟨by rw [pp_lv, if_neg q0, if_neg q1, if_neg q2], th, fr⟩⟩⟩⟩
            rw [tt_cle (pp_wordsOf hv M e14 hi), tt_rt]
            exact ⟨by rw [pp_lv, if_pos q], th, fr⟩
          · exfalso
            rcases what with z | z | z | z
            · exact n0 z
            · exact n1 z
            · exact n2 z
            · exact n3 z
        · exact absurd ok no
    · obtain ⟨n0, n1, n2, n3⟩ := what
      refine fin _ (.inr ()) 0 1 (Or.inr ⟨rfl, rfl⟩) ?_ (fun τ1 k => ?_)
      · rcases pp_hasLine c3.1 wo c3.2.1 wn y1 y2 with ⟨-, e⟩ | ⟨no, -⟩
        · simp only [mm_X9_line]
          rw [tt_cle e, tt_br]
          refine ⟨fun q => absurd q (by decide), fun _ => ?_⟩
          simp only [tt_br, tt_rt]
          exact ⟨fun q => absurd q n0, fun _ => ⟨fun q => absurd q n1, fun _ => ⟨fun q => absurd q n2, fun _ => ⟨fun q => absurd q n3, fun _ => ⟨by trivial, pp_fk.re c3⟩⟩⟩⟩⟩
        · exact absurd ok no
      · obtain ⟨u1, u2, u3, u4⟩ := pp_pre k m1 m2 m3
        simp only [mm_X10_line, tt_wF]
        rcases pp_isLine u3.1 wo u3.2.1 wn y1 y2 with ⟨-, e⟩ | ⟨no, -⟩
        · rw [tt_cle e, tt_br]
          refine ⟨fun q => absurd q (by decide), fun _ => ?_⟩
          rcases pp_isIn3 (τ := yy_up τ1 112 0 0) y3 with ⟨z, -⟩ | ⟨-, e2⟩
          · exfalso
            rcases z with z | z | z | z
            · exact n0 z
            · exact n1 z
            · exact n2 z
            · exact n3 z
          · rw [tt_cle e2, tt_br]
            exact ⟨fun _ => refuse τ1, fun q => absurd rfl q⟩
        · exact absurd ok no
  · refine fin _ (.inr ()) 0 1 (Or.inr ⟨rfl, rfl⟩) ?_ (fun τ1 k => ?_)
    · rcases pp_hasLine c3.1 wo c3.2.1 wn y1 y2 with ⟨yes, -⟩ | ⟨-, e⟩
      · exact absurd yes ok
      · simp only [mm_X9_line]
        rw [tt_cle e, tt_br, tt_rt]
        exact ⟨fun _ => ⟨rfl, pp_fk.re c3⟩, fun q => absurd rfl q⟩
    · obtain ⟨u1, u2, u3, u4⟩ := pp_pre k m1 m2 m3
      simp only [mm_X10_line, tt_wF]
      rcases pp_isLine u3.1 wo u3.2.1 wn y1 y2 with ⟨yes, -⟩ | ⟨-, e⟩
      · exact absurd yes ok
      · rw [tt_cle e, tt_br]
        exact ⟨fun _ => refuse τ1, fun q => absurd rfl q⟩
/-! changes -/
theorem tt_one {S R : Type} {b : S → yy_M (S ⊕ R)} {s : S} {Q : R → yy_T → Prop} (h : tt (b s) τ (fun y τ1 => (∃ s1, y = .inl s1 ∧ tt (yy_lp b s1) τ1 Q) ∨ ∃ r, y = .inr r ∧ Q r τ1)) : tt (yy_lp b s) τ Q := by
  obtain ⟨y, τ1, hb, hq⟩ := h
  rcases hq with ⟨s1, rfl, r, τ2, h1, h2⟩ | ⟨r, rfl, hr⟩
  · exact ⟨r, τ2, by rw [yy_lp_eq, hb]; exact h1, h2⟩
  · exact ⟨r, τ1, by rw [yy_lp_eq, hb], hr⟩
def pp_t0 (o n : pp_Ed) (D : pp_D) : Nat → Int32 := fun k => pp_s3 (D 0) o k + pp_s2 (D 0) o k - pp_s4 D o n k
def pp_t1 (n : pp_Ed) (D : pp_D) : Nat → Int32 := fun k => pp_s3 (D 1) n k + pp_s2 (D 1) n k
theorem pp_ch_t (D : pp_D) : pp_Su (pp_t0 o n D) o.1 + pp_Su (pp_t1 n D) n.1 = pp_ch o n D := by
  have a : pp_Su (pp_t0 o n D) o.1 = pp_Su (pp_s3 (D 0) o) o.1 + pp_Su (pp_s2 (D 0) o) o.1 - pp_Su (pp_s4 D o n) o.1 := by
    rw [show pp_t0 o n D = fun l => (fun k => pp_s3 (D 0) o k + pp_s2 (D 0) o k) l - pp_s4 D o n l from rfl, pp_Su_sub, pp_Su_add]
  have b : pp_Su (pp_t1 n D) n.1 = pp_Su (pp_s3 (D 1) n) n.1 + pp_Su (pp_s2 (D 1) n) n.1 := by
    rw [show pp_t1 n D = fun l => pp_s3 (D 1) n l + pp_s2 (D 1) n l from rfl, pp_Su_add]
  rw [a, b]
  unfold pp_ch pp_e2
  grind
theorem pp_ch0 {D : pp_D} (ho : pp_RM τ 114 0 o) (wo : pp_wfE o) (hn : pp_RM τ 114 127 n) (wn : pp_wfE n) (hD : pp_DM τ D) (hW : pp_WD o n D) : tt (mm_X10_changes_20 0 0 0) τ (fun y τ1 => y = .inl (pp_Su (pp_t0 o n D) o.1, 1) ∧ ∀ x, x ≠ 123 → τ1 x = τ x) := by
  have o14 := wo.1
  have n14 := wn.1
  simp only [mm_X10_changes_20, tt_cl]
  refine tt_upx o.1 (fun k (_ : Unit) => (pp_Su (pp_t0 o n D) k, nI k)) (fun k _ τ1 => ∀ x, x ≠ 123 → τ1 x = τ x) (fun k _ τ1 hk hI => ?_) 0 () τ (Nat.zero_le _) (fun x _ => rfl)
  have ho1 : pp_RM τ1 114 0 o := ho.of (hI _ (by decide))
  have hn1 : pp_RM τ1 114 127 n := hn.of (hI _ (by decide))
  have hD1 : pp_DM τ1 D := hD.of (hI _ (by decide)) (hI _ (by decide)) (hI _ (by decide))
  have eM : mm_X10_many 0 τ1 = some (nI o.1, τ1) := pp_many (w := 0) (by decide) ho1
  have ix : (14 : Int32) * 0 + nI k = nI k := by rw [show (14 : Int32) * 0 = 0 by decide, Int32.zero_add]
  have kk : (nI k).toNatClampNeg = k := nI_clamp (by omega)
  simp only [mm_X10_changes_20b]
  rw [tt_cle eM, tt_br, tt_rt, nI_leI (by omega) (by omega), ix, tt_rA, kk]
  refine ⟨fun q => Or.inr ⟨_, rfl, ?_⟩, fun q => ⟨pp_in (by omega) (by decide), ?_⟩⟩
  · simp only [mm_X10_changes_95, tt_rt]
    rw [show k = o.1 by omega]
    exact ⟨rfl, hI⟩
  · obtain ⟨d0, -, d2, -⟩ := hD1 k (by omega)
    rw [d0]
    have eW : mm_X10_wordsOf 0 (nI k) τ1 = some (nI (o.2 k).length, τ1) := pp_wordsOf (w := 0) (by decide) ho1 o14 (by omega)
    have d23 : ¬ (3 : Int32) = nI 2 := by decide
    have d32 : ¬ nI 2 = (3 : Int32) := by decide
    have step : pp_Su (pp_t0 o n D) (k + 1) = pp_Su (pp_t0 o n D) k + (pp_s3 (D 0) o k + pp_s2 (D 0) o k - pp_s4 D o n k) := rfl
    simp only [tt_br, mm_X10_changes_54, mm_X10_changes_63, mm_X10_changes_89, tt_cle eW, tt_rt, nI_1]
    refine ⟨fun z3 => ⟨fun z2 => ?_, fun z2 => Or.inl ⟨by omega, (), ?_, hI⟩⟩, fun z3 => ⟨fun z2 => ⟨fun _ => ⟨fun _ => ?_, fun z0 => absurd (by trivial) z0⟩, fun z4 => absurd z2 z4⟩, fun z2 => ⟨fun z4 => absurd z4 z2, fun _ => Or.inl ⟨by omega, (), ?_, hI⟩⟩⟩⟩
    · rw [z3] at z2
      exact absurd z2 (by decide)
    · rw [step, pp_s3, pp_s2, pp_s4, if_pos z3, z3, if_neg d23, if_neg d23]
      congr 2
      grind
    · obtain ⟨j, hj, ej⟩ := (hW k (by omega)).2.2.2.2.2.2 z2
      rw [tt_rA, kk, d2, ej, tt_cl]
      refine ⟨pp_in (by omega) (by decide), tt_mono (pp_sharedOf ho1 wo hn1 wn (by omega) hj) (fun r τ2 u => ?_)⟩
      obtain ⟨rfl, -, u2⟩ := u
      rw [tt_rt]
      refine Or.inl ⟨by omega, (), ?_, fun x hx => by rw [u2 x hx]; exact hI x hx⟩
      have z2 : D 0 k = nI 2 := z2
      rw [step, pp_s3, pp_s2, pp_s4, z2, if_neg d32, if_pos rfl, if_pos rfl, ej, nI_clamp (by omega)]
      congr 2
      grind
    · have z2 : ¬ D 0 k = nI 2 := z2
      rw [step, pp_s3, pp_s2, pp_s4, if_neg z3, if_neg z2, if_neg z2]
      congr 2
      grind
theorem pp_ch1 {D : pp_D} (hn : pp_RM τ 114 127 n) (wn : pp_wfE n) (hD : pp_DM τ D) (x : Int32) : tt (mm_X10_changes_20 x 1 0) τ (fun y τ1 => y = .inl (x + pp_Su (pp_t1 n D) n.1, 2) ∧ τ1 = τ) := by
  have n14 := wn.1
  simp only [mm_X10_changes_20, tt_cl]
  suffices hh : tt (yy_lp (fun (w : Int32 × Int32) => mm_X10_changes_20b w.1 1 w.2) (x + pp_Su (pp_t1 n D) 0, nI 0)) τ (fun w τ1 => tt (mm_X10_changes_95 w 1) τ1 (fun y τ1 => y = .inl (x + pp_Su (pp_t1 n D) n.1, 2) ∧ τ1 = τ)) by
    rw [show x + pp_Su (pp_t1 n D) 0 = x from Int32.add_zero x] at hh
    exact hh
  refine tt_upx n.1 (fun k (_ : Unit) => (x + pp_Su (pp_t1 n D) k, nI k)) (fun k _ τ1 => τ1 = τ) (fun k _ τ1 hk hI => ?_) 0 () τ (Nat.zero_le _) rfl
  subst hI
  have eM : mm_X10_many 1 τ1 = some (nI n.1, τ1) := pp_many (w := 1) (by decide) hn
  have ix : (14 : Int32) * 1 + nI k = nI (14 + k) := by rw [show (14 : Int32) * 1 = nI 14 by decide, nI_add]
  have kk : (nI (14 + k)).toNatClampNeg = 14 + k := nI_clamp (by omega)
  simp only [mm_X10_changes_20b]
  rw [tt_cle eM, tt_br, tt_rt, nI_leI (by omega) (by omega), ix, tt_rA, kk]
  refine ⟨fun q => Or.inr ⟨_, rfl, ?_⟩, fun q => ⟨pp_in (by omega) (by decide), ?_⟩⟩
  · simp only [mm_X10_changes_95, tt_rt]
    rw [show k = n.1 by omega]
    exact ⟨rfl, by trivial⟩
  · rw [(hD k (by omega)).2.1]
    have eW : mm_X10_wordsOf 1 (nI k) τ1 = some (nI (n.2 k).length, τ1) := pp_wordsOf (w := 1) (by decide) hn n14 (by omega)
    have d23 : ¬ (3 : Int32) = nI 2 := by decide
    have d32 : ¬ nI 2 = (3 : Int32) := by decide
    have step : pp_Su (pp_t1 n D) (k + 1) = pp_Su (pp_t1 n D) k + (pp_s3 (D 1) n k + pp_s2 (D 1) n k) := rfl
    simp only [tt_br, mm_X10_changes_54, mm_X10_changes_63, mm_X10_changes_89, tt_cle eW, tt_rt, nI_1]
    refine ⟨fun z3 => ⟨fun z2 => ?_, fun z2 => Or.inl ⟨by omega, (), ?_, by trivial⟩⟩, fun z3 => ⟨fun z2 => ⟨fun _ => ⟨fun z0 => absurd z0 (by decide), fun _ => Or.inl ⟨by omega, (), ?_, by trivial⟩⟩, fun z4 => absurd z2 z4⟩, fun z2 => ⟨fun z4 => absurd z4 z2, fun _ => Or.inl ⟨by omega, (), ?_, by trivial⟩⟩⟩⟩
    · rw [z3] at z2
      exact absurd z2 (by decide)
    · rw [step, pp_s3, pp_s2, if_pos z3, z3, if_neg d23]
      congr 2
      grind
    · have z2 : D 1 k = nI 2 := z2
      rw [step, pp_s3, pp_s2, z2, if_neg d32, if_pos rfl]
      congr 2
      grind
    · have z2 : ¬ D 1 k = nI 2 := z2
      rw [step, pp_s3, pp_s2, if_neg z3, if_neg z2]
      congr 2
      grind
theorem pp_op11 (hI : pp_I pp_TT τ) : ∃ τ1, mm_L_11 τ = some ((), τ1) ∧ pp_I pp_TT τ1 := by
  obtain ⟨t, bt, o, n, f, h, hs, w, ⟨c1, c2, c3⟩, m1, m2, m3⟩ := hI
  have wo := w.1
  have wn := w.2.1
  have W := pp_Df_W (o := o) (n := n) wo.1 wn.1
  refine pp_askC (r := pp_ch o n (pp_Df o n)) w c1 c2 m1 m2 m3 ?_ (fun τ1 k => ?_)
  · simp only [mm_X9_changes]
    rw [tt_cl]
    refine tt_mono (pp_compared c3 wo wn) (fun r τ1 z => ?_)
    obtain ⟨rfl, z1, z2, z3⟩ := z
    rw [tt_rF, tt_rt]
    exact ⟨z1.2.2.2.2.2.2, z2⟩
  · obtain ⟨u1, u2, u3, u4⟩ := pp_pre k m1 m2 m3
    simp only [mm_X10_changes, tt_wF]
    rw [tt_cl]
    refine tt_mono (pp_laysK u3.1 wo u3.2.1 wn) (fun _ τ2 z => ?_)
    obtain ⟨z1, z2, -, -⟩ := z
    have fr : pp_fr τ1 τ2 := pp_fr.z0.tr z2
    have M0 : pp_RM τ2 114 0 o := u3.1.of z2.2.2.2.2.2.1
    have M1 : pp_RM τ2 114 127 n := u3.2.1.of z2.2.2.2.2.2.1
    simp only [mm_X10_changes_13, tt_cl]
    refine tt_one ?_
    simp only [mm_X10_changes_13b, tt_br]
    refine ⟨fun q => absurd q (by decide), fun _ => ?_⟩
    refine tt_mono (pp_ch0 M0 wo M1 wn z1.1 W) (fun y τ3 v => ?_)
    obtain ⟨v0, v1⟩ := v
    refine Or.inl ⟨_, v0, tt_one ?_⟩
    simp only [tt_br]
    refine ⟨fun q => absurd q (by decide), fun _ => ?_⟩
    refine tt_mono (pp_ch1 (M1.of (v1 _ (by decide))) wn (z1.1.of (v1 _ (by decide)) (v1 _ (by decide)) (v1 _ (by decide))) _) (fun y τ4 v => ?_)
    obtain ⟨v2, rfl⟩ := v
    refine Or.inl ⟨_, v2, tt_one ?_⟩
    simp only [tt_br, tt_rt]
    refine ⟨fun _ => Or.inr ⟨_, rfl, ?_⟩, fun q => absurd (by decide) q⟩
    simp only [mm_X10_changes_101, tt_rt]
    exact ⟨pp_ch_t _, fr.tr (pp_fr.of (fun a ha => v1 a (by omega)))⟩
end
