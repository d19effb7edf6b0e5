section
variable {T : yy_T → pp_Ed → pp_Ed → Prop} {τ : yy_T}
/-- both, joined: any new state -/
theorem pp_twoNew {A B : yy_M Int32} {r : Int32} {t1 f1 h1 : Nat} {bt1 : Nat → Nat} {o1 n1 : pp_Ed} {hs1 : Nat → Nat × pp_Ed} (hT : pp_TL T) (w : pp_W t1 bt1 o1 n1 h1 hs1) (hA : tt A τ (fun r1 τ1 => r1 = r ∧ (pp_TC τ1 t1 bt1 ∧ τ1 3 1 = nI f1) ∧ pp_CK T τ1 o1 n1 h1 hs1 ∧ ∀ a, 112 ≤ a → τ1 a = τ a)) (hB : ∀ τ1, (∀ a, 112 ≤ a → τ1 a = τ a) → tt B τ1 (fun r1 τ2 => r1 = r ∧ (pp_TM τ2 t1 bt1 ∧ τ2 112 7 = nI f1) ∧ pp_MK τ2 o1 n1 h1 hs1 ∧ ∀ a, a < 112 → τ2 a = τ1 a)) : ∃ τ2, (yy_cl A (fun r1 => yy_cl B (fun r2 => yy_br (r1 = r2) (yy_rt ()) yl_no))) τ = some ((), τ2) ∧ pp_I T τ2 := by
  refine pp_two (T := T) (τ := τ) (Qm := fun _ => True) r (Qc := fun τ1 => (pp_TC τ1 t1 bt1 ∧ τ1 3 1 = nI f1) ∧ pp_CK T τ1 o1 n1 h1 hs1 ∧ ∀ a, 112 ≤ a → τ1 a = τ a) hA ?_
  rintro τ1 ⟨⟨q1, q2⟩, q3, q4⟩
  refine tt_mono (hB τ1 q4) (fun r1 τ2 k => ?_)
  obtain ⟨k0, ⟨k1, k2⟩, k3, k4⟩ := k
  exact ⟨k0, t1, bt1, _, _, f1, _, _, w, ⟨q1.of (k4 1 (by omega)) (k4 2 (by omega)), by rw [k4 3 (by omega)]; exact q2, q3.of hT (fun a ha => k4 a (by omega))⟩, k1, k2, k3⟩
/-- edition -/
theorem pp_op2 (hT : pp_TL T) (hI : pp_I T τ) (y1 : Int32) : ∃ τ1, mm_L_2 y1 τ = some ((), τ1) ∧ pp_I T τ1 := by
  have hI0 := hI
  obtain ⟨t, bt, o, n, f, h, hs, ⟨wo, wn, wh, wb⟩, ⟨c1, c2, c3⟩, m1, m2, m3⟩ := hI
  obtain ⟨u1, u2, u3, u4⟩ := pp_pre (τ1 := τ) (fun a _ => rfl) m1 m2 m3
  rcases pp_isEdC (τ := τ) y1 with ⟨ok, e1⟩ | ⟨ok, e1⟩
  · have e2 : ∀ τ1, mm_X10_isEdition y1 τ1 = some (1, τ1) := by
      intro τ1
      rcases pp_isEd (τ := τ1) y1 with ⟨-, e2⟩ | ⟨no, -⟩
      · exact e2
      · exact absurd ok no
    obtain ⟨w, hw, rfl⟩ := pp_isEdW ok
    cases hres : pp_res 1 t bt with
    | inl z =>
      obtain ⟨f1, p⟩ := z
      refine pp_failed (f := f1) (p := p) (t := t) (bt := bt) hT ⟨wo, wn, wh, wb⟩ c3 ?_ ?_
      · simp only [mm_X9_edition, tt_cle e1, tt_br, tt_rt]
        refine ⟨fun q => absurd q (by decide), fun _ => ?_⟩
        rw [tt_cl]
        refine tt_mono (pp_readTape (wh := 1) c1 wb (by omega)) (fun r τ1 k => ?_)
        obtain ⟨k1, k2, k3⟩ := k
        rw [hres] at k3
        rcases k3 with ⟨f2, p2, z1, z2, z3, rfl, z5, z6⟩ | ⟨e, z1, -⟩
        · cases z1
          simp only [tt_br, tt_rF, tt_rt, z6]
          exact ⟨fun _ => ⟨by trivial, k1, k2, z5⟩, fun q => absurd (by trivial) q⟩
        · cases z1
      · intro τ1 q
        obtain ⟨p1, p2, p3, p4⟩ := pp_pre q m1 m2 m3
        simp only [mm_X10_edition, tt_wF, tt_cle (e2 _), tt_br, tt_rt]
        refine ⟨fun q => absurd q (by decide), fun _ => ?_⟩
        rw [tt_cl]
        refine tt_mono (pp_mReads (wh := 1) p1 wb (by omega)) (fun r τ2 k => ?_)
        have kk := pp_reads1 (by omega) p1 p3 k
        obtain ⟨k1, k2, k3, k4⟩ := k
        rw [hres] at k4
        rcases k4 with ⟨f2, p2, z1, z2, z3, rfl, z5, z6⟩ | ⟨e, z1, -⟩
        · cases z1
          simp only [tt_br, tt_rF, tt_rt, z6]
          exact ⟨fun _ => ⟨by trivial, kk.1, z5, kk.2.1, fun a ha => by rw [kk.2.2 a ha, p4 a (by omega)]⟩, fun q => absurd (by trivial) q⟩
        · cases z1
    | inr e =>
      obtain ⟨we, -⟩ := pp_res_w hres
      have nw := pp_new_w (w := w) wo wn we
      refine pp_twoNew (r := nI e.1) (t1 := 0) (f1 := 0) (h1 := 0) (bt1 := bt) (o1 := (pp_new w e o n).1) (n1 := (pp_new w e o n).2) (hs1 := hs) hT ⟨nw.1, nw.2, ⟨by omega, fun k hk => absurd hk (Nat.not_lt_zero k)⟩, fun i hi => absurd hi (Nat.not_lt_zero i)⟩ ?_ ?_
      · simp only [mm_X9_edition, tt_cle e1, tt_br, tt_rt]
        refine ⟨fun q => absurd q (by decide), fun _ => ?_⟩
        rw [tt_cl]
        refine tt_mono (pp_readTape (wh := 1) c1 wb (by omega)) (fun r τ1 k => ?_)
        obtain ⟨k1, k2, k3⟩ := k
        rw [hres] at k3
        rcases k3 with ⟨f2, p2, z1, -⟩ | ⟨e9, z1, rfl, z2, z3⟩
        · cases z1
        · cases z1
          have s7 := pp_sel7 (w := w)
          rw [tt_br]
          refine ⟨fun q => absurd q (by decide), fun _ => ?_⟩
          rw [tt_cle (pp_editionOf hw), tt_cl]
          refine tt_mono (pp_copyAll (c := pp_sel w 7 10) z3 we (by omega)) (fun _ τ2 k => ?_)
          obtain ⟨j1, j2⟩ := k
          simp only [mm_X5_forget, tt_cl, tt_wF, tt_rt, tt_eq (pp_editionOf hw), tt_rF]
          have fr : ∀ a, a ≠ 0 → a ≠ 16 → yy_up (yy_up τ2 16 2 0) 0 10 1 a = τ2 a := fun a a1 a2 => by
            funext j
            simp [yy_upx, a1, a2]
          have nn := pp_CKnew (τ := τ) (τ1 := yy_up (yy_up τ2 16 2 0) 0 10 1) hw c3.1 c3.2.1 (j1.of (fr _ (by omega) (by omega)) (fr _ (by omega) (by omega)) (fr _ (by omega) (by omega))) (fun a a1 a2 a3 a4 a5 => by rw [fr a (by omega) (by omega), j2 a a3 a4 a5, k1 a (by omega) (by omega) (by omega) (by omega) (by omega)])
          refine ⟨?_, ⟨k2.of ?_ ?_, ?_⟩, ⟨nn.1, nn.2, ?_, Or.inl (by simp [yy_upx])⟩, fun a ha => ?_⟩
          · rw [fr _ (by omega) (by omega)]
            exact j1.1
          · rw [fr 1 (by decide) (by decide), j2 1 (by omega) (by omega) (by omega)]
          · rw [fr 2 (by decide) (by decide), j2 2 (by omega) (by omega) (by omega)]
          · rw [fr 3 (by decide) (by decide), j2 3 (by omega) (by omega) (by omega)]
            exact z2
          · obtain ⟨nx, x1, x2, x3, x4⟩ := c3.2.2.1
            refine ⟨nx, x1, ?_, by simp [yy_upx]; rfl, fun k hk => absurd hk (Nat.not_lt_zero k)⟩
            simp only [yy_upx, reduceIte, Nat.reduceEqDiff]
            rw [j2 16 (by omega) (by omega) (by omega), k1 16 (by decide) (by decide) (by decide) (by decide) (by decide)]
            exact x2
          · rw [fr a (by omega) (by omega), j2 a (by omega) (by omega) (by omega), k1 a (by omega) (by omega) (by omega) (by omega) (by omega)]
      · intro τ1 q
        obtain ⟨p1, p2, p3, p4⟩ := pp_pre q m1 m2 m3
        simp only [mm_X10_edition, tt_wF, tt_cle (e2 _), tt_br, tt_rt]
        refine ⟨fun q => absurd q (by decide), fun _ => ?_⟩
        rw [tt_cl]
        refine tt_mono (pp_mReads (wh := 1) p1 wb (by omega)) (fun r τ2 k => ?_)
        have kk := pp_reads1 (by omega) p1 p3 k
        obtain ⟨k1, k2, k3, k4⟩ := k
        rw [hres] at k4
        rcases k4 with ⟨f2, p2, z1, -⟩ | ⟨e9, z1, rfl, z2, z3⟩
        · cases z1
        · cases z1
          rw [tt_br]
          refine ⟨fun q => absurd q (by decide), fun _ => ?_⟩
          simp only [mm_X10_edition_35, tt_cl]
          refine tt_up 127 (fun m τ3 => (∀ j, j < m → τ3 114 (127 * w + j) = τ2 115 (0 + j)) ∧ (∀ j, (j < 127 * w ∨ 127 * w + m ≤ j) → τ3 114 j = τ2 114 j) ∧ ∀ a, a ≠ 114 → τ3 a = τ2 a) (fun m τ3 hm hI => ?_) 0 τ2 (Nat.zero_le _) ⟨fun k hk => absurd hk (Nat.not_lt_zero k), fun j _ => rfl, fun a _ => rfl⟩
          obtain ⟨i1, i2, i3⟩ := hI
          simp only [mm_X10_edition_35b, tt_br, tt_rt, tt_rA, tt_wA]
          simp only [nI_lit, nI_mul, nI_add]
          rw [nI_leI (by omega) (by omega), nI_clamp (by omega), nI_clamp (by omega)]
          refine ⟨fun hle => Or.inr ⟨(), by trivial, ?_⟩, fun hle => ⟨pp_in (by omega) (by decide), pp_in (by omega) (by decide), Or.inl ⟨by omega, by trivial, fun j hj => ?_, fun j hj => ?_, fun a a1 => by rw [← i3 a a1]; funext j; simp [yy_upx, a1]⟩⟩⟩
          · simp only [mm_X10_edition_64, tt_wF, tt_cl, tt_rt]
            have hm7 : m = 127 := by omega
            subst hm7
            have fr : ∀ a, a ≠ 112 → yy_up τ3 112 6 0 a = τ3 a := fun a a1 => by
              funext j
              simp [yy_upx, a1]
            have hR : pp_RM (yy_up τ3 112 6 0) 114 (127 * w) e := pp_RM.of (z3.to we i1) (fr 114 (by decide))
            have out : pp_out w τ2 (yy_up τ3 112 6 0) ∨ True := Or.inr trivial
            have nn : pp_RM (yy_up τ3 112 6 0) 114 0 (pp_new w e o n).1 ∧ pp_RM (yy_up τ3 112 6 0) 114 127 (pp_new w e o n).2 := by
              rcases (show w = 0 ∨ w = 1 by omega) with rfl | rfl
              · exact ⟨hR, kk.2.1.2.1.row wn (fun j j1 j2 => by rw [fr 114 (by decide)]; exact i2 j (by omega))⟩
              · exact ⟨kk.2.1.1.row wo (fun j j1 j2 => by rw [fr 114 (by decide)]; exact i2 j (by omega)), hR⟩
            rw [tt_eq (pp_many hw hR)]
            refine ⟨rfl, ⟨kk.1.of (by simp [yy_upx, i3]) (by rw [fr 113 (by decide), i3 113 (by decide)]), by simp [yy_upx, i3, z2]; rfl⟩, ⟨nn.1, nn.2, by simp [yy_upx]; rfl, fun k hk => absurd hk (Nat.not_lt_zero k)⟩, fun a ha => ?_⟩
            rw [fr a (by omega), i3 a (by omega), kk.2.2 a ha, p4 a (by omega)]
          · simp only [yy_upx, if_true]
            by_cases e0 : j = m
            · rw [if_pos (by omega), e0, i3 115 (by decide), Nat.zero_add]
            · rw [if_neg (by omega)]
              exact i1 j (by omega)
          · simp only [yy_upx, if_true]
            rw [if_neg (by omega)]
            exact i2 j (by omega)
  · refine pp_refuse (r := -1) hT hI0 (tt_of ?_) (tt_of ?_)
    · simp only [mm_X9_edition, tt_cle e1, tt_br, tt_rt]
      exact ⟨fun _ => ⟨by trivial, by trivial⟩, fun q => absurd (by trivial) q⟩
    · have e2 : mm_X10_isEdition y1 (yy_up τ 112 0 0) = some (0, yy_up τ 112 0 0) := by
        rcases pp_isEd (τ := yy_up τ 112 0 0) y1 with ⟨no, -⟩ | ⟨-, e2⟩
        · exact absurd no ok
        · exact e2
      simp only [mm_X10_edition, tt_wF, tt_cle e2, tt_br, tt_rt]
      exact ⟨fun _ => ⟨by trivial, by trivial⟩, fun q => absurd (by trivial) q⟩
/-- take -/
theorem pp_op18 (hT : pp_TL T) (hI : pp_I T τ) : ∃ τ1, mm_L_18 τ = some ((), τ1) ∧ pp_I T τ1 := by
  obtain ⟨t, bt, o, n, f, h, hs, ⟨wo, wn, wh, wb⟩, ⟨c1, c2, c3⟩, m1, m2, m3⟩ := hI
  refine pp_twoSteps (w := 0) (r := nI n.1) (e := n) (t1 := t) (f1 := f) (bt1 := bt) hT wo wn wh (by omega) wn wb ?_ ?_
  · refine tt_mono (pp_cStep (w := 0) (r := nI n.1) (e := n) (P := fun r1 => yy_cl (mm_X2_copyAll r1 10) (fun _ => yy_rF 7 2 fun v3 => yy_rt v3)) c3 wo wn wh (by omega) (fun τ1 q1 q2 q3 => ?_)) (fun r τ1 k => ⟨k.1, ⟨c1.of (k.2.2 1 (by decide) (by decide)) (k.2.2 2 (by decide) (by decide)), by rw [k.2.2 3 (by decide) (by decide)]; exact c2⟩, k.2.1, fun a ha => k.2.2 a (by omega) (by omega)⟩)
    simp only [tt_cl, tt_rF, tt_rt]
    refine tt_mono (pp_copyAll (c := pp_sel 0 7 10) q2 wn (by decide)) (fun _ τ2 k => ?_)
    exact ⟨k.1.1, k.1, fun a a1 a2 a3 _ _ _ => k.2 a a1 a2 a3⟩
  · intro τ1 q
    obtain ⟨p1, p2, p3, p4⟩ := pp_pre q m1 m2 m3
    simp only [mm_X10_take, tt_wF]
    refine tt_mono (pp_mStep (w := 0) (r := nI n.1) (e := n) p3 wo wn wh (by omega) (fun τ3 q1 q2 q3 => ?_)) (fun r τ3 k => ⟨k.1, ⟨p1.of (k.2.2.1 2 (by decide)) (k.2.2.2 113 (by decide) (by decide) (by decide)), by rw [k.2.2.1 7 (by decide)]; exact p2⟩, k.2.1, fun a ha => by rw [k.2.2.2 a (by omega) (by omega) (by omega), p4 a (by omega)]⟩)
    simp only [mm_X10_take_11, tt_cl]
    refine tt_up 127 (fun m τ4 => (∀ j, j < m → τ4 114 (0 + j) = τ3 114 (127 + j)) ∧ (∀ j, m ≤ j → τ4 114 j = τ3 114 j) ∧ ∀ a, a ≠ 114 → τ4 a = τ3 a) (fun m τ4 hm hI => ?_) 0 τ3 (Nat.zero_le _) ⟨fun k hk => absurd hk (Nat.not_lt_zero k), fun j _ => rfl, fun a _ => rfl⟩
    obtain ⟨i1, i2, i3⟩ := hI
    simp only [mm_X10_take_11b, tt_br, tt_rt, tt_rA, tt_wA]
    simp only [nI_lit, nI_mul, nI_add]
    rw [nI_leI (by omega) (by omega), nI_clamp (by omega), nI_clamp (by omega)]
    refine ⟨fun hle => Or.inr ⟨(), by trivial, ?_⟩, fun hle => ⟨pp_in (by omega) (by decide), pp_in (by omega) (by decide), Or.inl ⟨by omega, by trivial, fun j hj => ?_, fun j hj => ?_, fun a a1 => by rw [← i3 a a1]; funext j; simp [yy_upx, a1]⟩⟩⟩
    · simp only [mm_X10_take_38, tt_cl, tt_rt]
      have hm7 : m = 127 := by omega
      subst hm7
      have hR : pp_RM τ4 114 (127 * 0) n := q2.to wn i1
      have em : mm_X10_many 0 τ4 = some (nI n.1, τ4) := pp_many (w := 0) (by decide) hR
      rw [tt_eq em]
      exact ⟨rfl, hR, fun j hj => i2 j (by omega), i3⟩
    · simp only [yy_upx, if_true]
      by_cases e0 : j = m
      · rw [if_pos (by omega), e0, i2 _ (by omega)]
      · rw [if_neg (by omega)]
        exact i1 j (by omega)
    · simp only [yy_upx, if_true]
      rw [if_neg (by omega)]
      exact i2 j (by omega)
/-- undo -/
theorem pp_op19 (hT : pp_TL T) (hI : pp_I T τ) : ∃ τ1, mm_L_19 τ = some ((), τ1) ∧ pp_I T τ1 := by
  have hI0 := hI
  obtain ⟨t, bt, o, n, f, h, hs, ⟨wo, wn, wh, wb⟩, ⟨c1, c2, c3⟩, m1, m2, m3⟩ := hI
  have h10 := wh.1
  obtain ⟨nx, x1, x2, x3, x4⟩ := c3.2.2.1
  have eh : nI h = 0 ↔ h = 0 := by rw [show (0 : Int32) = nI 0 by rfl, nI_eq (by omega) (by omega)]
  by_cases h0 : h = 0
  · obtain ⟨u1, u2, u3, u4⟩ := pp_pre (τ1 := τ) (fun a _ => rfl) m1 m2 m3
    refine pp_refuse (r := -1) hT hI0 (tt_of ?_) (tt_of ?_)
    · simp only [mm_X9_undo, tt_rF, tt_br, tt_rt, x3, eh]
      exact ⟨fun _ => ⟨by trivial, by trivial⟩, fun q => absurd h0 q⟩
    · simp only [mm_X10_undo, tt_wF, tt_rF, tt_br, tt_rt, u3.2.2.1, eh]
      exact ⟨fun _ => ⟨by trivial, by trivial⟩, fun q => absurd h0 q⟩
  · have hw := (wh.2 0 (by omega)).1
    have we := (wh.2 0 (by omega)).2
    have est : pp_st o n hs 1 = pp_new (hs 0).1 (hs 0).2 o n := rfl
    have wst := pp_st_w wo wn wh 1 (by omega)
    have whp : pp_wH (h - 1) (fun j => hs (j + 1)) := ⟨by omega, fun k hk => wh.2 (k + 1) (by omega)⟩
    have s7 := pp_sel7 (w := (hs 0).1)
    refine pp_twoNew (r := nI (h - 1)) (t1 := t) (f1 := f) (h1 := h - 1) (bt1 := bt) (o1 := (pp_st o n hs 1).1) (n1 := (pp_st o n hs 1).2) (hs1 := fun j => hs (j + 1)) hT ⟨wst.1, wst.2, whp, wb⟩ ?_ ?_
    · simp only [mm_X9_undo, tt_rF, tt_br, tt_rt, x3, eh]
      refine ⟨fun q => absurd q h0, fun _ => ?_⟩
      have back : mm_X5_stepBack τ = some (nI ((nx + 9) % 10), yy_up (yy_up τ 16 3 (nI ((nx + 9) % 10))) 16 2 (nI (h - 1))) := by
        have e1 : (if nI h - 1 < 0 then 0 else nI h - 1) = nI (h - 1) := by
          rw [show (1 : Int32) = nI 1 by rfl, nI_sub (by omega), if_neg (nI_pos (by omega))]
        apply tt_of
        have w2 : ∀ v : Int32, yy_up τ 16 3 v 16 2 = nI h := fun v => by
          simp only [yy_upx, reduceIte, Nat.reduceEqDiff, x3]
        have w3 : ∀ v v2 : Int32, yy_up (yy_up τ 16 3 v) 16 2 v2 16 3 = v := fun v v2 => by
          simp [yy_upx]
        simp only [mm_X5_stepBack, mm_X5_stepBack_19, tt_rF, tt_br, tt_wF, tt_rt, x2, w2, w3, e1]
        rw [show (0 : Int32) = nI 0 by rfl, nI_leI (by omega) (by omega)]
        refine ⟨fun q => ?_, fun q => ?_⟩
        · have : (nx + 9) % 10 = 9 := by omega
          rw [this]
          exact ⟨rfl, rfl⟩
        · have : (nx + 9) % 10 = nx - 1 := by omega
          rw [this, show (1 : Int32) = nI 1 by rfl, nI_sub (by omega)]
          exact ⟨rfl, rfl⟩
      have cn : (nI ((nx + 9) % 10)).toNatClampNeg = (nx + 9) % 10 := nI_clamp (by omega)
      obtain ⟨z1, z2⟩ := x4 0 (by omega)
      rw [Nat.sub_zero] at z1 z2
      have w18 : yy_up (yy_up τ 16 3 (nI ((nx + 9) % 10))) 16 2 (nI (h - 1)) 18 ((nx + 9) % 10) = nI (hs 0).1 := by simp [yy_upx, z1]
      rw [tt_cle back, tt_rA, cn, w18, tt_cle (pp_editionOf hw), tt_ck]
      refine ⟨pp_in (by omega) (by decide), pp_in (by omega) (by decide), ?_⟩
      have fr : ∀ a, a ≠ 16 → yy_up (yy_up τ 16 3 (nI ((nx + 9) % 10))) 16 2 (nI (h - 1)) a = τ a := fun a ha => by
        funext j
        simp [yy_upx, ha]
      have hR := z2.of (fr (19 + 3 * ((nx + 9) % 10)) (by omega)) (fr (19 + 3 * ((nx + 9) % 10) + 1) (by omega)) (fr (19 + 3 * ((nx + 9) % 10) + 2) (by omega))
      rw [tt_cl]
      refine tt_mono (pp_copyAll (c := pp_sel (hs 0).1 7 10) hR we (by omega)) (fun _ τ2 k => ?_)
      obtain ⟨j1, j2⟩ := k
      simp only [tt_wF, tt_rF, tt_rt]
      have f0 : ∀ a, a ≠ 0 → yy_up τ2 0 10 1 a = τ2 a := fun a ha => by
        funext j
        simp [yy_upx, ha]
      have nn := pp_CKnew (τ := τ) (τ1 := yy_up τ2 0 10 1) hw c3.1 c3.2.1 (j1.of (f0 _ (by omega)) (f0 _ (by omega)) (f0 _ (by omega))) (fun a a1 a2 a3 a4 a5 => by rw [f0 a (by omega), j2 a a3 a4 a5, fr a (by omega)])
      have e16 : τ2 16 = yy_up (yy_up τ 16 3 (nI ((nx + 9) % 10))) 16 2 (nI (h - 1)) 16 := j2 16 (by omega) (by omega) (by omega)
      refine ⟨?_, ⟨c1.of ?_ ?_, ?_⟩, ⟨nn.1, nn.2, ⟨(nx + 9) % 10, by omega, ?_, ?_, fun k hk => ?_⟩, Or.inl (by simp [yy_upx])⟩, fun a ha => ?_⟩
      · rw [f0 16 (by decide), e16]
        simp [yy_upx]
      · rw [f0 1 (by decide), j2 1 (by omega) (by omega) (by omega), fr 1 (by decide)]
      · rw [f0 2 (by decide), j2 2 (by omega) (by omega) (by omega), fr 2 (by decide)]
      · rw [f0 3 (by decide), j2 3 (by omega) (by omega) (by omega), fr 3 (by decide)]
        exact c2
      · rw [f0 16 (by decide), e16]
        simp [yy_upx]
      · rw [f0 16 (by decide), e16]
        simp [yy_upx]
      · have es : ((nx + 9) % 10 + 9 - k) % 10 = (nx + 9 - (k + 1)) % 10 := by omega
        obtain ⟨y1, y2⟩ := x4 (k + 1) (by omega)
        rw [es]
        refine ⟨?_, y2.of ?_ ?_ ?_⟩
        · rw [f0 18 (by decide), j2 18 (by omega) (by omega) (by omega), fr 18 (by decide)]
          exact y1
        all_goals rw [f0 _ (by omega), j2 _ (by omega) (by omega) (by omega), fr _ (by omega)]
      · rw [f0 a (by omega), j2 a (by omega) (by omega) (by omega), fr a (by omega)]
    · intro τ1 q
      obtain ⟨p1, p2, p3, p4⟩ := pp_pre q m1 m2 m3
      simp only [mm_X10_undo, mm_X10_undo_26, tt_wF, tt_rF, tt_br, tt_rt, p3.2.2.1, eh, tt_cl]
      generalize yy_up τ1 112 0 0 = τ' at p1 p2 p3 p4 ⊢
      refine ⟨fun q => absurd q h0, fun _ => ?_⟩
      rw [show (1 : Int32) = nI 1 by rfl, nI_sub (by omega)]
      have f6 : ∀ a, a ≠ 112 → yy_up τ' 112 6 (nI (h - 1)) a = τ' a := fun a ha => by
        funext j
        simp [yy_upx, ha]
      refine tt_up 254 (fun m τ4 => (∀ j, j < m → τ4 114 j = τ' 116 (254 * (h - 1) + j)) ∧ ∀ a, a ≠ 114 → τ4 a = yy_up τ' 112 6 (nI (h - 1)) a) (fun m τ4 hm hI => ?_) 0 _ (Nat.zero_le _) ⟨fun k hk => absurd hk (Nat.not_lt_zero k), fun a _ => rfl⟩
      obtain ⟨i1, i3⟩ := hI
      have e6 : τ4 112 6 = nI (h - 1) := by
        rw [i3 112 (by decide)]
        simp [yy_upx]
      simp only [mm_X10_undo_26b, tt_br, tt_rt, tt_rF, tt_rA, tt_wA, e6]
      simp only [nI_lit, nI_mul, nI_add]
      rw [nI_leI (by omega) (by omega), nI_clamp (by omega), nI_clamp (by omega)]
      refine ⟨fun hle => Or.inr ⟨(), by trivial, ?_⟩, fun hle => ⟨pp_in (by omega) (by decide), pp_in (by omega) (by decide), Or.inl ⟨by omega, by trivial, fun j hj => ?_, fun a a1 => by rw [← i3 a a1]; funext j; simp [yy_upx, a1]⟩⟩⟩
      · simp only [mm_X10_undo_60, tt_rF, tt_rt]
        have hm7 : m = 254 := by omega
        subst hm7
        obtain ⟨y1, y2⟩ := p3.2.2.2 0 (by omega)
        rw [Nat.sub_zero] at y1 y2
        refine ⟨e6, ⟨p1.of ?_ ?_, ?_⟩, ⟨y1.to wst.1 (fun j hj => ?_), y2.to wst.2 (fun j hj => ?_), e6, fun k hk => ?_⟩, fun a ha => ?_⟩
        · rw [i3 112 (by decide)]
          simp [yy_upx]
        · rw [i3 113 (by decide), f6 113 (by decide)]
        · rw [i3 112 (by decide)]
          simp only [yy_upx, reduceIte, Nat.reduceEqDiff]
          exact p2
        · rw [Nat.zero_add, i1 j (by omega)]
        · rw [i1 _ (by omega)]
          exact congrArg _ (by omega)
        · have hp : pp_st o n hs 1 = ((pp_st o n hs 1).1, (pp_st o n hs 1).2) := rfl
          rw [pp_st_pop hp]
          obtain ⟨v1, v2⟩ := p3.2.2.2 (k + 1) (by omega)
          have ei : h - 1 - (k + 1) = h - 1 - 1 - k := by omega
          rw [ei] at v1 v2
          have e116 : τ4 116 = τ' 116 := by rw [i3 116 (by decide), f6 116 (by decide)]
          exact ⟨v1.of e116, v2.of e116⟩
        · rw [i3 a (by omega), f6 a (by omega), p4 a (by omega)]
      · simp only [yy_upx, if_true]
        by_cases e0 : j = m
        · rw [if_pos e0, e0, i3 116 (by decide), f6 116 (by decide)]
        · rw [if_neg e0]
          exact i1 j (by omega)
end
