section
variable {T : yy_T → pp_Ed → pp_Ed → Prop} {τ : yy_T}
theorem pp_pre {τ1 : yy_T} {t f h : Nat} {bt : Nat → Nat} {o n : pp_Ed} {hs : Nat → Nat × pp_Ed} (q : ∀ a, 112 ≤ a → τ1 a = τ a) (m1 : pp_TM τ t bt) (m2 : τ 112 7 = nI f) (m3 : pp_MK τ o n h hs) : pp_TM (yy_up τ1 112 0 0) t bt ∧ yy_up τ1 112 0 0 112 7 = nI f ∧ pp_MK (yy_up τ1 112 0 0) o n h hs ∧ ∀ a, a ≠ 112 → yy_up τ1 112 0 0 a = τ1 a := by
  have z : ∀ a, a ≠ 112 → yy_up τ1 112 0 0 a = τ1 a := fun a ha => pp_z0a ha 0
  exact ⟨m1.of (by rw [pp_z0b (by decide), q 112 (by decide)]) (by rw [z 113 (by decide), q 113 (by decide)]), by rw [pp_z0b (by decide), q 112 (by decide)]; exact m2, m3.of (by rw [z 114 (by decide), q 114 (by decide)]) (by rw [z 116 (by decide), q 116 (by decide)]) (by rw [pp_z0b (by decide), q 112 (by decide)]), z⟩
/-- refused by both -/
theorem pp_refuse {A B : yy_M Int32} {r : Int32} (hT : pp_TL T) (hI : pp_I T τ) (hA : A τ = some (r, τ)) (hB : B τ = some (r, yy_up τ 112 0 0)) : ∃ τ2, (yy_cl A (fun r1 => yy_cl B (fun r2 => yy_br (r1 = r2) (yy_rt ()) yl_no))) τ = some ((), τ2) ∧ pp_I T τ2 := by
  refine pp_two (T := T) (τ := τ) (Qm := fun _ => True) r (Qc := fun τ1 => τ1 = τ) ?_ ?_
  · rw [tt_eq hA]
    exact ⟨rfl, rfl⟩
  · intro τ1 k1
    subst k1
    rw [tt_eq hB]
    exact ⟨rfl, hI.z0 hT (fun a ha => pp_z0a ha 0) (fun i hi => pp_z0b hi 0)⟩
theorem pp_isEdC (x : Int32) : ((x = 0 ∨ x = 1) ∧ mm_X9_isEdition x τ = some (1, τ)) ∨ (¬ (x = 0 ∨ x = 1) ∧ mm_X9_isEdition x τ = some (0, τ)) := by
  by_cases h0 : x = 0
  · refine Or.inl ⟨Or.inl h0, tt_of ?_⟩
    simp only [mm_X9_isEdition, tt_rF, tt_br, tt_wA, tt_rA, tt_wF, tt_rt, tt_ck, tt_cl, tt_rL, tt_wL, tt_cp, yy_upx, yy_rox, if_true, if_false, reduceIte, Nat.reduceEqDiff, and_true, true_and]
    simp [h0]
  · by_cases h1 : x = 1
    · refine Or.inl ⟨Or.inr h1, tt_of ?_⟩
      simp only [mm_X9_isEdition, tt_rF, tt_br, tt_wA, tt_rA, tt_wF, tt_rt, tt_ck, tt_cl, tt_rL, tt_wL, tt_cp, yy_upx, yy_rox, if_true, if_false, reduceIte, Nat.reduceEqDiff, and_true, true_and]
      simp [h1]
    · refine Or.inr ⟨by simp [h0, h1], tt_of ?_⟩
      simp only [mm_X9_isEdition, tt_rF, tt_br, tt_wA, tt_rA, tt_wF, tt_rt, tt_ck, tt_cl, tt_rL, tt_wL, tt_cp, yy_upx, yy_rox, if_true, if_false, reduceIte, Nat.reduceEqDiff, and_true, true_and]
      simp [h0, h1]
theorem pp_isEdW {x : Int32} (h : x = 0 ∨ x = 1) : ∃ w, w < 2 ∧ x = nI w := by
  rcases h with rfl | rfl
  · exact ⟨0, by omega, rfl⟩
  · exact ⟨1, by omega, rfl⟩
theorem pp_setC {c d i : Nat} {e f : pp_Ed} (hc : pp_RC τ c e) (he : pp_wfE e) (hd : pp_RC τ d f) (hf : pp_wfE f) {j : Nat} (hj : j < f.1) (hi : i < e.1) (hcd : c = d ∨ c + 2 < d ∨ d + 2 < c) : tt (mm_X2_setLine c (nI i) d (nI j)) τ (fun _ τ1 => pp_RC τ1 c (pp_set e i (f.2 j)) ∧ ∀ a, a ≠ c + 1 → a ≠ c + 2 → τ1 a = τ a) := by
  refine tt_mono (pp_setLine (i := i) (j := j) hc.1 hd.1 he.1 hf.1 hi hj (hd.2 j hj) (hf.2 j hj).2.1 hcd) (fun _ τ1 q => ?_)
  obtain ⟨q1, q2, q3⟩ := q
  refine ⟨⟨by rw [q3 c (by omega) (by omega)]; exact hc.1, fun k hk => ?_⟩, q3⟩
  simp only [pp_set]
  by_cases e0 : k = i
  · rw [if_pos e0, e0]
    exact q1
  · rw [if_neg e0]
    exact q2 k _ e0 (he.2 k hk).2.1 (hc.2 k hk)
/-- a reading that fails, by both -/
theorem pp_failed {A B : yy_M Int32} {t f p h : Nat} {bt : Nat → Nat} {o n : pp_Ed} {hs : Nat → Nat × pp_Ed} (hT : pp_TL T) (w : pp_W t bt o n h hs) (c3 : pp_CK T τ o n h hs) (hA : tt A τ (fun r τ1 => r = -2 - nI p ∧ (∀ a, a ≠ 1 → a ≠ 3 → a ≠ 4 → a ≠ 5 → a ≠ 6 → τ1 a = τ a) ∧ pp_TC τ1 0 bt ∧ τ1 3 1 = nI f)) (hB : ∀ τ1, (∀ a, 112 ≤ a → τ1 a = τ a) → tt B τ1 (fun r τ2 => r = -2 - nI p ∧ pp_TM τ2 0 bt ∧ τ2 112 7 = nI f ∧ pp_MK τ2 o n h hs ∧ ∀ a, a < 112 → τ2 a = τ1 a)) : ∃ τ2, (yy_cl A (fun r1 => yy_cl B (fun r2 => yy_br (r1 = r2) (yy_rt ()) yl_no))) τ = some ((), τ2) ∧ pp_I T τ2 := by
  refine pp_two (T := T) (τ := τ) (Qm := fun _ => True) _ hA ?_
  rintro τ1 ⟨q1, q2, q3⟩
  refine tt_mono (hB τ1 (fun a ha => q1 a (by omega) (by omega) (by omega) (by omega) (by omega))) (fun r τ2 k => ?_)
  obtain ⟨k0, k1, k2, k3, k4⟩ := k
  refine ⟨k0, 0, bt, o, n, f, h, hs, ⟨w.1, w.2.1, w.2.2.1, fun i hi => absurd hi (Nat.not_lt_zero i)⟩, ⟨q2.of (k4 1 (by omega)) (k4 2 (by omega)), by rw [k4 3 (by omega)]; exact q3, c3.of hT (fun a ha => ?_)⟩, k1, k2, k3⟩
  rw [k4 a (by omega), q1 a (by omega) (by omega) (by omega) (by omega) (by omega)]
theorem pp_lim0 : (80 : Int32) = nI (pp_lim 0) := rfl
theorem pp_lim1 : (600 : Int32) = nI (pp_lim 1) := rfl
/-- the reference reads one line -/
theorem pp_reads1 {τ1 : yy_T} {f : Int32} {wh t h : Nat} {bt : Nat → Nat} {o n : pp_Ed} {hs : Nat → Nat × pp_Ed} (hwh : wh < 2) (m1 : pp_TM τ t bt) (m3 : pp_MK τ o n h hs) (k : pp_mE wh t bt τ f τ1) : pp_TM τ1 0 bt ∧ pp_MK τ1 o n h hs ∧ ∀ a, a < 112 → τ1 a = τ a := by
  obtain ⟨k1, k2, k3, k4⟩ := k
  exact ⟨⟨by omega, by rw [k3]; rfl, fun i hi => absurd hi (Nat.not_lt_zero i)⟩, m3.of (k1 114 (by decide) (by decide)) (k1 116 (by decide) (by decide)) (k2 6 (by decide) (by decide) (by decide) (by decide)), fun a ha => k1 a (by omega) (by omega)⟩
/-- change -/
theorem pp_op15 (hT : pp_TL T) (hI : pp_I T τ) (y1 y2 : Int32) : ∃ τ1, mm_L_15 y1 y2 τ = some ((), τ1) ∧ pp_I T τ1 := by
  have hI0 := hI
  obtain ⟨t, bt, o, n, f, h, hs, ⟨wo, wn, wh, wb⟩, ⟨c1, c2, c3⟩, m1, m2, m3⟩ := hI
  rcases pp_hasLine c3.1 wo c3.2.1 wn y1 y2 with ⟨ok, e1⟩ | ⟨ok, e1⟩
  · obtain ⟨w, i, hw, rfl, rfl, hi⟩ := pp_OK_of ok
    have e2 : ∀ τ1, pp_RM τ1 114 0 o → pp_RM τ1 114 127 n → mm_X10_isLine (nI w) (nI i) τ1 = some (1, τ1) := by
      intro τ1 ho hn
      rcases pp_isLine ho wo hn wn (nI w) (nI i) with ⟨-, e2⟩ | ⟨no, -⟩
      · exact e2
      · exact absurd ok no
    cases hres : pp_res 0 t bt with
    | inl z =>
      obtain ⟨f1, p⟩ := z
      refine pp_failed (f := f1) (p := p) (t := t) (bt := bt) hT ⟨wo, wn, wh, wb⟩ c3 ?_ ?_
      · simp only [mm_X9_change, tt_cle e1, tt_br]
        refine ⟨fun q => absurd q (by decide), fun _ => ?_⟩
        rw [tt_cl]
        refine tt_mono (pp_readTape (wh := 0) c1 wb (by omega)) (fun r τ1 k => ?_)
        obtain ⟨k1, k2, k3⟩ := k
        rw [hres] at k3
        rcases k3 with ⟨f2, p2, z1, z2, z3, rfl, z5, z6⟩ | ⟨e, z1, -⟩
        · cases z1
          simp only [tt_br, tt_rF, tt_rt, z6]
          exact ⟨fun _ => ⟨by trivial, k1, k2, z5⟩, fun q => absurd (by trivial) q⟩
        · cases z1
      · intro τ1 q
        obtain ⟨p1, p2, p3, p4⟩ := pp_pre q m1 m2 m3
        simp only [mm_X10_change, tt_wF, tt_cle (e2 _ p3.1 p3.2.1), tt_br]
        refine ⟨fun q => absurd q (by decide), fun _ => ?_⟩
        rw [tt_cl]
        refine tt_mono (pp_mReads (wh := 0) p1 wb (by omega)) (fun r τ2 k => ?_)
        have kk := pp_reads1 (by omega) p1 p3 k
        obtain ⟨k1, k2, k3, k4⟩ := k
        rw [hres] at k4
        rcases k4 with ⟨f2, p2, z1, z2, z3, rfl, z5, z6⟩ | ⟨e, z1, -⟩
        · cases z1
          simp only [tt_br, tt_rF, tt_rt, z6]
          exact ⟨fun _ => ⟨by trivial, kk.1, z5, kk.2.1, fun a ha => by rw [kk.2.2 a ha, p4 a (by omega)]⟩, fun q => absurd (by trivial) q⟩
        · cases z1
    | inr e =>
      obtain ⟨we, we1⟩ := pp_res_w hres
      have we2 := we1 rfl
      have wl := we.2 0 (by omega)
      refine pp_twoSteps (w := w) (r := nI (e.2 0).length) (e := pp_set (pp_sel w o n) i (e.2 0)) (t1 := 0) (f1 := 0) (bt1 := bt) hT wo wn wh hw (pp_set_w (pp_sel_w wo wn) wl) (fun i hi => absurd hi (Nat.not_lt_zero i)) ?_ ?_
      · simp only [mm_X9_change, tt_cle e1, tt_br]
        refine ⟨fun q => absurd q (by decide), fun _ => ?_⟩
        rw [tt_cl]
        refine tt_mono (pp_readTape (wh := 0) c1 wb (by omega)) (fun r τ1 k => ?_)
        obtain ⟨k1, k2, k3⟩ := k
        rw [hres] at k3
        rcases k3 with ⟨f2, p2, z1, -⟩ | ⟨e9, z1, rfl, z2, z3⟩
        · cases z1
        · cases z1
          rw [tt_br]
          refine ⟨fun q => absurd q (by decide), fun _ => ?_⟩
          refine tt_mono (pp_cStep (w := w) (r := nI (e.2 0).length) (e := pp_set (pp_sel w o n) i (e.2 0)) (c3.of hT (fun a ha => k1 a (by omega) (by omega) (by omega) (by omega) (by omega))) wo wn wh hw (fun τ2 q1 q2 q3 => ?_)) (fun r τ2 k => ⟨k.1, ⟨k2.of (k.2.2 1 (by decide) (by decide)) (k.2.2 2 (by decide) (by decide)), by rw [k.2.2 3 (by decide) (by decide)]; exact z2⟩, k.2.1, fun a ha => by rw [k.2.2 a (by omega) (by omega), k1 a (by omega) (by omega) (by omega) (by omega) (by omega)]⟩)
          have s7 := pp_sel7 (w := w)
          rw [tt_cl]
          have z4 : pp_RC τ2 4 e := z3.of (q3 4 (by decide) (by decide)) (q3 5 (by decide) (by decide)) (q3 6 (by decide) (by decide))
          refine tt_mono (pp_setC (j := 0) (pp_sel_C (w := w) q1 q2) (pp_sel_w wo wn) z4 we (by omega) hi (by omega)) (fun _ τ3 k => ?_)
          have wset := pp_set_w (p := i) (pp_sel_w (w := w) wo wn) wl
          rw [tt_cle (pp_sizeOf k.1 wset i hi), tt_rt]
          refine ⟨?_, k.1, fun a a1 a2 a3 _ _ _ => k.2 a a2 a3⟩
          simp [pp_set]
      · intro τ1 q
        obtain ⟨p1, p2, p3, p4⟩ := pp_pre q m1 m2 m3
        simp only [mm_X10_change, tt_wF, tt_cle (e2 _ p3.1 p3.2.1), tt_br]
        refine ⟨fun q => absurd q (by decide), fun _ => ?_⟩
        rw [tt_cl]
        refine tt_mono (pp_mReads (wh := 0) p1 wb (by omega)) (fun r τ2 k => ?_)
        have kk := pp_reads1 (by omega) p1 p3 k
        obtain ⟨k1, k2, k3, k4⟩ := k
        rw [hres] at k4
        rcases k4 with ⟨f2, p2, z1, -⟩ | ⟨e9, z1, rfl, z2, z3⟩
        · cases z1
        · cases z1
          rw [tt_br]
          refine ⟨fun q => absurd q (by decide), fun _ => ?_⟩
          refine tt_mono (pp_mStep (w := w) (r := nI (e.2 0).length) (e := pp_set (pp_sel w o n) i (e.2 0)) kk.2.1 wo wn wh hw (fun τ3 q1 q2 q3 => ?_)) (fun r τ3 k => ⟨k.1, ⟨kk.1.of (k.2.2.1 2 (by decide)) (k.2.2.2 113 (by decide) (by decide) (by decide)), by rw [k.2.2.1 7 (by decide)]; exact z2⟩, k.2.1, fun a ha => by rw [k.2.2.2 a (by omega) (by omega) (by omega), kk.2.2 a ha, p4 a (by omega)]⟩)
          have l14 := (pp_sel_w (w := w) wo wn).1
          have ws := pp_sel_w (w := w) wo wn
          have hM := pp_sel_M hw q1 q2
          rw [tt_cl]
          refine tt_mono (pp_laysRead (i := i) hw (by omega)) (fun _ τ4 y => ?_)
          obtain ⟨y1, y2, y3⟩ := y
          have z4 : pp_RM τ3 115 0 e := z3.of (q3 115 (by decide) (by decide))
          have hR : pp_RM τ4 114 (127 * w) (pp_set (pp_sel w o n) i (e.2 0)) := by
            refine ⟨by rw [y2 _ (by omega)]; exact hM.1, fun k hk => ?_⟩
            have hk2 : k < (pp_sel w o n).1 := hk
            simp only [pp_set]
            by_cases e0 : k = i
            · rw [if_pos e0, e0]
              exact (z4.2 0 (by omega)).to wl.2.1 (fun j hj => by rw [y1 j hj])
            · rw [if_neg e0]
              exact (hM.2 k hk).to (ws.2 k hk).2.1 (fun j hj => y2 _ (by omega))
          rw [tt_cle (pp_wordsOf (i := i) hw hR l14 hi), tt_rt]
          refine ⟨by simp [pp_set], hR, fun j hj => y2 j (by omega), y3⟩
  · refine pp_refuse (r := -1) hT hI0 (tt_of ?_) (tt_of ?_)
    · simp only [mm_X9_change, tt_cle e1, tt_br, tt_rt]
      exact ⟨fun _ => ⟨by trivial, by trivial⟩, fun q => absurd (by trivial) q⟩
    · obtain ⟨p1, p2, p3, p4⟩ := pp_pre (τ1 := τ) (fun a _ => rfl) m1 m2 m3
      have e2 : mm_X10_isLine y1 y2 (yy_up τ 112 0 0) = some (0, yy_up τ 112 0 0) := by
        rcases pp_isLine p3.1 wo p3.2.1 wn y1 y2 with ⟨no, -⟩ | ⟨-, e2⟩
        · exact absurd no ok
        · exact e2
      simp only [mm_X10_change, tt_wF, tt_cle e2, tt_br, tt_rt]
      exact ⟨fun _ => ⟨by trivial, by trivial⟩, fun q => absurd (by trivial) q⟩
/-- put -/
theorem pp_op14 (hT : pp_TL T) (hI : pp_I T τ) (y1 y2 : Int32) : ∃ τ1, mm_L_14 y1 y2 τ = some ((), τ1) ∧ pp_I T τ1 := by
  have hI0 := hI
  obtain ⟨t, bt, o, n, f, h, hs, ⟨wo, wn, wh, wb⟩, ⟨c1, c2, c3⟩, m1, m2, m3⟩ := hI
  obtain ⟨u1, u2, u3, u4⟩ := pp_pre (τ1 := τ) (fun a _ => rfl) m1 m2 m3
  rcases pp_isEdC (τ := τ) y1 with ⟨ok, e1⟩ | ⟨ok, e1⟩
  · have e2 : ∀ τ1, mm_X10_isEdition y1 τ1 = some (1, τ1) := by
      intro τ1
      rcases pp_isEd (τ := τ1) y1 with ⟨-, e2⟩ | ⟨no, -⟩
      · exact e2
      · exact absurd ok no
    obtain ⟨w, hw, rfl⟩ := pp_isEdW ok
    have ws := pp_sel_w (w := w) wo wn
    have l14 := ws.1
    have hC := pp_sel_C (w := w) c3.1 c3.2.1
    by_cases hneg : y2 < 0
    · refine pp_refuse (r := -1) hT hI0 (tt_of ?_) (tt_of ?_)
      · simp only [mm_X9_put, tt_cle e1, tt_br, tt_rt]
        exact ⟨fun q => absurd q (by decide), fun _ => ⟨fun _ => ⟨by trivial, by trivial⟩, fun q => absurd hneg q⟩⟩
      · simp only [mm_X10_put, tt_wF, tt_cle (e2 _), tt_br, tt_rt, tt_cle (pp_many hw (pp_sel_M hw u3.1 u3.2.1)), tt_cle (pp_isIn _ _ _), if_pos hneg]
        exact ⟨fun q => absurd q (by decide), fun _ => ⟨fun _ => ⟨by trivial, by trivial⟩, fun q => absurd (by trivial) q⟩⟩
    · obtain ⟨j, hj, rfl⟩ := nI_of hneg
      have ej : nI j ≤ nI (pp_sel w o n).1 ↔ j ≤ (pp_sel w o n).1 := nI_leI (by omega) (by omega)
      have ej2 : nI (pp_sel w o n).1 < nI j ↔ (pp_sel w o n).1 < j := nI_ltI (by omega) (by omega)
      have e14 : nI (pp_sel w o n).1 < 14 ↔ (pp_sel w o n).1 < 14 := by rw [show (14 : Int32) = nI 14 by rfl, nI_ltI (by omega) (by omega)]
      have e14' : nI (pp_sel w o n).1 = 14 ↔ (pp_sel w o n).1 = 14 := by rw [show (14 : Int32) = nI 14 by rfl, nI_eq (by omega) (by omega)]
      by_cases hle : j ≤ (pp_sel w o n).1
      · have hisIn : ∀ τ1, mm_X10_isIn (nI j) 0 (nI (pp_sel w o n).1) τ1 = some (1, τ1) := by
          intro τ1
          rw [pp_isIn, if_neg hneg, if_neg (by rw [ej2]; omega)]
        by_cases hfull : (pp_sel w o n).1 = 14
        · refine pp_refuse (r := -1000) hT hI0 (tt_of ?_) (tt_of ?_)
          · simp only [mm_X9_put, tt_cle e1, tt_br, tt_rt, tt_cle (pp_editionOf hw), tt_rF, hC.1, ej, e14]
            exact ⟨fun q => absurd q (by decide), fun _ => ⟨fun q => absurd q hneg, fun _ => ⟨fun _ => ⟨fun q => by omega, fun _ => ⟨by trivial, by trivial⟩⟩, fun q => absurd hle q⟩⟩⟩
          · simp only [mm_X10_put, tt_wF, tt_cle (e2 _), tt_br, tt_rt, tt_cle (pp_many hw (pp_sel_M hw u3.1 u3.2.1)), tt_cle (hisIn _), e14']
            exact ⟨fun q => absurd q (by decide), fun _ => ⟨fun q => absurd q (by decide), fun _ => ⟨fun _ => ⟨by trivial, by trivial⟩, fun q => absurd hfull q⟩⟩⟩
        · cases hres : pp_res 0 t bt with
          | inl z =>
            obtain ⟨f1, p⟩ := z
            refine pp_failed (f := f1) (p := p) (t := t) (bt := bt) hT ⟨wo, wn, wh, wb⟩ c3 ?_ ?_
            · simp only [mm_X9_put, tt_cle e1, tt_br, tt_rt, tt_cle (pp_editionOf hw), tt_rF, hC.1, ej, e14]
              refine ⟨fun q => absurd q (by decide), fun _ => ⟨fun q => absurd q hneg, fun _ => ⟨fun _ => ⟨fun _ => ?_, fun q => by omega⟩, fun q => absurd hle q⟩⟩⟩
              rw [tt_cl]
              refine tt_mono (pp_readTape (wh := 0) c1 wb (by omega)) (fun r τ1 k => ?_)
              obtain ⟨k1, k2, k3⟩ := k
              rw [hres] at k3
              rcases k3 with ⟨f2, p2, z1, z2, z3, rfl, z5, z6⟩ | ⟨e, z1, -⟩
              · cases z1
                simp only [tt_br, tt_rF, tt_rt, z6]
                exact ⟨fun _ => ⟨by trivial, k1, k2, z5⟩, fun q => absurd (by trivial) q⟩
              · cases z1
            · intro τ1 q
              obtain ⟨p1, p2, p3, p4⟩ := pp_pre q m1 m2 m3
              simp only [mm_X10_put, tt_wF, tt_cle (e2 _), tt_br, tt_rt, tt_cle (pp_many hw (pp_sel_M hw p3.1 p3.2.1)), tt_cle (hisIn _), e14']
              refine ⟨fun q => absurd q (by decide), fun _ => ⟨fun q => absurd q (by decide), fun _ => ⟨fun q => absurd q hfull, fun _ => ?_⟩⟩⟩
              rw [tt_cl]
              refine tt_mono (pp_mReads (wh := 0) p1 wb (by omega)) (fun r τ2 k => ?_)
              have kk := pp_reads1 (by omega) p1 p3 k
              obtain ⟨k1, k2, k3, k4⟩ := k
              rw [hres] at k4
              rcases k4 with ⟨f2, p2, z1, z2, z3, rfl, z5, z6⟩ | ⟨e, z1, -⟩
              · cases z1
                simp only [tt_br, tt_rF, tt_rt, z6]
                exact ⟨fun _ => ⟨by trivial, kk.1, z5, kk.2.1, fun a ha => by rw [kk.2.2 a ha, p4 a (by omega)]⟩, fun q => absurd (by trivial) q⟩
              · cases z1
          | inr e =>
            obtain ⟨we, we1⟩ := pp_res_w hres
            have we2 := we1 rfl
            have wl := we.2 0 (by omega)
            have wins := pp_ins_w (p := j) ws (by omega) hle wl
            refine pp_twoSteps (w := w) (r := nI ((pp_sel w o n).1 + 1)) (e := pp_ins (pp_sel w o n) j (e.2 0)) (t1 := 0) (f1 := 0) (bt1 := bt) hT wo wn wh hw wins (fun i hi => absurd hi (Nat.not_lt_zero i)) ?_ ?_
            · simp only [mm_X9_put, tt_cle e1, tt_br, tt_rt, tt_cle (pp_editionOf hw), tt_rF, hC.1, ej, e14]
              refine ⟨fun q => absurd q (by decide), fun _ => ⟨fun q => absurd q hneg, fun _ => ⟨fun _ => ⟨fun _ => ?_, fun q => by omega⟩, fun q => absurd hle q⟩⟩⟩
              rw [tt_cl]
              refine tt_mono (pp_readTape (wh := 0) c1 wb (by omega)) (fun r τ1 k => ?_)
              obtain ⟨k1, k2, k3⟩ := k
              rw [hres] at k3
              rcases k3 with ⟨f2, p2, z1, -⟩ | ⟨e9, z1, rfl, z2, z3⟩
              · cases z1
              · cases z1
                rw [tt_br]
                refine ⟨fun q => absurd q (by decide), fun _ => ?_⟩
                refine tt_mono (pp_cStep (w := w) (r := nI ((pp_sel w o n).1 + 1)) (e := pp_ins (pp_sel w o n) j (e.2 0)) (c3.of hT (fun a ha => k1 a (by omega) (by omega) (by omega) (by omega) (by omega))) wo wn wh hw (fun τ2 q1 q2 q3 => ?_)) (fun r τ2 k => ⟨k.1, ⟨k2.of (k.2.2 1 (by decide) (by decide)) (k.2.2 2 (by decide) (by decide)), by rw [k.2.2 3 (by decide) (by decide)]; exact z2⟩, k.2.1, fun a ha => by rw [k.2.2 a (by omega) (by omega), k1 a (by omega) (by omega) (by omega) (by omega) (by omega)]⟩)
                have s7 := pp_sel7 (w := w)
                rw [tt_cl]
                have z4 : pp_RC τ2 4 e := z3.of (q3 4 (by decide) (by decide)) (q3 5 (by decide) (by decide)) (q3 6 (by decide) (by decide))
                refine tt_mono (pp_insertLine (pp_sel_C (w := w) q1 q2) ws z4 we (by omega) hle (by omega) (by omega)) (fun _ τ3 k => ?_)
                rw [tt_rF, tt_rt]
                exact ⟨k.1.1, k.1, fun a a1 a2 a3 _ _ _ => k.2 a a1 a2 a3⟩
            · intro τ1 q
              obtain ⟨p1, p2, p3, p4⟩ := pp_pre q m1 m2 m3
              simp only [mm_X10_put, tt_wF, tt_cle (e2 _), tt_br, tt_rt, tt_cle (pp_many hw (pp_sel_M hw p3.1 p3.2.1)), tt_cle (hisIn _), e14']
              refine ⟨fun q => absurd q (by decide), fun _ => ⟨fun q => absurd q (by decide), fun _ => ⟨fun q => absurd q hfull, fun _ => ?_⟩⟩⟩
              rw [tt_cl]
              refine tt_mono (pp_mReads (wh := 0) p1 wb (by omega)) (fun r τ2 k => ?_)
              have kk := pp_reads1 (by omega) p1 p3 k
              obtain ⟨k1, k2, k3, k4⟩ := k
              rw [hres] at k4
              rcases k4 with ⟨f2, p2, z1, -⟩ | ⟨e9, z1, rfl, z2, z3⟩
              · cases z1
              · cases z1
                rw [tt_br]
                refine ⟨fun q => absurd q (by decide), fun _ => ?_⟩
                refine tt_mono (pp_mStep (w := w) (r := nI ((pp_sel w o n).1 + 1)) (e := pp_ins (pp_sel w o n) j (e.2 0)) kk.2.1 wo wn wh hw (fun τ3 q1 q2 q3 => ?_)) (fun r τ3 k => ⟨k.1, ⟨kk.1.of (k.2.2.1 2 (by decide)) (k.2.2.2 113 (by decide) (by decide) (by decide)), by rw [k.2.2.1 7 (by decide)]; exact z2⟩, k.2.1, fun a ha => by rw [k.2.2.2 a (by omega) (by omega) (by omega), kk.2.2 a ha, p4 a (by omega)]⟩)
                have hM := pp_sel_M hw q1 q2
                rw [tt_cl]
                refine tt_mono (pp_opens (p := j) hw hM ws (by omega) hle) (fun _ τ4 x => ?_)
                obtain ⟨x1, x2, x3, x4⟩ := x
                rw [tt_cl]
                refine tt_mono (pp_laysRead (i := j) hw (by omega)) (fun _ τ5 y => ?_)
                obtain ⟨y1, y2, y3⟩ := y
                have z4 : pp_RM τ4 115 0 e := (z3.of (q3 115 (by decide) (by decide))).of (x4.2 115 (by decide))
                have hR : pp_RM τ5 114 (127 * w) (pp_ins (pp_sel w o n) j (e.2 0)) := by
                  refine ⟨by rw [y2 _ (by omega)]; exact x1, fun k hk => ?_⟩
                  have hk2 : k < (pp_sel w o n).1 + 1 := hk
                  simp only [pp_ins]
                  by_cases e0 : k < j
                  · rw [if_pos e0]
                    exact (x2 k e0).to (ws.2 k (by omega)).2.1 (fun j hj => y2 _ (by omega))
                  · rw [if_neg e0]
                    by_cases e3 : k = j
                    · rw [if_pos e3, e3]
                      exact (z4.2 0 (by omega)).to wl.2.1 (fun j hj => by rw [y1 j hj])
                    · rw [if_neg e3]
                      exact (x3 k (by omega) (by omega)).to (ws.2 (k - 1) (by omega)).2.1 (fun j hj => y2 _ (by omega))
                rw [tt_cle (pp_many hw hR), tt_rt]
                exact ⟨rfl, hR, fun j hj => by rw [y2 j (by omega), x4.1 j hj], fun a ha => by rw [y3 a ha, x4.2 a ha]⟩
      · refine pp_refuse (r := -1) hT hI0 (tt_of ?_) (tt_of ?_)
        · simp only [mm_X9_put, tt_cle e1, tt_br, tt_rt, tt_cle (pp_editionOf hw), tt_rF, hC.1, ej, e14]
          exact ⟨fun q => absurd q (by decide), fun _ => ⟨fun q => absurd q hneg, fun _ => ⟨fun q => absurd q hle, fun _ => ⟨by trivial, by trivial⟩⟩⟩⟩
        · have hisIn : ∀ τ1, mm_X10_isIn (nI j) 0 (nI (pp_sel w o n).1) τ1 = some (0, τ1) := by
            intro τ1
            rw [pp_isIn, if_neg hneg, if_pos (by rw [ej2]; omega)]
          simp only [mm_X10_put, tt_wF, tt_cle (e2 _), tt_br, tt_rt, tt_cle (pp_many hw (pp_sel_M hw u3.1 u3.2.1)), tt_cle (hisIn _)]
          exact ⟨fun q => absurd q (by decide), fun _ => ⟨fun _ => ⟨by trivial, by trivial⟩, fun q => absurd (by trivial) q⟩⟩
  · refine pp_refuse (r := -1) hT hI0 (tt_of ?_) (tt_of ?_)
    · simp only [mm_X9_put, tt_cle e1, tt_br, tt_rt]
      exact ⟨fun _ => ⟨by trivial, by trivial⟩, fun q => absurd (by trivial) q⟩
    · have e2 : mm_X10_isEdition y1 (yy_up τ 112 0 0) = some (0, yy_up τ 112 0 0) := by
        rcases pp_isEd (τ := yy_up τ 112 0 0) y1 with ⟨no, -⟩ | ⟨-, e2⟩
        · exact absurd no ok
        · exact e2
      simp only [mm_X10_put, tt_wF, tt_cle e2, tt_br, tt_rt]
      exact ⟨fun _ => ⟨by trivial, by trivial⟩, fun q => absurd (by trivial) q⟩
end
