/-! STEPS: calls that read the tape, change an edition, go back -/
theorem tt_cle {α β : Type} {τ τ1 : yy_T} {Q : α → yy_T → Prop} {f : yy_M β} {K : β → yy_M α} {r : β} (h : f τ = some (r, τ1)) : tt (yy_cl f K) τ Q ↔ tt (K r) τ1 Q := by
  rw [tt_cl, tt_eq h]
section
variable {T : yy_T → pp_Ed → pp_Ed → Prop} {τ : yy_T} {t f h : Nat} {bt : Nat → Nat} {o n : pp_Ed} {hs : Nat → Nat × pp_Ed}
theorem pp_readTape {wh : Nat} (hc : pp_TC τ t bt) (hb : ∀ i, i < t → bt i < 256) (hwh : wh < 2) : tt (mm_X9_readTape (nI wh)) τ (fun r τ1 => (∀ a, a ≠ 1 → a ≠ 3 → a ≠ 4 → a ≠ 5 → a ≠ 6 → τ1 a = τ a) ∧ pp_TC τ1 0 bt ∧ ((∃ f p, pp_res wh t bt = .inl (f, p) ∧ f ≤ 2 ∧ p ≤ 640 ∧ r = 0 ∧ τ1 3 1 = nI f ∧ τ1 3 2 = nI p) ∨ (∃ e, pp_res wh t bt = .inr e ∧ r = 1 ∧ τ1 3 1 = nI 0 ∧ pp_RC τ1 4 e))) := by
  simp only [mm_X9_readTape, tt_cl, tt_wF, tt_ck, tt_rt]
  refine tt_mono (pp_cRead hc hb hwh) (fun r τ1 q => ?_)
  obtain ⟨q1, q2⟩ := q
  have fr : (∀ a, a ≠ 1 → a ≠ 3 → a ≠ 4 → a ≠ 5 → a ≠ 6 → yy_up τ1 1 1 0 a = τ a) := fun a a1 a3 a4 a5 a6 => by
    rw [← q1 a a3 a4 a5 a6]
    funext j
    simp [yy_upx, a1]
  have tc : pp_TC (yy_up τ1 1 1 0) 0 bt := ⟨by omega, by simp [yy_upx]; rfl, fun i hi => absurd hi (Nat.not_lt_zero i)⟩
  rcases q2 with ⟨f, p, q2, q3, q4, q5, q6, q7⟩ | ⟨e, q2, q3, q4, q5⟩
  · exact ⟨Or.inl q5, fr, tc, Or.inl ⟨f, p, q2, q3, q4, q5, by simp [yy_upx, q6], by simp [yy_upx, q7]⟩⟩
  · exact ⟨Or.inr q3, fr, tc, Or.inr ⟨e, q2, q3, by simp [yy_upx, q4]; rfl, q5.of (by funext j; simp [yy_upx]) (by funext j; simp [yy_upx]) (by funext j; simp [yy_upx])⟩⟩
theorem pp_startStep {w : Nat} (hk : pp_CK T τ o n h hs) (wo : pp_wfE o) (wn : pp_wfE n) (wh : pp_wH h hs) (hw : w < 2) : tt (mm_X9_startStep (nI w)) τ (fun r τ1 => r = pp_sel w 7 10 ∧ pp_RC τ1 7 o ∧ pp_RC τ1 10 n ∧ pp_PC τ1 (pp_h1 h) (pp_push hs w (pp_sel w o n)) ∧ τ1 0 10 = 1 ∧ ∀ a, a ≠ 0 → (a < 16 ∨ 49 ≤ a) → τ1 a = τ a) := by
  obtain ⟨h1, h2, h3, h4⟩ := hk
  have hc : pp_RC τ (pp_sel w 7 10) (pp_sel w o n) ∧ pp_wfE (pp_sel w o n) ∧ pp_sel w 7 10 + 2 < 16 := by
    unfold pp_sel
    split
    · exact ⟨h1, wo, by omega⟩
    · exact ⟨h2, wn, by omega⟩
  simp only [mm_X9_startStep, tt_cl, tt_eq (pp_editionOf hw)]
  refine tt_mono (pp_keep h3 wh hc.1 hc.2.1 hw hc.2.2) (fun _ τ1 q => ?_)
  obtain ⟨q1, q2⟩ := q
  simp only [tt_wF, tt_cl, tt_eq (pp_editionOf hw), tt_rt]
  have fr : ∀ a, a ≠ 0 → yy_up τ1 0 10 1 a = τ1 a := fun a ha => by
    funext j
    simp [yy_upx, ha]
  refine ⟨by trivial, h1.of ?_ ?_ ?_, h2.of ?_ ?_ ?_, q1.of (fun a a1 a2 => fr a (by omega)), by simp [yy_upx], fun a a1 a2 => by rw [fr a a1, q2 a a2]⟩
  all_goals rw [fr _ (by omega), q2 _ (by omega)]
/-- an edition has changed: the class -/
theorem pp_CKnew {τ1 : yy_T} {w : Nat} {e : pp_Ed} (hw : w < 2) (ho : pp_RC τ 7 o) (hn : pp_RC τ 10 n) (h1 : pp_RC τ1 (pp_sel w 7 10) e) (fr : ∀ a, 7 ≤ a → a < 13 → a ≠ pp_sel w 7 10 → a ≠ pp_sel w 7 10 + 1 → a ≠ pp_sel w 7 10 + 2 → τ1 a = τ a) : pp_RC τ1 7 (pp_new w e o n).1 ∧ pp_RC τ1 10 (pp_new w e o n).2 := by
  rcases (show w = 0 ∨ w = 1 by omega) with rfl | rfl
  · exact ⟨h1, hn.of (fr 10 (by decide) (by decide) (by decide) (by decide) (by decide)) (fr 11 (by decide) (by decide) (by decide) (by decide) (by decide)) (fr 12 (by decide) (by decide) (by decide) (by decide) (by decide))⟩
  · exact ⟨ho.of (fr 7 (by decide) (by decide) (by decide) (by decide) (by decide)) (fr 8 (by decide) (by decide) (by decide) (by decide) (by decide)) (fr 9 (by decide) (by decide) (by decide) (by decide) (by decide)), h1⟩
theorem pp_MKnew {τ1 : yy_T} {w : Nat} {e : pp_Ed} (hw : w < 2) (ho : pp_RM τ 114 0 o) (wo : pp_wfE o) (hn : pp_RM τ 114 127 n) (wn : pp_wfE n) (h1 : pp_RM τ1 114 (127 * w) e) (fr : pp_out w τ τ1) : pp_RM τ1 114 0 (pp_new w e o n).1 ∧ pp_RM τ1 114 127 (pp_new w e o n).2 := by
  rcases (show w = 0 ∨ w = 1 by omega) with rfl | rfl
  · exact ⟨h1, hn.row wn (fun j j1 j2 => fr.1 j (by omega))⟩
  · exact ⟨ho.row wo (fun j j1 j2 => fr.1 j (by omega)), h1⟩
theorem pp_new_w {w : Nat} {e : pp_Ed} (wo : pp_wfE o) (wn : pp_wfE n) (we : pp_wfE e) : pp_wfE (pp_new w e o n).1 ∧ pp_wfE (pp_new w e o n).2 := by
  unfold pp_new
  split
  · exact ⟨we, wn⟩
  · exact ⟨wo, we⟩
theorem pp_sel_w {w : Nat} (wo : pp_wfE o) (wn : pp_wfE n) : pp_wfE (pp_sel w o n) := by
  unfold pp_sel
  split
  · exact wo
  · exact wn
theorem pp_sel_C {w : Nat} (ho : pp_RC τ 7 o) (hn : pp_RC τ 10 n) : pp_RC τ (pp_sel w 7 10) (pp_sel w o n) := by
  unfold pp_sel
  split
  · exact ho
  · exact hn
theorem pp_sel_M {w : Nat} (hw : w < 2) (ho : pp_RM τ 114 0 o) (hn : pp_RM τ 114 127 n) : pp_RM τ 114 (127 * w) (pp_sel w o n) := by
  rcases (show w = 0 ∨ w = 1 by omega) with rfl | rfl
  · exact ho
  · exact hn
theorem pp_sel7 {w : Nat} : pp_sel w 7 10 = 7 ∨ pp_sel w 7 10 = 10 := by
  unfold pp_sel
  split
  · exact Or.inl rfl
  · exact Or.inr rfl
/-- the class's step as a whole: it starts, some program P changes the edition, and answers -/
theorem pp_cStep {w : Nat} {P : Nat → yy_M Int32} {r : Int32} {e : pp_Ed} (hk : pp_CK T τ o n h hs) (wo : pp_wfE o) (wn : pp_wfE n) (wh : pp_wH h hs) (hw : w < 2) (hP : ∀ τ1, pp_RC τ1 7 o → pp_RC τ1 10 n → (∀ a, a ≠ 0 → (a < 16 ∨ 49 ≤ a) → τ1 a = τ a) → tt (P (pp_sel w 7 10)) τ1 (fun r1 τ2 => r1 = r ∧ pp_RC τ2 (pp_sel w 7 10) e ∧ ∀ a, a ≠ pp_sel w 7 10 → a ≠ pp_sel w 7 10 + 1 → a ≠ pp_sel w 7 10 + 2 → a ≠ 13 → a ≠ 14 → a ≠ 15 → τ2 a = τ1 a)) : tt (yy_cl (mm_X9_startStep (nI w)) P) τ (fun r1 τ1 => r1 = r ∧ pp_CK T τ1 (pp_new w e o n).1 (pp_new w e o n).2 (pp_h1 h) (pp_push hs w (pp_sel w o n)) ∧ ∀ a, a ≠ 0 → (a < 7 ∨ 49 ≤ a) → τ1 a = τ a) := by
  rw [tt_cl]
  refine tt_mono (pp_startStep hk wo wn wh hw) (fun r1 τ1 q => ?_)
  obtain ⟨rfl, q1, q2, q3, q4, q5⟩ := q
  refine tt_mono (hP τ1 q1 q2 q5) (fun r2 τ2 k => ?_)
  obtain ⟨k0, k1, k2⟩ := k
  have s7 := pp_sel7 (w := w)
  have nw := pp_CKnew hw q1 q2 k1 (fun a a1 a2 a3 a4 a5 => k2 a a3 a4 a5 (by omega) (by omega) (by omega))
  refine ⟨k0, ⟨nw.1, nw.2, q3.of (fun a a1 a2 => k2 a (by omega) (by omega) (by omega) (by omega) (by omega) (by omega)), Or.inl ?_⟩, fun a a1 a2 => ?_⟩
  · rw [k2 0 (by omega) (by omega) (by omega) (by omega) (by omega) (by omega)]
    exact q4
  · rw [k2 a (by omega) (by omega) (by omega) (by omega) (by omega) (by omega), q5 a a1 (by omega)]
/-- the reference's step: it snaps, then P changes the edition -/
theorem pp_mStep {w : Nat} {P : Unit → yy_M Int32} {r : Int32} {e : pp_Ed} (hk : pp_MK τ o n h hs) (wo : pp_wfE o) (wn : pp_wfE n) (wh : pp_wH h hs) (hw : w < 2) (hP : ∀ τ1, pp_RM τ1 114 0 o → pp_RM τ1 114 127 n → (∀ a, a ≠ 112 → a ≠ 116 → τ1 a = τ a) → tt (P ()) τ1 (fun r1 τ2 => r1 = r ∧ pp_RM τ2 114 (127 * w) e ∧ pp_out w τ1 τ2)) : tt (yy_cl mm_X10_snap P) τ (fun r1 τ1 => r1 = r ∧ pp_MK τ1 (pp_new w e o n).1 (pp_new w e o n).2 (pp_h1 h) (pp_push hs w (pp_sel w o n)) ∧ (∀ k, k ≠ 6 → τ1 112 k = τ 112 k) ∧ ∀ a, a ≠ 112 → a ≠ 114 → a ≠ 116 → τ1 a = τ a) := by
  rw [tt_cl]
  obtain ⟨h1, h2, h3⟩ := hk
  refine tt_mono (pp_snap (w := w) h3 wh h1 wo h2 wn) (fun u τ1 q => ?_)
  cases u
  obtain ⟨q1, q2, q3⟩ := q
  have e114 := q3 114 (by decide) (by decide)
  refine tt_mono (hP τ1 (h1.of e114) (h2.of e114) q3) (fun r2 τ2 k => ?_)
  obtain ⟨k0, k1, k2⟩ := k
  have nw := pp_MKnew hw (h1.of e114) wo (h2.of e114) wn k1 k2
  refine ⟨k0, ⟨nw.1, nw.2, (q1 w e).of (k2.2 116 (by decide)) (by rw [k2.2 112 (by decide)])⟩, fun k hk => ?_, fun a a1 a2 a3 => ?_⟩
  · rw [k2.2 112 (by decide)]
    exact q2 k hk
  · rw [k2.2 a a2, q3 a a1 a3]
/-- both steps, joined -/
theorem pp_twoSteps {A B : yy_M Int32} {w : Nat} {r : Int32} {e : pp_Ed} {t1 f1 : Nat} {bt1 : Nat → Nat} {τ0 : yy_T} (hT : pp_TL T) (wo : pp_wfE o) (wn : pp_wfE n) (wh : pp_wH h hs) (hw : w < 2) (we : pp_wfE e) (wb : ∀ i, i < t1 → bt1 i < 256) (hA : tt A τ0 (fun r1 τ1 => r1 = r ∧ (pp_TC τ1 t1 bt1 ∧ τ1 3 1 = nI f1) ∧ pp_CK T τ1 (pp_new w e o n).1 (pp_new w e o n).2 (pp_h1 h) (pp_push hs w (pp_sel w o n)) ∧ ∀ a, 112 ≤ a → τ1 a = τ0 a)) (hB : ∀ τ1, (∀ a, 112 ≤ a → τ1 a = τ0 a) → tt B τ1 (fun r1 τ2 => r1 = r ∧ (pp_TM τ2 t1 bt1 ∧ τ2 112 7 = nI f1) ∧ pp_MK τ2 (pp_new w e o n).1 (pp_new w e o n).2 (pp_h1 h) (pp_push hs w (pp_sel w o n)) ∧ ∀ a, a < 112 → τ2 a = τ1 a)) : ∃ τ2, (yy_cl A (fun r1 => yy_cl B (fun r2 => yy_br (r1 = r2) (yy_rt ()) yl_no))) τ0 = some ((), τ2) ∧ pp_I T τ2 := by
  refine pp_two (T := T) (τ := τ0) (Qm := fun _ => True) r (Qc := fun τ1 => (pp_TC τ1 t1 bt1 ∧ τ1 3 1 = nI f1) ∧ pp_CK T τ1 (pp_new w e o n).1 (pp_new w e o n).2 (pp_h1 h) (pp_push hs w (pp_sel w o n)) ∧ ∀ a, 112 ≤ a → τ1 a = τ0 a) hA ?_
  rintro τ1 ⟨⟨q1, q2⟩, q3, q4⟩
  refine tt_mono (hB τ1 q4) (fun r1 τ2 k => ?_)
  obtain ⟨k0, ⟨k1, k2⟩, k3, k4⟩ := k
  refine ⟨k0, t1, bt1, _, _, f1, _, _, ⟨(pp_new_w wo wn we).1, (pp_new_w wo wn we).2, pp_wH_push wh hw (pp_sel_w wo wn), wb⟩, ⟨q1.of (k4 1 (by omega)) (k4 2 (by omega)), by rw [k4 3 (by omega)]; exact q2, q3.of hT (fun a ha => k4 a (by omega))⟩, k1, k2, k3⟩
theorem pp_rem_w {e : pp_Ed} {p : Nat} (he : pp_wfE e) (hp : p < e.1) : pp_wfE (pp_rem e p) := by
  refine ⟨by have := he.1; show e.1 - 1 ≤ 14; omega, fun i hi => ?_⟩
  have hi2 : i < e.1 - 1 := hi
  simp only [pp_rem]
  split
  · exact he.2 i (by omega)
  · exact he.2 _ (by omega)
theorem pp_ins_w {e : pp_Ed} {p : Nat} {l : pp_L} (he : pp_wfE e) (h14 : e.1 < 14) (hp : p ≤ e.1) (hl : pp_wfL l) : pp_wfE (pp_ins e p l) := by
  refine ⟨by show e.1 + 1 ≤ 14; omega, fun i hi => ?_⟩
  have hi2 : i < e.1 + 1 := hi
  simp only [pp_ins]
  split
  · exact he.2 i (by omega)
  · split
    · exact hl
    · exact he.2 _ (by omega)
theorem pp_set_w {e : pp_Ed} {p : Nat} {l : pp_L} (he : pp_wfE e) (hl : pp_wfL l) : pp_wfE (pp_set e p l) := by
  refine ⟨he.1, fun i hi => ?_⟩
  simp only [pp_set]
  split
  · exact hl
  · exact he.2 i hi
theorem pp_arr_w {e : pp_Ed} {fr m p : Nat} (he : pp_wfE e) (h1 : fr + m ≤ e.1) (h2 : p + m ≤ e.1) : pp_wfE (pp_arr e fr m p) := ⟨he.1, fun i hi => he.2 _ (pp_src_lt hi h1 h2)⟩
/-- cut -/
theorem pp_op16 (hT : pp_TL T) (hI : pp_I T τ) (y1 y2 : Int32) : ∃ τ1, mm_L_16 y1 y2 τ = some ((), τ1) ∧ pp_I T τ1 := by
  have hI0 := hI
  obtain ⟨t, bt, o, n, f, h, hs, ⟨wo, wn, wh, wb⟩, ⟨c1, c2, c3⟩, m1, m2, m3⟩ := hI
  have m3' : pp_MK (yy_up τ 112 0 0) o n h hs := m3.of (by funext j; simp [yy_upx]) (by funext j; simp [yy_upx]) (by simp [yy_upx])
  rcases pp_hasLine c3.1 wo c3.2.1 wn y1 y2 with ⟨ok, e1⟩ | ⟨ok, e1⟩
  · obtain ⟨w, i, hw, rfl, rfl, hi⟩ := pp_OK_of ok
    refine pp_twoSteps (w := w) (r := nI ((pp_sel w o n).1 - 1)) (e := pp_rem (pp_sel w o n) i) (t1 := t) (f1 := f) (bt1 := bt) hT wo wn wh hw (pp_rem_w (pp_sel_w wo wn) hi) wb ?_ ?_
    · simp only [mm_X9_cut, tt_cle e1, tt_br]
      refine ⟨fun q => absurd q (by decide), fun _ => ?_⟩
      refine tt_mono (pp_cStep (w := w) (r := nI ((pp_sel w o n).1 - 1)) (e := pp_rem (pp_sel w o n) i) c3 wo wn wh hw (fun τ1 q1 q2 q3 => ?_)) (fun r τ1 k => ⟨k.1, ⟨c1.of (k.2.2 1 (by decide) (by decide)) (k.2.2 2 (by decide) (by decide)), by rw [k.2.2 3 (by decide) (by decide)]; exact c2⟩, k.2.1, fun a ha => k.2.2 a (by omega) (by omega)⟩)
      simp only [tt_cl, tt_rF, tt_rt]
      refine tt_mono (pp_removeLine (pp_sel_C (w := w) q1 q2) (pp_sel_w wo wn) hi) (fun _ τ2 k => ?_)
      exact ⟨k.1.1, k.1, fun a a1 a2 a3 _ _ _ => k.2 a a1 a2 a3⟩
    · intro τ1 q
      have z : ∀ a, 112 ≤ a → yy_up τ1 112 0 0 a = yy_up τ 112 0 0 a := fun a ha => by
        funext j
        simp only [yy_upx, q a ha]
      have ho := m3'.1.of (z 114 (by decide))
      have hn := m3'.2.1.of (z 114 (by decide))
      have e2 : mm_X10_isLine (nI w) (nI i) (yy_up τ1 112 0 0) = some (1, yy_up τ1 112 0 0) := by
        rcases pp_isLine ho wo hn wn (nI w) (nI i) with ⟨-, e2⟩ | ⟨no, -⟩
        · exact e2
        · exact absurd ok no
      simp only [mm_X10_cut, tt_wF, tt_cle e2, tt_br]
      refine ⟨fun q => absurd q (by decide), fun _ => ?_⟩
      refine tt_mono (pp_mStep (w := w) (r := nI ((pp_sel w o n).1 - 1)) (e := pp_rem (pp_sel w o n) i) (m3'.of (z 114 (by decide)) (z 116 (by decide)) (by rw [z 112 (by decide)])) wo wn wh hw (fun τ2 q1 q2 q3 => ?_)) (fun r τ2 k => ⟨k.1, ⟨m1.of ?_ ?_, ?_⟩, k.2.1, fun a ha => ?_⟩)
      · simp only [tt_cl, tt_rt]
        refine tt_mono (pp_closes hw (pp_sel_M hw q1 q2) (pp_sel_w wo wn) hi) (fun _ τ3 k => ?_)
        rw [tt_eq (pp_many hw k.1)]
        exact ⟨rfl, k.1, k.2⟩
      · rw [k.2.2.1 2 (by decide), z 112 (by decide)]
        simp [yy_upx]
      · rw [k.2.2.2 113 (by decide) (by decide) (by decide), z 113 (by decide)]
        funext j
        simp [yy_upx]
      · rw [k.2.2.1 7 (by decide), z 112 (by decide)]
        simp [yy_upx, m2]
      · rw [k.2.2.2 a (by omega) (by omega) (by omega)]
        exact pp_z0a (by omega) 0
  · refine pp_two (T := T) (τ := τ) (Qm := fun _ => True) (-1) (Qc := fun τ1 => τ1 = τ) ?_ ?_
    · simp only [mm_X9_cut, tt_cl, tt_eq e1, tt_br, tt_rt]
      exact ⟨fun _ => ⟨by trivial, by trivial⟩, fun q => absurd (by trivial) q⟩
    · intro τ1 k1
      subst k1
      have e2 : mm_X10_isLine y1 y2 (yy_up τ1 112 0 0) = some (0, yy_up τ1 112 0 0) := by
        rcases pp_isLine m3'.1 wo m3'.2.1 wn y1 y2 with ⟨no, -⟩ | ⟨-, e2⟩
        · exact absurd no ok
        · exact e2
      simp only [mm_X10_cut, tt_wF, tt_cl, tt_eq e2, tt_br, tt_rt]
      exact ⟨fun _ => ⟨by trivial, hI0.z0 hT (fun a ha => pp_z0a ha 0) (fun i hi => pp_z0b hi 0)⟩, fun q => absurd (by trivial) q⟩
end
