/-! ASKED: shared, stays -/
def pp_fr (τ1 τ2 : yy_T) : Prop := (∀ a, a < 112 → τ2 a = τ1 a) ∧ τ2 112 2 = τ1 112 2 ∧ τ2 112 6 = τ1 112 6 ∧ τ2 112 7 = τ1 112 7 ∧ τ2 113 = τ1 113 ∧ τ2 114 = τ1 114 ∧ τ2 116 = τ1 116
def pp_fc (τ τ1 : yy_T) : Prop := ∀ a, (a < 13 ∨ (16 ≤ a ∧ a < 49) ∨ (84 ≤ a ∧ a < 98) ∨ 112 ≤ a) → τ1 a = τ a
section
variable {T : yy_T → pp_Ed → pp_Ed → Prop} {τ : yy_T}
theorem pp_fr.re {τ1 : yy_T} : pp_fr τ1 τ1 := ⟨fun _ _ => rfl, rfl, rfl, rfl, rfl, rfl, rfl⟩
theorem pp_fr.tr {τ1 τ2 τ3 : yy_T} (h : pp_fr τ1 τ2) (k : pp_fr τ2 τ3) : pp_fr τ1 τ3 :=
  ⟨fun a ha => (k.1 a ha).trans (h.1 a ha), k.2.1.trans h.2.1, k.2.2.1.trans h.2.2.1, k.2.2.2.1.trans h.2.2.2.1, k.2.2.2.2.1.trans h.2.2.2.2.1, k.2.2.2.2.2.1.trans h.2.2.2.2.2.1, k.2.2.2.2.2.2.trans h.2.2.2.2.2.2⟩
theorem pp_fr.z0 {v : Int32} : pp_fr τ (yy_up τ 112 0 v) := ⟨fun a ha => pp_z0a (by omega) v, pp_z0b (by decide) v, pp_z0b (by decide) v, pp_z0b (by decide) v, pp_z0a (by decide) v, pp_z0a (by decide) v, pp_z0a (by decide) v⟩
theorem pp_fr.of {τ1 : yy_T} (h : ∀ a, a < 117 → τ1 a = τ a) : pp_fr τ τ1 := ⟨fun a ha => h a (by omega), by rw [h 112 (by omega)], by rw [h 112 (by omega)], by rw [h 112 (by omega)], h 113 (by omega), h 114 (by omega), h 116 (by omega)⟩
theorem pp_fr.M {τ1 : yy_T} {t f h : Nat} {bt : Nat → Nat} {o n : pp_Ed} {hs : Nat → Nat × pp_Ed} (k : pp_fr τ τ1) (m1 : pp_TM τ t bt) (m2 : τ 112 7 = nI f) (m3 : pp_MK τ o n h hs) : (pp_TM τ1 t bt ∧ τ1 112 7 = nI f) ∧ pp_MK τ1 o n h hs ∧ ∀ a, a < 112 → τ1 a = τ a := by
  obtain ⟨k1, k2, k3, k4, k5, k6, k7⟩ := k
  exact ⟨⟨m1.of k2 k5, by rw [k4]; exact m2⟩, m3.of k6 k7 k3, k1⟩
/-- asked: what class and reference tell is as it was -/
theorem pp_asking {A B : yy_M Int32} {r : Int32} (hT : pp_TL T) (hI : pp_I T τ) (hA : tt A τ (fun r1 τ1 => r1 = r ∧ pp_fc τ τ1)) (hB : ∀ τ1, (∀ a, 112 ≤ a → τ1 a = τ a) → tt B τ1 (fun r2 τ2 => r2 = r ∧ pp_fr τ1 τ2)) : ∃ τ2, (yy_cl A (fun r1 => yy_cl B (fun r2 => yy_br (r1 = r2) (yy_rt ()) yl_no))) τ = some ((), τ2) ∧ pp_I T τ2 := by
  obtain ⟨t, bt, o, n, f, h, hs, w, ⟨c1, c2, c3⟩, m1, m2, m3⟩ := hI
  refine pp_twoNew (r := r) (f1 := f) hT w (tt_mono hA (fun r1 τ1 q => ?_)) (fun τ1 q => tt_mono (hB τ1 q) (fun r2 τ2 k => ?_))
  · obtain ⟨q0, q⟩ := q
    exact ⟨q0, ⟨c1.of (q 1 (by omega)) (q 2 (by omega)), by rw [q 3 (by omega)]; exact c2⟩, c3.of hT (fun a ha => q a (by omega)), fun a ha => q a (by omega)⟩
  · obtain ⟨k0, k⟩ := k
    have m1' : pp_TM τ1 t bt := m1.of (by rw [q 112 (by omega)]) (q 113 (by omega))
    have m3' : pp_MK τ1 o n h hs := m3.of (q 114 (by omega)) (q 116 (by omega)) (by rw [q 112 (by omega)])
    exact ⟨k0, k.M m1' (by rw [q 112 (by omega)]; exact m2) m3'⟩
theorem pp_areLines {o n : pp_Ed} (ho : pp_RM τ 114 0 o) (wo : pp_wfE o) (hn : pp_RM τ 114 127 n) (wn : pp_wfE n) (x1 x2 : Int32) : ((pp_ln x1 o.1 ∧ pp_ln x2 n.1) ∧ mm_X10_areLines x1 x2 τ = some (1, τ)) ∨ (¬ (pp_ln x1 o.1 ∧ pp_ln x2 n.1) ∧ mm_X10_areLines x1 x2 τ = some (0, τ)) := by
  have k0 : pp_OK 0 x1 o n ↔ pp_ln x1 o.1 := by
    unfold pp_OK
    simp
  have k1 : pp_OK 1 x2 o n ↔ pp_ln x2 n.1 := by
    unfold pp_OK
    simp
  rcases pp_isLine ho wo hn wn 0 x1 with ⟨a1, e1⟩ | ⟨a1, e1⟩
  · rcases pp_isLine ho wo hn wn 1 x2 with ⟨a2, e2⟩ | ⟨a2, e2⟩
    · refine Or.inl ⟨⟨k0.mp a1, k1.mp a2⟩, tt_of ?_⟩
      simp only [mm_X10_areLines, tt_cle e1, tt_cle e2, tt_br, tt_rt]
      exact ⟨fun q => absurd q (by decide), fun _ => ⟨fun q => absurd q (by decide), fun _ => ⟨by trivial, by trivial⟩⟩⟩
    · refine Or.inr ⟨fun z => a2 (k1.mpr z.2), tt_of ?_⟩
      simp only [mm_X10_areLines, tt_cle e1, tt_cle e2, tt_br, tt_rt]
      exact ⟨fun q => absurd q (by decide), fun _ => ⟨fun _ => ⟨by trivial, by trivial⟩, fun q => absurd (by trivial) q⟩⟩
  · refine Or.inr ⟨fun z => a1 (k0.mpr z.1), tt_of ?_⟩
    simp only [mm_X10_areLines, tt_cle e1, tt_br, tt_rt]
    exact ⟨fun _ => ⟨by trivial, by trivial⟩, fun q => absurd (by trivial) q⟩
/-- the class asks for two lines -/
theorem pp_hasTwo {o n : pp_Ed} (ho : pp_RC τ 7 o) (wo : pp_wfE o) (hn : pp_RC τ 10 n) (wn : pp_wfE n) (x1 x2 : Int32) (K : yy_M Int32) (Q : Int32 → yy_T → Prop) (h1 : pp_ln x1 o.1 ∧ pp_ln x2 n.1 → tt K τ Q) (h2 : ¬ (pp_ln x1 o.1 ∧ pp_ln x2 n.1) → Q (-1) τ) : tt (yy_cl (mm_X9_hasLine 0 x1) (fun r1 => yy_br (r1 = 0) (yy_rt ((-1))) (yy_cl (mm_X9_hasLine 1 x2) (fun r2 => yy_br (r2 = 0) (yy_rt ((-1))) K)))) τ Q := by
  have k0 : pp_OK 0 x1 o n ↔ pp_ln x1 o.1 := by
    unfold pp_OK
    simp
  have k1 : pp_OK 1 x2 o n ↔ pp_ln x2 n.1 := by
    unfold pp_OK
    simp
  rcases pp_hasLine ho wo hn wn 0 x1 with ⟨a1, e1⟩ | ⟨a1, e1⟩
  · rcases pp_hasLine ho wo hn wn 1 x2 with ⟨a2, e2⟩ | ⟨a2, e2⟩
    · simp only [tt_cle e1, tt_cle e2, tt_br, tt_rt]
      exact ⟨fun q => absurd q (by decide), fun _ => ⟨fun q => absurd q (by decide), fun _ => h1 ⟨k0.mp a1, k1.mp a2⟩⟩⟩
    · simp only [tt_cle e1, tt_cle e2, tt_br, tt_rt]
      exact ⟨fun q => absurd q (by decide), fun _ => ⟨fun _ => h2 (fun z => a2 (k1.mpr z.2)), fun q => absurd (by trivial) q⟩⟩
  · simp only [tt_cle e1, tt_br, tt_rt]
    exact ⟨fun _ => h2 (fun z => a1 (k0.mpr z.1)), fun q => absurd (by trivial) q⟩
theorem pp_op8 (hT : pp_TL T) (hI : pp_I T τ) (y1 y2 : Int32) : ∃ τ1, mm_L_8 y1 y2 τ = some ((), τ1) ∧ pp_I T τ1 := by
  have hI0 := hI
  obtain ⟨t, bt, o, n, f, h, hs, ⟨wo, wn, wh, wb⟩, ⟨c1, c2, c3⟩, m1, m2, m3⟩ := hI
  by_cases ok : pp_ln y1 o.1 ∧ pp_ln y2 n.1
  · obtain ⟨i, hi, rfl⟩ := nI_of ok.1.1
    obtain ⟨j, hj, rfl⟩ := nI_of ok.2.1
    have hi2 := (pp_ln_nI hi).mp ok.1
    have hj2 := (pp_ln_nI hj).mp ok.2
    refine pp_asking (r := nI (pp_sh (o.2 i) (n.2 j))) hT hI0 ?_ (fun τ1 k => ?_)
    · refine pp_hasTwo c3.1 wo c3.2.1 wn _ _ _ _ (fun _ => ?_) (fun q => absurd ok q)
      rw [tt_cl]
      refine tt_mono (pp_measureWords c3.1 wo c3.2.1 wn hi2 hj2) (fun r τ1 q => ?_)
      rw [tt_rt]
      exact ⟨q.1, fun a ha => q.2.2 a (by omega)⟩
    · obtain ⟨u1, u2, u3, u4⟩ := pp_pre k m1 m2 m3
      rcases pp_areLines u3.1 wo u3.2.1 wn (nI i) (nI j) with ⟨-, e⟩ | ⟨no, -⟩
      · simp only [mm_X10_shared, tt_wF, tt_cle e, tt_br]
        refine ⟨fun q => absurd q (by decide), fun _ => ?_⟩
        rw [tt_cl]
        refine tt_mono (pp_sharedOf u3.1 wo u3.2.1 wn hi2 hj2) (fun r τ2 q => ?_)
        rw [tt_rt]
        exact ⟨q.1, pp_fr.z0.tr (pp_fr.of (fun a ha => q.2.2 a (by omega)))⟩
      · exact absurd ok no
  · refine pp_asking (r := -1) hT hI0 ?_ (fun τ1 k => ?_)
    · exact pp_hasTwo c3.1 wo c3.2.1 wn _ _ _ _ (fun q => absurd q ok) (fun _ => ⟨rfl, fun a _ => rfl⟩)
    · obtain ⟨u1, u2, u3, u4⟩ := pp_pre k m1 m2 m3
      rcases pp_areLines u3.1 wo u3.2.1 wn y1 y2 with ⟨yes, -⟩ | ⟨-, e⟩
      · exact absurd yes ok
      · simp only [mm_X10_shared, tt_wF, tt_cle e, tt_br, tt_rt]
        exact ⟨fun _ => ⟨by trivial, pp_fr.z0⟩, fun q => absurd (by trivial) q⟩
theorem pp_op9 (hT : pp_TL T) (hI : pp_I T τ) (y1 y2 y3 : Int32) : ∃ τ1, mm_L_9 y1 y2 y3 τ = some ((), τ1) ∧ pp_I T τ1 := by
  have hI0 := hI
  obtain ⟨t, bt, o, n, f, h, hs, ⟨wo, wn, wh, wb⟩, ⟨c1, c2, c3⟩, m1, m2, m3⟩ := hI
  by_cases ok : pp_ln y1 o.1 ∧ pp_ln y3 n.1
  · obtain ⟨i, hi, rfl⟩ := nI_of ok.1.1
    obtain ⟨j, hj, rfl⟩ := nI_of ok.2.1
    have hi2 := (pp_ln_nI hi).mp ok.1
    have hj2 := (pp_ln_nI hj).mp ok.2
    have w1 := wo.2 i hi2
    have w2 := wn.2 j hj2
    have l1 := w1.2.1
    have l2 := w2.2.1
    have cls : ∀ r, (∀ k, k < (o.2 i).length → y2 = nI k → r = pp_pa (pp_EW (o.2 i) (n.2 j)) (o.2 i).length (n.2 j).length k) → (¬ pp_ln y2 (o.2 i).length → r = -1) → tt (mm_X9_stays (nI i) y2 (nI j)) τ (fun r1 τ1 => r1 = r ∧ pp_fc τ τ1) := by
      intro r hr1 hr2
      refine pp_hasTwo c3.1 wo c3.2.1 wn _ _ _ _ (fun _ => ?_) (fun q => absurd ok q)
      rw [tt_cl]
      refine tt_mono (pp_measureWords c3.1 wo c3.2.1 wn hi2 hj2) (fun r τ1 q => ?_)
      obtain ⟨q0, ⟨q1, q2, q3, q4, q5⟩, q6⟩ := q
      rcases pp_partnerOf (k0 := 80) q1 q2 (by omega) (by omega) (pp_WR_E w1 w2 q3 q4) q5 y2 with ⟨k, z1, z2, z3⟩ | ⟨z1, z3⟩
      · rw [tt_cle z3, tt_rt]
        exact ⟨(hr1 k z1 z2).symm, fun a ha => q6 a (by omega)⟩
      · rw [tt_cle z3, tt_rt]
        exact ⟨(hr2 z1).symm, fun a ha => q6 a (by omega)⟩
    have ref : ∀ τ1, (∀ a, 112 ≤ a → τ1 a = τ a) → ∀ r, (∀ k, k < (o.2 i).length → y2 = nI k → r = pp_pa (pp_EW (o.2 i) (n.2 j)) (o.2 i).length (n.2 j).length k) → (¬ pp_ln y2 (o.2 i).length → r = -1) → tt (mm_X10_stays (nI i) y2 (nI j)) τ1 (fun r1 τ2 => r1 = r ∧ pp_fr τ1 τ2) := by
      intro τ1 k r hr1 hr2
      obtain ⟨u1, u2, u3, u4⟩ := pp_pre k m1 m2 m3
      rcases pp_areLines u3.1 wo u3.2.1 wn (nI i) (nI j) with ⟨-, e⟩ | ⟨no, -⟩
      · have eW : mm_X10_wordsOf 0 (nI i) (yy_up τ1 112 0 0) = some (nI (o.2 i).length, yy_up τ1 112 0 0) := pp_wordsOf (w := 0) (by decide) u3.1 wo.1 hi2
        simp only [mm_X10_stays, tt_wF, tt_cle e, tt_br, tt_cle eW]
        refine ⟨fun q => absurd q (by decide), fun _ => ?_⟩
        rcases pp_isIn0 (τ := yy_up τ1 112 0 0) (n := (o.2 i).length) (by omega) y2 with ⟨yes, e2⟩ | ⟨no, e2⟩
        · obtain ⟨z, hz, rfl⟩ := nI_of yes.1
          have hz2 := (pp_ln_nI hz).mp yes
          simp only [tt_cle e2, tt_br]
          refine ⟨fun q => absurd q (by decide), fun _ => ?_⟩
          rw [tt_cl]
          refine tt_mono (pp_sharedOf u3.1 wo u3.2.1 wn hi2 hj2) (fun r τ2 q => ?_)
          obtain ⟨rfl, q1, q2⟩ := q
          rw [tt_eq (pp_mStays (u3.1.of (q2 114 (by decide))) wo (u3.2.1.of (q2 114 (by decide))) wn hi2 hj2 hz2 q1)]
          exact ⟨(hr1 z hz2 rfl).symm, pp_fr.z0.tr (pp_fr.of (fun a ha => q2 a (by omega)))⟩
        · simp only [tt_cle e2, tt_br, tt_rt]
          exact ⟨fun _ => ⟨(hr2 no).symm, pp_fr.z0⟩, fun q => absurd (by trivial) q⟩
      · exact absurd ok no
    by_cases hy : pp_ln y2 (o.2 i).length
    · obtain ⟨k, hk, rfl⟩ := nI_of hy.1
      have hk2 := (pp_ln_nI hk).mp hy
      have u : ∀ k2, k2 < (o.2 i).length → nI k = nI k2 → pp_pa (pp_EW (o.2 i) (n.2 j)) (o.2 i).length (n.2 j).length k = pp_pa (pp_EW (o.2 i) (n.2 j)) (o.2 i).length (n.2 j).length k2 := fun k2 h2 h3 => by
        rw [(nI_eq (by omega) (by omega)).mp h3]
      exact pp_asking (r := pp_pa (pp_EW (o.2 i) (n.2 j)) (o.2 i).length (n.2 j).length k) hT hI0 (cls _ u (fun q => absurd hy q)) (fun τ1 z => ref τ1 z _ u (fun q => absurd hy q))
    · have u : ∀ k2, k2 < (o.2 i).length → y2 = nI k2 → (-1 : Int32) = pp_pa (pp_EW (o.2 i) (n.2 j)) (o.2 i).length (n.2 j).length k2 := fun k2 h2 h3 => by
        subst h3
        exact absurd ((pp_ln_nI (by omega)).mpr h2) hy
      exact pp_asking (r := -1) hT hI0 (cls _ u (fun _ => rfl)) (fun τ1 z => ref τ1 z _ u (fun _ => rfl))
  · refine pp_asking (r := -1) hT hI0 ?_ (fun τ1 k => ?_)
    · exact pp_hasTwo c3.1 wo c3.2.1 wn _ _ _ _ (fun q => absurd q ok) (fun _ => ⟨rfl, fun a _ => rfl⟩)
    · obtain ⟨u1, u2, u3, u4⟩ := pp_pre k m1 m2 m3
      rcases pp_areLines u3.1 wo u3.2.1 wn y1 y3 with ⟨yes, -⟩ | ⟨-, e⟩
      · exact absurd yes ok
      · simp only [mm_X10_stays, tt_wF, tt_cle e, tt_br, tt_rt]
        exact ⟨fun _ => ⟨by trivial, pp_fr.z0⟩, fun q => absurd (by trivial) q⟩
end
