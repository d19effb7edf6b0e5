/-! ASKED OF WHAT IS TOLD: now, anchors, block, line -/
def pp_TT (τ : yy_T) (o n : pp_Ed) : Prop := pp_TD τ 84 o n
theorem pp_TT_L : pp_TL pp_TT := fun τ τ1 o n e h => pp_TD.of h (fun a a1 a2 => e a a1 (by omega))
def pp_fk (τ τ1 : yy_T) (o n : pp_Ed) (h : Nat) (hs : Nat → Nat × pp_Ed) : Prop := (∀ a, (1 ≤ a ∧ a < 4) ∨ 112 ≤ a → τ1 a = τ a) ∧ pp_CK pp_TT τ1 o n h hs
section
variable {τ : yy_T} {t f h : Nat} {bt : Nat → Nat} {o n : pp_Ed} {hs : Nat → Nat × pp_Ed}
theorem pp_askC {A B : yy_M Int32} {r : Int32} (w : pp_W t bt o n h hs) (c1 : pp_TC τ t bt) (c2 : τ 3 1 = nI f) (m1 : pp_TM τ t bt) (m2 : τ 112 7 = nI f) (m3 : pp_MK τ o n h hs) (hA : tt A τ (fun r1 τ1 => r1 = r ∧ pp_fk τ τ1 o n h hs)) (hB : ∀ τ1, (∀ a, 112 ≤ a → τ1 a = τ a) → tt B τ1 (fun r2 τ2 => r2 = r ∧ pp_fr τ1 τ2)) : ∃ τ2, (yy_cl A (fun r1 => yy_cl B (fun r2 => yy_br (r1 = r2) (yy_rt ()) yl_no))) τ = some ((), τ2) ∧ pp_I pp_TT τ2 := by
  refine pp_twoNew (r := r) (f1 := f) pp_TT_L w (tt_mono hA (fun r1 τ1 q => ?_)) (fun τ1 q => tt_mono (hB τ1 q) (fun r2 τ2 k => ?_))
  · obtain ⟨q0, q1, q2⟩ := q
    exact ⟨q0, ⟨c1.of (q1 1 (by omega)) (q1 2 (by omega)), by rw [q1 3 (by omega)]; exact c2⟩, q2, fun a ha => q1 a (by omega)⟩
  · obtain ⟨k0, k⟩ := k
    have m1' : pp_TM τ1 t bt := m1.of (by rw [q 112 (by omega)]) (q 113 (by omega))
    have m3' : pp_MK τ1 o n h hs := m3.of (q 114 (by omega)) (q 116 (by omega)) (by rw [q 112 (by omega)])
    exact ⟨k0, k.M m1' (by rw [q 112 (by omega)]; exact m2) m3'⟩
theorem pp_compared (hk : pp_CK pp_TT τ o n h hs) (wo : pp_wfE o) (wn : pp_wfE n) : tt mm_X9_compared τ (fun r τ1 => r = 84 ∧ pp_TD τ1 84 o n ∧ pp_fk τ τ1 o n h hs ∧ ∀ x, x ≠ 0 → (x < 50 ∨ 98 ≤ x) → τ1 x = τ x) := by
  have hk0 := hk
  obtain ⟨h1, h2, h3, h4⟩ := hk
  simp only [mm_X9_compared, tt_rF, tt_br, tt_rt]
  refine ⟨fun q => ?_, fun q => ?_⟩
  · rcases h4 with h4 | ⟨-, h4⟩
    · rw [h4] at q
      exact absurd q (by decide)
    · exact ⟨by trivial, h4, ⟨fun a _ => by trivial, hk0⟩, fun x _ _ => by trivial⟩
  · rw [tt_cl]
    refine tt_mono (pp_compare (c := 7) (d := 10) (k0 := 84) (by decide) h1 wo h2 wn (by decide) rfl (by decide) rfl) (fun _ τ1 z => ?_)
    obtain ⟨z1, z2⟩ := z
    rw [tt_wF, tt_rt]
    have f2 : ∀ a, a ≠ 0 → yy_up τ1 0 10 0 a = τ1 a := fun a ha => by
      funext l
      simp [yy_upx, ha]
    have F : ∀ x, x ≠ 0 → (x < 50 ∨ 98 ≤ x) → yy_up τ1 0 10 0 x = τ x := fun x x0 hx => by rw [f2 x x0, z2 x (by omega)]
    have TD : pp_TD (yy_up τ1 0 10 0) 84 o n := z1.of (fun a a1 a2 => f2 a (by omega))
    exact ⟨rfl, TD, ⟨fun a ha => F a (by omega) (by omega), h1.of (F _ (by decide) (by decide)) (F _ (by decide) (by decide)) (F _ (by decide) (by decide)), h2.of (F _ (by decide) (by decide)) (F _ (by decide) (by decide)) (F _ (by decide) (by decide)), h3.of (fun a a1 a2 => F a (by omega) (by omega)), Or.inr ⟨by simp [yy_upx], TD⟩⟩, F⟩
theorem pp_fk.re (hk : pp_CK pp_TT τ o n h hs) : pp_fk τ τ o n h hs := ⟨fun _ _ => rfl, hk⟩
theorem pp_laysK (ho : pp_RM τ 114 0 o) (wo : pp_wfE o) (hn : pp_RM τ 114 127 n) (wn : pp_wfE n) : tt mm_X10_laysAll τ (fun _ τ1 => pp_TN τ1 o n ∧ pp_fr τ τ1 ∧ τ1 112 0 = τ 112 0 ∧ ∀ x, (x = 120 ∨ x = 121) → τ1 x = τ x) := by
  refine tt_mono (pp_laysAll ho wo hn wn) (fun _ τ1 z => ?_)
  obtain ⟨z1, z2, z3⟩ := z
  exact ⟨z1, ⟨fun a ha => z3 a (by omega), z2 2 (by decide), z2 6 (by decide), z2 7 (by decide), z3 113 (by decide), z3 114 (by decide), z3 116 (by decide)⟩, z2 0 (by decide), fun x hx => z3 x (by omega)⟩
theorem pp_having {w : Nat} {e : pp_Ed} {D : pp_D} {v : Int32} (hw : w < 2) (hM : pp_RM τ 114 (127 * w) e) (e14 : e.1 ≤ 14) (hD : pp_DM τ D) : mm_X10_having (nI w) v τ = some (nI (pp_cnt (D w) v e.1), τ) := by
  apply tt_of
  simp only [mm_X10_having, mm_X10_having_5, tt_cl]
  refine tt_upx e.1 (fun k (_ : Unit) => (nI (pp_cnt (D w) v k), nI k)) (fun k _ τ1 => τ1 = τ) (fun k _ τ1 hk hI => ?_) 0 () τ (Nat.zero_le _) rfl
  subst hI
  simp only [mm_X10_having_5b]
  rw [tt_cle (pp_many hw hM), tt_br, tt_rt, nI_leI (by omega) (by omega)]
  refine ⟨fun q => Or.inr ⟨_, rfl, ?_⟩, fun q => ?_⟩
  · simp only [mm_X10_having_40, tt_rt]
    rw [show k = e.1 by omega]
    exact ⟨by trivial, by trivial⟩
  · have ix : (14 : Int32) * nI w + nI k = nI (14 * w + k) := by rw [show (14 : Int32) = nI 14 by rfl, nI_mul, nI_add]
    have vx : τ1 117 (14 * w + k) = D w k := by
      have := hD k (by omega)
      rcases (show w = 0 ∨ w = 1 by omega) with rfl | rfl
      · rw [Nat.mul_zero, Nat.zero_add]
        exact this.1
      · exact this.2.1
    rw [ix, tt_rA, nI_clamp (by omega), vx, tt_br]
    refine ⟨pp_in (by omega) (by decide), fun z => ?_, fun z => ?_⟩
    · simp only [mm_X10_having_34, tt_rt]
      exact Or.inl ⟨by omega, (), by rw [nI_1, nI_1, pp_cnt, if_pos z], by trivial⟩
    · simp only [mm_X10_having_34, tt_rt]
      exact Or.inl ⟨by omega, (), by rw [nI_1, pp_cnt, if_neg z]; rfl, by trivial⟩
theorem pp_cnt_ext {g : Nat → Int32} {v : Int32} {a : Nat} : ∀ m, (∀ l, a ≤ l → l < a + m → g l ≠ v) → pp_cnt g v (a + m) = pp_cnt g v a
  | 0, _ => rfl
  | m + 1, hh => by
    rw [← Nat.add_assoc, pp_cnt, pp_cnt_ext m (fun l l1 l2 => hh l l1 (by omega)), if_neg (hh (a + m) (by omega) (by omega))]
    rfl
theorem pp_cnt_all {g : Nat → Int32} : ∀ m, (∀ l, l < m → (g l = 0 ∨ g l = nI 1 ∨ g l = nI 2 ∨ g l = 3)) → pp_cnt g 0 m + pp_cnt g (nI 1) m + pp_cnt g (nI 2) m + pp_cnt g 3 m = m
  | 0, _ => rfl
  | m + 1, hh => by
    have ih := pp_cnt_all m (fun l hl => hh l (by omega))
    rw [pp_cnt, pp_cnt, pp_cnt, pp_cnt]
    rcases hh m (by omega) with e | e | e | e
    · rw [e, if_pos rfl, if_neg (by decide), if_neg (by decide), if_neg (by decide)]; omega
    · rw [e, if_pos rfl, if_neg (by decide), if_neg (by decide), if_neg (by decide)]; omega
    · rw [e, if_pos rfl, if_neg (by decide), if_neg (by decide), if_neg (by decide)]; omega
    · rw [e, if_pos rfl, if_neg (by decide), if_neg (by decide), if_neg (by decide)]; omega
def pp_nv (o n : pp_Ed) (h t : Nat) (x : Int32) : Int32 :=
  if x = 0 then nI o.1 else if x = 1 then nI n.1 else if x = 2 then nI (pp_cnt (pp_Df o n 0) 0 o.1) else if x = 3 then nI (pp_cnt (pp_Df o n 0) (nI 1) o.1) else if x = 4 then nI (pp_Bf o n).2.1 else if x = 5 then nI (pp_cnt (pp_Df o n 0) (nI 2) o.1) else if x = 6 then nI (pp_cnt (pp_Df o n 0) 3 o.1) else if x = 7 then nI (pp_cnt (pp_Df o n 1) 3 n.1) else if x = 8 then nI h else if x = 9 then nI t else -1
theorem pp_couples (wo : pp_wfE o) (wn : pp_wfE n) (hP : pp_CP τ 84 (pp_Df o n)) : τ 94 0 = nI (pp_cnt (pp_Df o n 0) 0 o.1) ∧ τ 94 1 = nI (pp_cnt (pp_Df o n 0) (nI 1) o.1) ∧ τ 94 2 = nI (pp_cnt (pp_Df o n 0) (nI 2) o.1) ∧ nI o.1 - (nI (pp_cnt (pp_Df o n 0) 0 o.1) + nI (pp_cnt (pp_Df o n 0) (nI 1) o.1) + nI (pp_cnt (pp_Df o n 0) (nI 2) o.1)) = nI (pp_cnt (pp_Df o n 0) 3 o.1) ∧ nI n.1 - (nI (pp_cnt (pp_Df o n 0) 0 o.1) + nI (pp_cnt (pp_Df o n 0) (nI 1) o.1) + nI (pp_cnt (pp_Df o n 0) (nI 2) o.1)) = nI (pp_cnt (pp_Df o n 1) 3 n.1) := by
  have o14 := wo.1
  have n14 := wn.1
  have W := pp_Df_W o14 n14
  generalize pp_Df o n = D at *
  have x0 : ∀ v, v ≠ (3 : Int32) → pp_cnt (D 0) v 14 = pp_cnt (D 0) v o.1 := fun v hv => by
    have := pp_cnt_ext (g := D 0) (v := v) (a := o.1) (14 - o.1) (fun l l1 l2 => by rw [(W l (by omega)).2.2.1 l1]; exact fun z => hv z.symm)
    rw [show o.1 + (14 - o.1) = 14 by omega] at this
    exact this
  have x1 : ∀ v, v ≠ (3 : Int32) → pp_cnt (D 1) v 14 = pp_cnt (D 1) v n.1 := fun v hv => by
    have := pp_cnt_ext (g := D 1) (v := v) (a := n.1) (14 - n.1) (fun l l1 l2 => by rw [(W l (by omega)).2.2.2.1 l1]; exact fun z => hv z.symm)
    rw [show n.1 + (14 - n.1) = 14 by omega] at this
    exact this
  have p0 := hP 0 (by decide)
  have p1 := hP 1 (by decide)
  have p2 := hP 2 (by decide)
  have a0 := pp_cnt_all (g := D 0) o.1 (fun l hl => (W l (by omega)).1)
  have a1 := pp_cnt_all (g := D 1) n.1 (fun l hl => (W l (by omega)).2.1)
  have q0 : pp_cnt (D 1) 0 n.1 = pp_cnt (D 0) 0 o.1 := by rw [← x0 0 (by decide), ← x1 0 (by decide)]; exact p0.2
  have q1 : pp_cnt (D 1) (nI 1) n.1 = pp_cnt (D 0) (nI 1) o.1 := by rw [← x0 (nI 1) (by decide), ← x1 (nI 1) (by decide)]; exact p1.2
  have q2 : pp_cnt (D 1) (nI 2) n.1 = pp_cnt (D 0) (nI 2) o.1 := by rw [← x0 (nI 2) (by decide), ← x1 (nI 2) (by decide)]; exact p2.2
  refine ⟨by rw [← x0 0 (by decide)]; exact p0.1, by rw [← x0 (nI 1) (by decide)]; exact p1.1, by rw [← x0 (nI 2) (by decide)]; exact p2.1, ?_, ?_⟩
  · rw [nI_add, nI_add, nI_sub (by omega)]
    congr 1
    omega
  · rw [nI_add, nI_add, nI_sub (by omega)]
    congr 1
    omega
theorem pp_op4 (hI : pp_I pp_TT τ) (y1 : Int32) : ∃ τ1, mm_L_4 y1 τ = some ((), τ1) ∧ pp_I pp_TT τ1 := by
  obtain ⟨t, bt, o, n, f, h, hs, w, ⟨c1, c2, c3⟩, m1, m2, m3⟩ := hI
  have wo := w.1
  have wn := w.2.1
  have o14 := wo.1
  have n14 := wn.1
  refine pp_askC (r := pp_nv o n h t y1) w c1 c2 m1 m2 m3 ?_ (fun τ1 k => ?_)
  · have cmp : ∀ {K : Nat → yy_M Int32} {v : Int32}, (∀ τ1, pp_TD τ1 84 o n → tt (K 84) τ1 (fun r τ2 => r = v ∧ τ2 = τ1)) → tt (yy_cl mm_X9_compared K) τ (fun r1 τ1 => r1 = v ∧ pp_fk τ τ1 o n h hs) := by
      intro K v hK
      rw [tt_cl]
      refine tt_mono (pp_compared c3 wo wn) (fun r τ1 z => ?_)
      obtain ⟨z0, z1, z2, z3⟩ := z
      rw [z0]
      refine tt_mono (hK τ1 z1) (fun r τ2 y => ?_)
      obtain ⟨y1, y2⟩ := y
      rw [y2]
      exact ⟨y1, z2⟩
    simp only [mm_X9_now, tt_br, tt_rF, tt_rt, c3.1.1, c3.2.1.1, c1.2.1]
    refine ⟨fun q => ⟨by rw [pp_nv, if_pos q], pp_fk.re c3⟩, fun q0 => ⟨fun q => ⟨by rw [pp_nv, if_neg q0, if_pos q], pp_fk.re c3⟩, fun q1 => ⟨fun q => ?_, fun q2 => ⟨fun q => ?_, fun q3 => ⟨fun q => ?_, fun q4 => ⟨fun q => ?_, fun q5 => ⟨fun q => ?_, fun q6 => ⟨fun q => ?_, fun q7 => ⟨fun q => ?_, fun q8 => ⟨fun q => ?_, fun q9 => ?_⟩⟩⟩⟩⟩⟩⟩⟩⟩⟩
    · refine cmp (fun τ1 z => ?_)
      rw [tt_rA, tt_rt]
      exact ⟨by decide, by rw [pp_nv, if_neg q0, if_neg q1, if_pos q]; exact (pp_couples wo wn z.2.1).1, rfl⟩
    · refine cmp (fun τ1 z => ?_)
      rw [tt_rA, tt_rt]
      exact ⟨by decide, by rw [pp_nv, if_neg q0, if_neg q1, if_neg q2, if_pos q]; exact (pp_couples wo wn z.2.1).2.1, rfl⟩
    · refine cmp (fun τ1 z => ?_)
      rw [tt_rF, tt_rt]
      exact ⟨by rw [pp_nv, if_neg q0, if_neg q1, if_neg q2, if_neg q3, if_pos q]; exact z.2.2.1, rfl⟩
    · refine cmp (fun τ1 z => ?_)
      rw [tt_rA, tt_rt]
      exact ⟨by decide, by rw [pp_nv, if_neg q0, if_neg q1, if_neg q2, if_neg q3, if_neg q4, if_pos q]; exact (pp_couples wo wn z.2.1).2.2.1, rfl⟩
    · refine cmp (fun τ1 z => ?_)
      obtain ⟨g0, g1, g2, g3, g4⟩ := pp_couples wo wn z.2.1
      have g0 : τ1 (84 + 10) (Int32.toNatClampNeg 0) = _ := g0
      have g1 : τ1 (84 + 10) (Int32.toNatClampNeg 1) = _ := g1
      have g2 : τ1 (84 + 10) (Int32.toNatClampNeg 2) = _ := g2
      simp only [mm_X8_allCouples, tt_cl, tt_rA, tt_rt]
      refine ⟨by decide, by decide, by decide, ?_, by trivial⟩
      rw [g0, g1, g2, g3, pp_nv, if_neg q0, if_neg q1, if_neg q2, if_neg q3, if_neg q4, if_neg q5, if_pos q]
    · refine cmp (fun τ1 z => ?_)
      obtain ⟨g0, g1, g2, g3, g4⟩ := pp_couples wo wn z.2.1
      have g0 : τ1 (84 + 10) (Int32.toNatClampNeg 0) = _ := g0
      have g1 : τ1 (84 + 10) (Int32.toNatClampNeg 1) = _ := g1
      have g2 : τ1 (84 + 10) (Int32.toNatClampNeg 2) = _ := g2
      simp only [mm_X8_allCouples, tt_cl, tt_rA, tt_rt]
      refine ⟨by decide, by decide, by decide, ?_, by trivial⟩
      rw [g0, g1, g2, g4, pp_nv, if_neg q0, if_neg q1, if_neg q2, if_neg q3, if_neg q4, if_neg q5, if_neg q6, if_pos q]
    · obtain ⟨nx, p1, p2, p3, p4⟩ := c3.2.2.1
      exact ⟨by rw [p3, pp_nv, if_neg q0, if_neg q1, if_neg q2, if_neg q3, if_neg q4, if_neg q5, if_neg q6, if_neg q7, if_pos q], pp_fk.re c3⟩
    · exact ⟨by rw [pp_nv, if_neg q0, if_neg q1, if_neg q2, if_neg q3, if_neg q4, if_neg q5, if_neg q6, if_neg q7, if_neg q8, if_pos q], pp_fk.re c3⟩
    · exact ⟨by rw [pp_nv, if_neg q0, if_neg q1, if_neg q2, if_neg q3, if_neg q4, if_neg q5, if_neg q6, if_neg q7, if_neg q8, if_neg q9], pp_fk.re c3⟩
  · obtain ⟨u1, u2, u3, u4⟩ := pp_pre k m1 m2 m3
    simp only [mm_X10_now, tt_wF]
    rw [tt_cl]
    refine tt_mono (pp_laysK u3.1 wo u3.2.1 wn) (fun _ τ2 z => ?_)
    obtain ⟨z1, z2, -, -⟩ := z
    have M0 : pp_RM τ2 114 (127 * 0) o := u3.1.of z2.2.2.2.2.2.1
    have M1 : pp_RM τ2 114 (127 * 1) n := u3.2.1.of z2.2.2.2.2.2.1
    have fr : pp_fr τ1 τ2 := pp_fr.z0.tr z2
    have ha : ∀ v, mm_X10_having 0 v τ2 = some (nI (pp_cnt (pp_Df o n 0) v o.1), τ2) := fun v => pp_having (w := 0) (by decide) M0 o14 z1.1
    have hb : ∀ v, mm_X10_having 1 v τ2 = some (nI (pp_cnt (pp_Df o n 1) v n.1), τ2) := fun v => pp_having (w := 1) (by decide) M1 n14 z1.1
    have e6 : τ2 112 6 = nI h := by rw [z2.2.2.1]; exact u3.2.2.1
    have e2 : τ2 112 2 = nI t := by rw [z2.2.1]; exact u1.2.1
    simp only [tt_br, tt_rF, tt_rt, tt_cle (ha _), tt_cle (hb _), e6, e2, z1.2.1]
    refine ⟨fun q => ?_, fun q0 => ⟨fun q => ?_, fun q1 => ⟨fun q => ⟨?_, fr⟩, fun q2 => ⟨fun q => ⟨?_, fr⟩, fun q3 => ⟨fun q => ⟨?_, fr⟩, fun q4 => ⟨fun q => ⟨?_, fr⟩, fun q5 => ⟨fun q => ⟨?_, fr⟩, fun q6 => ⟨fun q => ⟨?_, fr⟩, fun q7 => ⟨fun q => ⟨?_, fr⟩, fun q8 => ⟨fun q => ⟨?_, fr⟩, fun q9 => ⟨?_, fr⟩⟩⟩⟩⟩⟩⟩⟩⟩⟩⟩
    · have e : mm_X10_many y1 τ2 = some (nI o.1, τ2) := by rw [q]; exact pp_many (w := 0) (by decide) M0
      simp only [mm_X10_now_64, tt_cle e, tt_rt]
      exact ⟨by rw [pp_nv, if_pos q], fr⟩
    · have e : mm_X10_many y1 τ2 = some (nI n.1, τ2) := by rw [q]; exact pp_many (w := 1) (by decide) M1
      simp only [mm_X10_now_64, tt_cle e, tt_rt]
      exact ⟨by rw [pp_nv, if_neg q0, if_pos q], fr⟩
    · rw [pp_nv, if_neg q0, if_neg q1, if_pos q]
    · rw [pp_nv, if_neg q0, if_neg q1, if_neg q2, if_pos q]; rfl
    · rw [pp_nv, if_neg q0, if_neg q1, if_neg q2, if_neg q3, if_pos q]
    · rw [pp_nv, if_neg q0, if_neg q1, if_neg q2, if_neg q3, if_neg q4, if_pos q]; rfl
    · rw [pp_nv, if_neg q0, if_neg q1, if_neg q2, if_neg q3, if_neg q4, if_neg q5, if_pos q]
    · rw [pp_nv, if_neg q0, if_neg q1, if_neg q2, if_neg q3, if_neg q4, if_neg q5, if_neg q6, if_pos q]
    · rw [pp_nv, if_neg q0, if_neg q1, if_neg q2, if_neg q3, if_neg q4, if_neg q5, if_neg q6, if_neg q7, if_pos q]
    · rw [pp_nv, if_neg q0, if_neg q1, if_neg q2, if_neg q3, if_neg q4, if_neg q5, if_neg q6, if_neg q7, if_neg q8, if_pos q]
    · rw [pp_nv, if_neg q0, if_neg q1, if_neg q2, if_neg q3, if_neg q4, if_neg q5, if_neg q6, if_neg q7, if_neg q8, if_neg q9]
theorem pp_op12 (hI : pp_I pp_TT τ) (y1 : Int32) : ∃ τ1, mm_L_12 y1 τ = some ((), τ1) ∧ pp_I pp_TT τ1 := by
  obtain ⟨t, bt, o, n, f, h, hs, w, ⟨c1, c2, c3⟩, m1, m2, m3⟩ := hI
  have wo := w.1
  have wn := w.2.1
  refine pp_askC (r := if y1 = 0 then nI (pp_an o n) else if y1 = 1 then nI (pp_ru o n) else -1) w c1 c2 m1 m2 m3 ?_ (fun τ1 k => ?_)
  · simp only [mm_X9_anchors, tt_br, tt_rt]
    refine ⟨fun q => ?_, fun q0 => ⟨fun q => ?_, fun q1 => ⟨by rw [if_neg q0, if_neg q1], pp_fk.re c3⟩⟩⟩
    · rw [tt_cl, if_pos q]
      refine tt_mono (pp_compared c3 wo wn) (fun r τ1 z => ?_)
      obtain ⟨rfl, z1, z2, z3⟩ := z
      rw [tt_rF, tt_rt]
      exact ⟨z1.2.2.2.2.1, z2⟩
    · rw [tt_cl, if_neg q0, if_pos q]
      refine tt_mono (pp_compared c3 wo wn) (fun r τ1 z => ?_)
      obtain ⟨rfl, z1, z2, z3⟩ := z
      rw [tt_rF, tt_rt]
      exact ⟨z1.2.2.2.2.2.1, z2⟩
  · obtain ⟨u1, u2, u3, u4⟩ := pp_pre k m1 m2 m3
    simp only [mm_X10_anchors, tt_wF]
    rw [tt_cl]
    refine tt_mono (pp_laysK u3.1 wo u3.2.1 wn) (fun _ τ2 z => ?_)
    obtain ⟨z1, z2, -, -⟩ := z
    have fr : pp_fr τ1 τ2 := pp_fr.z0.tr z2
    simp only [tt_br, tt_rF, tt_rt, z1.2.2.2.1, z1.2.2.2.2]
    exact ⟨fun q => ⟨by rw [if_pos q], fr⟩, fun q0 => ⟨fun q => ⟨by rw [if_neg q0, if_pos q], fr⟩, fun q1 => ⟨by rw [if_neg q0, if_neg q1], fr⟩⟩⟩
/-- which thing, by any number -/
theorem pp_012 (x : Int32) : (x = 0 ∨ x = 1 ∨ x = 2) ∨ (¬ x = 0 ∧ ¬ x = 1 ∧ ¬ x = 2) := by
  by_cases a : x = 0
  · exact Or.inl (Or.inl a)
  · by_cases b : x = 1
    · exact Or.inl (Or.inr (Or.inl b))
    · by_cases c : x = 2
      · exact Or.inl (Or.inr (Or.inr c))
      · exact Or.inr ⟨a, b, c⟩
theorem pp_isIn2 (x : Int32) : ((x = 0 ∨ x = 1 ∨ x = 2) ∧ mm_X10_isIn x 0 2 τ = some (1, τ)) ∨ ((¬ x = 0 ∧ ¬ x = 1 ∧ ¬ x = 2) ∧ mm_X10_isIn x 0 2 τ = some (0, τ)) := by
  rcases pp_012 x with h | h
  · refine Or.inl ⟨h, ?_⟩
    rcases h with rfl | rfl | rfl <;> rw [pp_isIn] <;> rfl
  · refine Or.inr ⟨h, ?_⟩
    rcases pp_isIn0 (τ := τ) (n := 3) (by decide) x with ⟨a, -⟩ | ⟨-, b⟩
    · exfalso
      obtain ⟨j, hj, rfl⟩ := nI_of a.1
      have := (pp_ln_nI hj).mp a
      rcases (show j = 0 ∨ j = 1 ∨ j = 2 by omega) with rfl | rfl | rfl
      · exact h.1 rfl
      · exact h.2.1 rfl
      · exact h.2.2 rfl
    · exact b
theorem pp_op7 (hI : pp_I pp_TT τ) (y1 y2 : Int32) : ∃ τ1, mm_L_7 y1 y2 τ = some ((), τ1) ∧ pp_I pp_TT τ1 := by
  obtain ⟨t, bt, o, n, f, h, hs, w, ⟨c1, c2, c3⟩, m1, m2, m3⟩ := hI
  have wo := w.1
  have wn := w.2.1
  have nb : (pp_Bf o n).2.1 ≤ 14 := by have := (pp_Bf_W wo.1 wn.1).2; omega
  refine pp_askC (r := @ite Int32 (pp_ln y1 (pp_Bf o n).2.1) (Classical.propDecidable _) (if y2 = 0 then nI ((pp_Bf o n).2.2 y1.toNatClampNeg).1 else if y2 = 1 then nI ((pp_Bf o n).2.2 y1.toNatClampNeg).2.1 else if y2 = 2 then nI ((pp_Bf o n).2.2 y1.toNatClampNeg).2.2 else -1) (-1)) w c1 c2 m1 m2 m3 ?_ (fun τ1 k => ?_)
  · simp only [mm_X9_block]
    rw [tt_cl]
    refine tt_mono (pp_compared c3 wo wn) (fun r τ1 z => ?_)
    obtain ⟨rfl, z1, z2, z3⟩ := z
    simp only [tt_br, tt_rF, tt_rt, tt_rA, z1.2.2.1]
    refine ⟨fun q => ⟨by rw [if_neg (fun y => y.1 q)], z2⟩, fun q => ⟨fun q2 => ?_, fun q2 => ⟨?_, z2⟩⟩⟩
    · obtain ⟨j, hj, rfl⟩ := nI_of q
      rw [nI_ltI hj (by omega)] at q2
      rw [if_pos ((pp_ln_nI hj).mpr q2), nI_clamp hj]
      have inj : yy_in (nI j) 14 = true := pp_in (by omega) (by decide)
      obtain ⟨b1, b2, b3⟩ := z1.2.2.2.1 j q2
      refine ⟨fun a0 => ⟨inj, by rw [if_pos a0]; exact b1, z2⟩, fun a0 => ⟨fun a1 => ⟨inj, by rw [if_neg a0, if_pos a1]; exact b2, z2⟩, fun a1 => ⟨fun a2 => ⟨inj, by rw [if_neg a0, if_neg a1, if_pos a2]; exact b3, z2⟩, fun a2 => ⟨by rw [if_neg a0, if_neg a1, if_neg a2], z2⟩⟩⟩⟩
    · obtain ⟨j, hj, rfl⟩ := nI_of q
      rw [nI_ltI hj (by omega)] at q2
      rw [if_neg (fun y => q2 ((pp_ln_nI hj).mp y))]
  · obtain ⟨u1, u2, u3, u4⟩ := pp_pre k m1 m2 m3
    simp only [mm_X10_block, tt_wF]
    rw [tt_cl]
    refine tt_mono (pp_laysK u3.1 wo u3.2.1 wn) (fun _ τ2 z => ?_)
    obtain ⟨z1, z2, -, -⟩ := z
    have fr : pp_fr τ1 τ2 := pp_fr.z0.tr z2
    rw [tt_rF, z1.2.1]
    rcases pp_isIn0 (τ := τ2) (n := (pp_Bf o n).2.1) (by omega) y1 with ⟨yes, e⟩ | ⟨no, e⟩
    · rw [tt_cle e, if_pos yes, tt_br]
      refine ⟨fun q => absurd q (by decide), fun _ => ?_⟩
      obtain ⟨j, hj, rfl⟩ := nI_of yes.1
      have hj2 := (pp_ln_nI hj).mp yes
      obtain ⟨b1, b2, b3⟩ := z1.2.2.1 j hj2
      rw [nI_clamp hj]
      rcases pp_isIn2 (τ := τ2) y2 with ⟨a, e2⟩ | ⟨⟨a0, a1, a2⟩, e2⟩
      · rw [tt_cle e2, tt_br]
        refine ⟨fun q => absurd q (by decide), fun _ => ?_⟩
        rcases a with rfl | rfl | rfl
        · have ix : (3 : Int32) * nI j + 0 = nI (3 * j) := by rw [show (3 : Int32) = nI 3 by rfl, nI_mul, Int32.add_zero]
          rw [ix, tt_rA, tt_rt, nI_clamp (by omega)]
          exact ⟨pp_in (by omega) (by decide), b1, fr⟩
        · have ix : (3 : Int32) * nI j + 1 = nI (3 * j + 1) := by rw [show (3 : Int32) = nI 3 by rfl, nI_mul, nI_1]
          rw [ix, tt_rA, tt_rt, nI_clamp (by omega)]
          exact ⟨pp_in (by omega) (by decide), b2, fr⟩
        · have ix : (3 : Int32) * nI j + 2 = nI (3 * j + 2) := by rw [show (3 : Int32) = nI 3 by rfl, nI_mul, show (2 : Int32) = nI 2 by rfl, nI_add]
          rw [ix, tt_rA, tt_rt, nI_clamp (by omega)]
          exact ⟨pp_in (by omega) (by decide), b3, fr⟩
      · rw [tt_cle e2, tt_br, tt_rt, if_neg a0, if_neg a1, if_neg a2]
        exact ⟨fun _ => ⟨rfl, fr⟩, fun q => absurd rfl q⟩
    · rw [tt_cle e, if_neg no, tt_br, tt_rt]
      exact ⟨fun _ => ⟨rfl, fr⟩, fun q => absurd rfl q⟩
end
