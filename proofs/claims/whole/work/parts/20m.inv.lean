/-! WHAT HOLDS BETWEEN CALLS -/
def pp_CK (T : yy_T → pp_Ed → pp_Ed → Prop) (τ : yy_T) (o n : pp_Ed) (h : Nat) (hs : Nat → Nat × pp_Ed) : Prop := pp_RC τ 7 o ∧ pp_RC τ 10 n ∧ pp_PC τ h hs ∧ (τ 0 10 = 1 ∨ (τ 0 10 = 0 ∧ T τ o n))
def pp_MK (τ : yy_T) (o n : pp_Ed) (h : Nat) (hs : Nat → Nat × pp_Ed) : Prop := pp_RM τ 114 0 o ∧ pp_RM τ 114 127 n ∧ pp_SM τ h hs o n
/-- what is told hangs on the cells 84 to 97 alone -/
def pp_TL (T : yy_T → pp_Ed → pp_Ed → Prop) : Prop := ∀ τ τ1 o n, (∀ a, 84 ≤ a → a < 98 → τ1 a = τ a) → T τ o n → T τ1 o n
def pp_W (t : Nat) (bt : Nat → Nat) (o n : pp_Ed) (h : Nat) (hs : Nat → Nat × pp_Ed) : Prop := pp_wfE o ∧ pp_wfE n ∧ pp_wH h hs ∧ ∀ i, i < t → bt i < 256
def pp_I (T : yy_T → pp_Ed → pp_Ed → Prop) (τ : yy_T) : Prop := ∃ t bt o n f h hs, pp_W t bt o n h hs ∧ (pp_TC τ t bt ∧ τ 3 1 = nI f ∧ pp_CK T τ o n h hs) ∧ (pp_TM τ t bt ∧ τ 112 7 = nI f ∧ pp_MK τ o n h hs)
theorem pp_PC.of {τ τ1 : yy_T} {h : Nat} {hs : Nat → Nat × pp_Ed} (hp : pp_PC τ h hs) (e : ∀ a, 16 ≤ a → a < 49 → τ1 a = τ a) : pp_PC τ1 h hs := by
  obtain ⟨nx, p1, p2, p3, p4⟩ := hp
  refine ⟨nx, p1, by rw [e 16 (by omega) (by omega)]; exact p2, by rw [e 16 (by omega) (by omega)]; exact p3, fun k hk => ?_⟩
  obtain ⟨z1, z2⟩ := p4 k hk
  exact ⟨by rw [e 18 (by omega) (by omega)]; exact z1, z2.of (e _ (by omega) (by omega)) (e _ (by omega) (by omega)) (e _ (by omega) (by omega))⟩
theorem pp_CK.of {T : yy_T → pp_Ed → pp_Ed → Prop} (hT : pp_TL T) {τ τ1 : yy_T} {o n : pp_Ed} {h : Nat} {hs : Nat → Nat × pp_Ed} (hk : pp_CK T τ o n h hs) (e : ∀ a, (a = 0 ∨ (7 ≤ a ∧ a < 13) ∨ (16 ≤ a ∧ a < 49) ∨ (84 ≤ a ∧ a < 98)) → τ1 a = τ a) : pp_CK T τ1 o n h hs := by
  obtain ⟨h1, h2, h3, h4⟩ := hk
  refine ⟨h1.of (e _ (by omega)) (e _ (by omega)) (e _ (by omega)), h2.of (e _ (by omega)) (e _ (by omega)) (e _ (by omega)), h3.of (fun a a1 a2 => e a (by omega)), ?_⟩
  rw [e 0 (by omega)]
  rcases h4 with h4 | ⟨h4, h5⟩
  · exact Or.inl h4
  · exact Or.inr ⟨h4, hT τ τ1 o n (fun a a1 a2 => e a (by omega)) h5⟩
theorem pp_SM.of {τ τ1 : yy_T} {o n : pp_Ed} {h : Nat} {hs : Nat → Nat × pp_Ed} (hk : pp_SM τ h hs o n) (e1 : τ1 116 = τ 116) (e2 : τ1 112 6 = τ 112 6) : pp_SM τ1 h hs o n := ⟨by rw [e2]; exact hk.1, fun k hk2 => ⟨(hk.2 k hk2).1.of e1, (hk.2 k hk2).2.of e1⟩⟩
theorem pp_MK.of {τ τ1 : yy_T} {o n : pp_Ed} {h : Nat} {hs : Nat → Nat × pp_Ed} (hk : pp_MK τ o n h hs) (e0 : τ1 114 = τ 114) (e1 : τ1 116 = τ 116) (e2 : τ1 112 6 = τ 112 6) : pp_MK τ1 o n h hs := ⟨hk.1.of e0, hk.2.1.of e0, hk.2.2.of e1 e2⟩
theorem pp_TC.of {τ τ1 : yy_T} {t : Nat} {bt : Nat → Nat} (h : pp_TC τ t bt) (e1 : τ1 1 = τ 1) (e2 : τ1 2 = τ 2) : pp_TC τ1 t bt := by
  unfold pp_TC
  rw [e1, e2]
  exact h
theorem pp_TM.of {τ τ1 : yy_T} {t : Nat} {bt : Nat → Nat} (h : pp_TM τ t bt) (e1 : τ1 112 2 = τ 112 2) (e2 : τ1 113 = τ 113) : pp_TM τ1 t bt := by
  unfold pp_TM
  rw [e1, e2]
  exact h
/-- how a call of both is closed: equal answers, and what holds holds on -/
theorem pp_two {T : yy_T → pp_Ed → pp_Ed → Prop} {τ : yy_T} {A B : yy_M Int32} (r : Int32) {Qc Qm : yy_T → Prop} (hA : tt A τ (fun r1 τ1 => r1 = r ∧ Qc τ1)) (hB : ∀ τ1, Qc τ1 → tt B τ1 (fun r2 τ2 => r2 = r ∧ pp_I T τ2)) : ∃ τ2, (yy_cl A (fun r1 => yy_cl B (fun r2 => yy_br (r1 = r2) (yy_rt ()) yl_no))) τ = some ((), τ2) ∧ pp_I T τ2 := by
  have : tt (yy_cl A (fun r1 => yy_cl B (fun r2 => yy_br (r1 = r2) (yy_rt ()) yl_no))) τ (fun _ τ2 => pp_I T τ2) := by
    rw [tt_cl]
    refine tt_mono hA (fun r1 τ1 q => ?_)
    obtain ⟨rfl, q⟩ := q
    rw [tt_cl]
    refine tt_mono (hB τ1 q) (fun r2 τ2 q2 => ?_)
    obtain ⟨rfl, q2⟩ := q2
    rw [tt_br, tt_rt]
    exact ⟨fun _ => q2, fun z => absurd rfl z⟩
  obtain ⟨u, τ2, h1, h2⟩ := this
  exact ⟨τ2, h1, h2⟩
section
variable {T : yy_T → pp_Ed → pp_Ed → Prop} {τ : yy_T}
/-- feed -/
theorem pp_four_lt {t : Nat} {bt : Nat → Nat} {x : Int32} (h : ∀ i, i < t → bt i < 256) : ∀ i, i < t + 4 → pp_four t bt x i < 256 := by
  intro i hi
  unfold pp_four
  split
  · exact pp_byte_lt _ _
  · split
    · exact pp_byte_lt _ _
    · split
      · exact pp_byte_lt _ _
      · split
        · exact pp_byte_lt _ _
        · exact h i (by omega)
theorem pp_op0 (hT : pp_TL T) (hI : pp_I T τ) (y1 y2 y3 y4 y5 : Int32) : ∃ τ1, mm_L_0 y1 y2 y3 y4 y5 τ = some ((), τ1) ∧ pp_I T τ1 := by
  obtain ⟨t, bt, o, n, f, h, hs, ⟨wo, wn, wh, wb⟩, ⟨c1, c2, c3⟩, m1, m2, m3⟩ := hI
  have t640 := c1.1
  have e620 : nI t ≤ 620 ↔ t ≤ 620 := by rw [show (620 : Int32) = nI 620 by rfl, nI_leI (by omega) (by omega)]
  have e640 : nI t + 20 ≤ 640 ↔ t ≤ 620 := by rw [show (640 : Int32) = nI 640 by rfl, show (20 : Int32) = nI 20 by rfl, nI_add, nI_leI (by omega) (by omega)]; omega
  by_cases ht : t ≤ 620
  · refine pp_two (T := T) (τ := τ) (Qm := fun _ => True) (nI (t + 20)) (Qc := fun τ1 => pp_TC τ1 (t + 20) (pp_four (t + 16) (pp_four (t + 12) (pp_four (t + 8) (pp_four (t + 4) (pp_four t bt y1) y2) y3) y4) y5) ∧ ∀ a, a ≠ 1 → a ≠ 2 → τ1 a = τ a) ?_ ?_
    · simp only [mm_X9_feed, tt_rF, tt_br, tt_cl, tt_rt, c1.2.1, e620]
      refine ⟨fun _ => ?_, fun q => absurd ht q⟩
      refine tt_mono (pp_append y1 c1 (by omega)) (fun _ τ1 q1 => ?_)
      refine tt_mono (pp_append y2 q1.1 (by omega)) (fun _ τ2 q2 => ?_)
      refine tt_mono (pp_append y3 q2.1 (by omega)) (fun _ τ3 q3 => ?_)
      refine tt_mono (pp_append y4 q3.1 (by omega)) (fun _ τ4 q4 => ?_)
      refine tt_mono (pp_append y5 q4.1 (by omega)) (fun _ τ5 q5 => ?_)
      exact ⟨q5.1.2.1, q5.1, fun a a1 a2 => by rw [q5.2 a a1 a2, q4.2 a a1 a2, q3.2 a a1 a2, q2.2 a a1 a2, q1.2 a a1 a2]⟩
    · intro τ1 ⟨k1, k2⟩
      have m1' : pp_TM (yy_up τ1 112 0 0) t bt := m1.of (by simp [yy_upx, k2]) (by funext j; simp [yy_upx, k2])
      simp only [mm_X10_feed, tt_rF, tt_wF, tt_br, tt_cl, tt_rt, m1'.2.1, e640]
      refine ⟨fun _ => ?_, fun q => absurd ht q⟩
      refine tt_mono (pp_lays y1 m1' (by omega)) (fun _ τ2 q1 => ?_)
      refine tt_mono (pp_lays y2 q1.1 (by omega)) (fun _ τ3 q2 => ?_)
      refine tt_mono (pp_lays y3 q2.1 (by omega)) (fun _ τ4 q3 => ?_)
      refine tt_mono (pp_lays y4 q3.1 (by omega)) (fun _ τ5 q4 => ?_)
      refine tt_mono (pp_lays y5 q4.1 (by omega)) (fun _ τ6 q5 => ?_)
      have fr : ∀ a, a ≠ 112 → a ≠ 113 → τ6 a = τ1 a := fun a a1 a2 => by
        rw [q5.2.2 a a1 a2, q4.2.2 a a1 a2, q3.2.2 a a1 a2, q2.2.2 a a1 a2, q1.2.2 a a1 a2]
        funext j
        simp [yy_upx, a1]
      have f12 : ∀ i, i ≠ 2 → i ≠ 0 → τ6 112 i = τ 112 i := fun i i1 i2 => by
        rw [q5.2.1 i i1, q4.2.1 i i1, q3.2.1 i i1, q2.2.1 i i1, q1.2.1 i i1]
        simp [yy_upx, i2, k2]
      refine ⟨q5.1.2.1, t + 20, _, o, n, f, h, hs, ⟨wo, wn, wh, pp_four_lt (pp_four_lt (pp_four_lt (pp_four_lt (pp_four_lt wb))))⟩, ⟨k1.of (fr 1 (by decide) (by decide)) (fr 2 (by decide) (by decide)), ?_, c3.of hT (fun a ha => ?_)⟩, q5.1, ?_, m3.of ?_ ?_ ?_⟩
      · rw [fr 3 (by decide) (by decide), k2 3 (by decide) (by decide)]
        exact c2
      · rw [fr a (by omega) (by omega), k2 a (by omega) (by omega)]
      · rw [f12 7 (by decide) (by decide)]
        exact m2
      · rw [fr 114 (by decide) (by decide), k2 114 (by decide) (by decide)]
      · rw [fr 116 (by decide) (by decide), k2 116 (by decide) (by decide)]
      · rw [f12 6 (by decide) (by decide)]
  · refine pp_two (T := T) (τ := τ) (Qm := fun _ => True) (-1) (Qc := fun τ1 => τ1 = τ) ?_ ?_
    · simp only [mm_X9_feed, tt_rF, tt_br, tt_cl, tt_rt, c1.2.1, e620]
      exact ⟨fun q => absurd q ht, fun _ => ⟨by trivial, by trivial⟩⟩
    · intro τ1 k1
      subst k1
      have m1' : pp_TM (yy_up τ1 112 0 0) t bt := m1.of (by simp [yy_upx]) (by funext j; simp [yy_upx])
      simp only [mm_X10_feed, tt_rF, tt_wF, tt_br, tt_cl, tt_rt, m1'.2.1, e640]
      refine ⟨fun q => absurd q ht, fun _ => ⟨by trivial, t, bt, o, n, f, h, hs, ⟨wo, wn, wh, wb⟩, ⟨c1.of (by funext j; simp [yy_upx]) (by funext j; simp [yy_upx]), by simp [yy_upx, c2], c3.of hT (fun a ha => by funext j; simp only [yy_upx]; rw [if_neg (by omega)])⟩, m1', by simp [yy_upx, m2], m3.of (by funext j; simp [yy_upx]) (by funext j; simp [yy_upx]) (by simp [yy_upx])⟩⟩
/-- the reference's field 0 alone has changed -/
theorem pp_I.z0 (hT : pp_TL T) {τ1 : yy_T} (hI : pp_I T τ) (h1 : ∀ a, a ≠ 112 → τ1 a = τ a) (h2 : ∀ i, i ≠ 0 → τ1 112 i = τ 112 i) : pp_I T τ1 := by
  obtain ⟨t, bt, o, n, f, h, hs, w, ⟨c1, c2, c3⟩, m1, m2, m3⟩ := hI
  exact ⟨t, bt, o, n, f, h, hs, w, ⟨c1.of (h1 _ (by decide)) (h1 _ (by decide)), by rw [h1 3 (by decide)]; exact c2, c3.of hT (fun a ha => h1 a (by omega))⟩, m1.of (h2 2 (by decide)) (h1 _ (by decide)), by rw [h2 7 (by decide)]; exact m2, m3.of (h1 _ (by decide)) (h1 _ (by decide)) (h2 6 (by decide))⟩
theorem pp_z0a {a : Nat} (h : a ≠ 112) (v : Int32) : yy_up τ 112 0 v a = τ a := by
  funext j
  simp [yy_upx, h]
theorem pp_z0b {i : Nat} (h : i ≠ 0) (v : Int32) : yy_up τ 112 0 v 112 i = τ 112 i := by simp [yy_upx, h]
theorem pp_op1 (hT : pp_TL T) (hI : pp_I T τ) (y1 : Int32) : ∃ τ1, mm_L_1 y1 τ = some ((), τ1) ∧ pp_I T τ1 := by
  have hI0 := hI
  obtain ⟨t, bt, o, n, f, h, hs, ⟨wo, wn, wh, wb⟩, ⟨c1, c2, c3⟩, m1, m2, m3⟩ := hI
  have t640 := c1.1
  have m1' : pp_TM (yy_up τ 112 0 0) t bt := m1.of (by simp [yy_upx]) (by funext j; simp [yy_upx])
  by_cases hy : pp_ln y1 (t + 1)
  · obtain ⟨j, hj, rfl⟩ := nI_of hy.1
    have hjt : j ≤ t := by have := (pp_ln_nI hj).mp hy; omega
    have e1 : ¬ nI j < 0 := hy.1
    have e2 : nI j ≤ nI t := by rw [nI_leI (by omega) (by omega)]; exact hjt
    refine pp_two (T := T) (τ := τ) (Qm := fun _ => True) 1 (Qc := fun τ1 => τ1 = yy_up τ 1 1 (nI j)) ?_ ?_
    · simp only [mm_X9_end, tt_rF, tt_br, tt_wF, tt_rt, c1.2.1]
      exact ⟨fun q => absurd q e1, fun _ => ⟨fun _ => ⟨by trivial, by trivial⟩, fun q => absurd e2 q⟩⟩
    · intro τ1 k1
      subst k1
      have e3 : yy_up (yy_up τ 1 1 (nI j)) 112 0 0 112 2 = nI t := by simp [yy_upx, m1.2.1]
      simp only [mm_X10_end, tt_rF, tt_br, tt_wF, tt_rt, e3]
      refine ⟨fun q => absurd q e1, fun _ => ⟨fun _ => ⟨by trivial, j, bt, o, n, f, h, hs, ⟨wo, wn, wh, fun i hi => wb i (by omega)⟩, ⟨⟨by omega, by simp [yy_upx], fun i hi => by simp [yy_upx]; exact c1.2.2 i (by omega)⟩, by simp [yy_upx, c2], c3.of hT (fun a ha => by funext j; simp only [yy_upx]; rw [if_neg (by omega), if_neg (by omega), if_neg (by omega)])⟩, ⟨by omega, by simp [yy_upx], fun i hi => by simp [yy_upx]; exact m1.2.2 i (by omega)⟩, by simp [yy_upx, m2], m3.of (by funext j; simp [yy_upx]) (by funext j; simp [yy_upx]) (by simp [yy_upx])⟩, fun q => absurd e2 q⟩⟩
  · have hno : y1 < 0 ∨ (¬ y1 < 0 ∧ ¬ y1 ≤ nI t) := by
      by_cases hn : y1 < 0
      · exact Or.inl hn
      · refine Or.inr ⟨hn, fun q => hy ?_⟩
        obtain ⟨j, hj, rfl⟩ := nI_of hn
        rw [nI_leI (by omega) (by omega)] at q
        exact (pp_ln_nI hj).mpr (by omega)
    refine pp_two (T := T) (τ := τ) (Qm := fun _ => True) 0 (Qc := fun τ1 => τ1 = τ) ?_ ?_
    · simp only [mm_X9_end, tt_rF, tt_br, tt_wF, tt_rt, c1.2.1]
      exact ⟨fun q => ⟨by trivial, by trivial⟩, fun q => ⟨fun q2 => by rcases hno with z | z; exact absurd z q; exact absurd q2 z.2, fun _ => ⟨by trivial, by trivial⟩⟩⟩
    · intro τ1 k1
      subst k1
      simp only [mm_X10_end, tt_rF, tt_br, tt_wF, tt_rt, m1'.2.1]
      have fin : pp_I T (yy_up τ1 112 0 0) := hI0.z0 hT (fun a ha => pp_z0a ha 0) (fun i hi => pp_z0b hi 0)
      exact ⟨fun q => ⟨by trivial, fin⟩, fun q => ⟨fun q2 => by rcases hno with z | z; exact absurd z q; exact absurd q2 z.2, fun _ => ⟨by trivial, fin⟩⟩⟩
theorem pp_op3 (hT : pp_TL T) (hI : pp_I T τ) : ∃ τ1, mm_L_3 τ = some ((), τ1) ∧ pp_I T τ1 := by
  have hI0 := hI
  obtain ⟨t, bt, o, n, f, h, hs, ⟨wo, wn, wh, wb⟩, ⟨c1, c2, c3⟩, m1, m2, m3⟩ := hI
  refine pp_two (T := T) (τ := τ) (Qm := fun _ => True) (nI f) (Qc := fun τ1 => τ1 = τ) ?_ ?_
  · simp only [mm_X9_fault, tt_rF, tt_rt, c2]
    exact ⟨by trivial, by trivial⟩
  · intro τ1 k1
    subst k1
    simp only [mm_X10_fault, tt_rF, tt_wF, tt_rt, pp_z0b (show 7 ≠ 0 by decide), m2]
    exact ⟨by trivial, hI0.z0 hT (fun a ha => pp_z0a ha 0) (fun i hi => pp_z0b hi 0)⟩
end
