/-! THE COMPARISON AS A WHOLE -/
def pp_eb (r : Nat × Nat) : Int32 := if r.1 = 0 then -1 else nI r.2
theorem pp_mEdit {τ : yy_T} {o n : pp_Ed} {D : pp_D} (ho : pp_RM τ 114 0 o) (wo : pp_wfE o) (hn : pp_RM τ 114 127 n) (wn : pp_wfE n) (hD : pp_DM τ D) (hW : pp_WD o n D) : tt (mm_X10_laysEdits_13 (-1) 0 0) τ (fun y τ1 => (((pp_es o n D).1 = 0 ∧ y = .inl (-1) ∧ pp_DM τ1 D) ∨ ((pp_es o n D).1 ≠ 0 ∧ y = .inl (nI (pp_es o n D).2) ∧ pp_DM τ1 (pp_e1 o n D))) ∧ ∀ x, x ≠ 117 → x ≠ 118 → x ≠ 123 → τ1 x = τ x) := by
  have o14 := wo.1
  have n14 := wn.1
  simp only [mm_X10_laysEdits_13, tt_cl]
  refine tt_upx 196 (fun m (_ : Unit) => (pp_eb (pp_sc (pp_ef o n D) m), nI (pp_sc (pp_ef o n D) m).1, nI m)) (fun m _ τ1 => ∀ x, x ≠ 123 → τ1 x = τ x) (fun m _ τ1 hm hI => ?_) 0 () τ (Nat.zero_le _) (fun x _ => rfl)
  have ho1 : pp_RM τ1 114 0 o := ho.of (hI _ (by decide))
  have hn1 : pp_RM τ1 114 127 n := hn.of (hI _ (by decide))
  have hD1 : pp_DM τ1 D := hD.of (hI _ (by decide)) (hI _ (by decide)) (hI _ (by decide))
  have c196 : (196 : Int32) ≤ nI m ↔ 196 ≤ m := by rw [show (196 : Int32) = nI 196 by rfl, nI_leI (by omega) (by omega)]
  have sb := pp_sc_b (f := pp_ef o n D) (pp_ef_b wo) m
  simp only [mm_X10_laysEdits_13b, tt_br, tt_rt, c196]
  refine ⟨fun q => Or.inr ⟨_, rfl, ?_⟩, fun q => ?_⟩
  · have em : m = 196 := by omega
    rw [em]
    show tt (mm_X10_laysEdits_113 (pp_eb (pp_es o n D))) τ1 _
    simp only [mm_X10_laysEdits_113, mm_X10_laysEdits_131, tt_br, tt_rt]
    by_cases e : (pp_es o n D).1 = 0
    · have eb : pp_eb (pp_es o n D) = -1 := if_pos e
      rw [eb]
      exact ⟨fun _ => ⟨Or.inl ⟨e, by trivial, hD1⟩, fun x _ _ h => hI x h⟩, fun z => absurd rfl z⟩
    · obtain ⟨h1, h2, h3, h4, h5, h6⟩ := pp_es_in e
      obtain ⟨d1, d2⟩ := pp_d14 (k := (pp_es o n D).2) (by omega)
      have eb : pp_eb (pp_es o n D) = nI (pp_es o n D).2 := if_neg e
      rw [eb]
      refine ⟨fun z => absurd z (pp_neg1 (by omega)), fun _ => ?_⟩
      rw [d2, d1, tt_cl]
      have hw0 := hW ((pp_es o n D).2 / 14) (by omega)
      have hw1 := hW ((pp_es o n D).2 % 14) (by omega)
      refine tt_mono (pp_mCouple (as := nI 2) (v := -1) hD1 (show (pp_es o n D).2 / 14 < 14 by omega) (show (pp_es o n D).2 % 14 < 14 by omega) (hw0.2.2.2.2.1 h4) (hw1.2.2.2.2.2.1 h5)) (fun _ τ2 y => ?_)
      rw [tt_rt]
      exact ⟨Or.inr ⟨e, rfl, y.1⟩, fun x x1 x2 x3 => by rw [y.2 x x1 x2]; exact hI x x3⟩
  · obtain ⟨d1, d2⟩ := pp_d14 (k := m) (by omega)
    have ef : pp_ef o n D m = if m / 14 < o.1 ∧ m % 14 < n.1 ∧ D 0 (m / 14) = 3 ∧ D 1 (m % 14) = 3 then pp_lk (o.2 (m / 14)) (n.2 (m % 14)) else 0 := rfl
    rw [d2, d1]
    have skip : ∀ τ2 : yy_T, (∀ x, x ≠ 123 → τ2 x = τ x) → ¬ (pp_sc (pp_ef o n D) m).1 < pp_ef o n D m → tt (mm_X10_laysEdits_107 (pp_eb (pp_sc (pp_ef o n D) m)) (nI (pp_sc (pp_ef o n D) m).1) (nI m)) τ2 (fun y τ3 => (m < 196 ∧ ∃ x1 : Unit, y = .inl (pp_eb (pp_sc (pp_ef o n D) (m + 1)), nI (pp_sc (pp_ef o n D) (m + 1)).1, nI (m + 1)) ∧ ∀ x, x ≠ 123 → τ3 x = τ x) ∨ ∃ r : Int32, y = .inr r ∧ tt (mm_X10_laysEdits_113 r) τ3 (fun y τ1 => (((pp_es o n D).1 = 0 ∧ y = .inl (-1) ∧ pp_DM τ1 D) ∨ ((pp_es o n D).1 ≠ 0 ∧ y = .inl (nI (pp_es o n D).2) ∧ pp_DM τ1 (pp_e1 o n D))) ∧ ∀ x, x ≠ 117 → x ≠ 118 → x ≠ 123 → τ1 x = τ x)) := by
      intro τ2 g hs
      simp only [mm_X10_laysEdits_107, tt_rt]
      exact Or.inl ⟨by omega, (), by rw [pp_sc_n hs, nI_1], g⟩
    rw [tt_cle (pp_mLoose0 ho1 o14 hD1 (by omega)), tt_br, pp_b_0]
    refine ⟨fun z => skip τ1 hI (by rw [ef, if_neg (fun y => z ⟨y.1, y.2.2.1⟩)]; omega), fun z => ?_⟩
    have z := Classical.not_not.mp z
    rw [tt_cle (pp_mLoose1 hn1 n14 hD1 (by omega)), tt_br, pp_b_0]
    refine ⟨fun y => skip τ1 hI (by rw [ef, if_neg (fun w => y ⟨w.2.1, w.2.2.2⟩)]; omega), fun y => ?_⟩
    have y := Classical.not_not.mp y
    rw [if_pos ⟨z.1, y.1, z.2, y.2⟩] at ef
    rw [tt_cl]
    refine tt_mono (pp_sharedOf ho1 wo hn1 wn z.1 y.1) (fun r τ2 u => ?_)
    obtain ⟨u1, -, u2⟩ := u
    have g2 : ∀ x, x ≠ 123 → τ2 x = τ x := fun x hx => by rw [u2 x hx]; exact hI x hx
    have ho2 : pp_RM τ2 114 0 o := ho.of (g2 _ (by decide))
    have hn2 : pp_RM τ2 114 127 n := hn.of (g2 _ (by decide))
    have w0 : mm_X10_wordsOf 0 (nI (m / 14)) τ2 = some (nI (o.2 (m / 14)).length, τ2) := pp_wordsOf (w := 0) (by decide) ho2 o14 z.1
    have w1 : mm_X10_wordsOf 1 (nI (m % 14)) τ2 = some (nI (n.2 (m % 14)).length, τ2) := pp_wordsOf (w := 1) (by decide) hn2 n14 y.1
    have sl := pp_sh_le (o.2 (m / 14)) (n.2 (m % 14))
    have a8 := (wo.2 _ z.1).2.1
    have b8 := (wn.2 _ y.1).2.1
    rw [u1, tt_cle w0, show (2 : Int32) = nI 2 by rfl, nI_mul, tt_br, nI_ltI (by omega) (by omega)]
    refine ⟨fun v => skip τ2 g2 (by rw [ef]; unfold pp_lk; rw [if_neg (by omega)]; omega), fun v => ?_⟩
    rw [tt_cle w1, tt_br, nI_ltI (by omega) (by omega)]
    refine ⟨fun w => skip τ2 g2 (by rw [ef]; unfold pp_lk; rw [if_neg (by omega)]; omega), fun w => ?_⟩
    have el : pp_ef o n D m = pp_sh (o.2 (m / 14)) (n.2 (m % 14)) := by
      rw [ef]
      unfold pp_lk
      rw [if_pos (by omega)]
    rw [tt_br, nI_ltI (by omega) (by omega)]
    refine ⟨fun s => ?_, fun s => skip τ2 g2 (by omega)⟩
    simp only [mm_X10_laysEdits_107, tt_rt]
    refine Or.inl ⟨by omega, (), ?_, g2⟩
    rw [pp_sc_s (by omega), nI_1, ← el]
    show _ = Sum.inl (if pp_ef o n D m = 0 then (-1 : Int32) else nI m, nI (pp_ef o n D m), nI (m + 1))
    rw [if_neg (by omega)]
theorem pp_laysEdits {τ : yy_T} {o n : pp_Ed} {D : pp_D} (ho : pp_RM τ 114 0 o) (wo : pp_wfE o) (hn : pp_RM τ 114 127 n) (wn : pp_wfE n) (hD : pp_DM τ D) (hW : pp_WD o n D) : tt mm_X10_laysEdits τ (fun _ τ1 => pp_DM τ1 (pp_er o n 14 D) ∧ ∀ x, x ≠ 117 → x ≠ 118 → x ≠ 123 → τ1 x = τ x) := by
  have o14 := wo.1
  simp only [mm_X10_laysEdits, mm_X10_laysEdits_2, tt_cl]
  refine tt_upx 15 (fun k (x : Int32) => x) (fun k x τ1 => ((x ≠ -1 ∧ ∃ D1, pp_DM τ1 D1 ∧ pp_WD o n D1 ∧ pp_cnt (D1 0) 3 14 + k ≤ 14 ∧ pp_er o n (14 - k) D1 = pp_er o n 14 D) ∨ (x = -1 ∧ pp_DM τ1 (pp_er o n 14 D))) ∧ ∀ x, x ≠ 117 → x ≠ 118 → x ≠ 123 → τ1 x = τ x) (fun k x τ1 hk hI => ?_) 0 0 τ (Nat.zero_le _) ⟨Or.inl ⟨by decide, D, hD, hW, pp_cnt_le _ _ _, rfl⟩, fun x _ _ _ => rfl⟩
  obtain ⟨i1, i2⟩ := hI
  simp only [mm_X10_laysEdits_2b, tt_br, tt_rt]
  refine ⟨fun q => Or.inr ⟨(), by trivial, ?_⟩, fun q => ?_⟩
  · simp only [mm_X10_laysEdits_134, tt_rt]
    rcases i1 with ⟨z, -⟩ | ⟨-, z⟩
    · exact absurd q z
    · exact ⟨z, i2⟩
  · rcases i1 with ⟨-, D1, j1, j2, j3, j4⟩ | ⟨z, -⟩
    · refine tt_mono (pp_mEdit (ho.of (i2 _ (by decide) (by decide) (by decide))) wo (hn.of (i2 _ (by decide) (by decide) (by decide))) wn j1 j2) (fun y τ2 z => ?_)
      obtain ⟨z1, z2⟩ := z
      have F : ∀ x, x ≠ 117 → x ≠ 118 → x ≠ 123 → τ2 x = τ x := fun x x1 x2 x3 => by rw [z2 x x1 x2 x3]; exact i2 x x1 x2 x3
      rcases z1 with ⟨y1, y2, y3⟩ | ⟨y1, y2, y3⟩
      · refine Or.inl ⟨by omega, -1, y2, Or.inr ⟨rfl, ?_⟩, F⟩
        rw [← j4, pp_er_stop y1]
        exact y3
      · obtain ⟨w1, w2⟩ := pp_e1_W o14 j2 y1
        refine Or.inl ⟨by omega, _, y2, Or.inl ⟨pp_neg1 (by have := (pp_es_in y1).1; omega), pp_e1 o n D1, y3, w1, by omega, ?_⟩, F⟩
        rw [← j4, show 14 - k = 14 - (k + 1) + 1 by omega, pp_er, if_neg y1]
    · exact absurd z q
/-- what is told of two editions -/
def pp_B0 (o n : pp_Ed) : pp_Bs := (pp_D0 (pp_KA o n), 0, fun _ => (0, 0, 0))
def pp_Bf (o n : pp_Ed) : pp_Bs := pp_br o n 14 (pp_B0 o n)
def pp_Df (o n : pp_Ed) : pp_D := pp_er o n 14 (pp_Bf o n).1
theorem pp_KA_in {o n : pp_Ed} : ∀ p ∈ pp_KA o n, p.1 < o.1 ∧ p.2 < n.1 := fun p hp => by
  have h : 0 ≤ p.1 ∧ p.1 < o.1 ∧ 0 ≤ p.2 ∧ p.2 < n.1 := pp_KK_in hp
  exact ⟨h.2.1, h.2.2.2⟩
theorem pp_B0_W {o n : pp_Ed} : pp_BW o n (pp_B0 o n) := ⟨pp_WD0 pp_KA_in, by
  have := pp_cnt_le (pp_D0 (pp_KA o n) 0) 3 14
  show 0 + pp_cnt (pp_D0 (pp_KA o n) 0) 3 14 ≤ 14
  omega⟩
theorem pp_Bf_W {o n : pp_Ed} (o14 : o.1 ≤ 14) (n14 : n.1 ≤ 14) : pp_BW o n (pp_Bf o n) := pp_br_W o14 n14 14 _ pp_B0_W
theorem pp_Df_W {o n : pp_Ed} (o14 : o.1 ≤ 14) (n14 : n.1 ≤ 14) : pp_WD o n (pp_Df o n) := pp_er_W o14 14 _ (pp_Bf_W o14 n14).1
theorem pp_Bf_N {o n : pp_Ed} : pp_N2 (pp_Bf o n).1 := pp_N2.br 14 _ pp_N2_0
def pp_TD (τ : yy_T) (k0 : Nat) (o n : pp_Ed) : Prop := pp_DC τ k0 (pp_Df o n) ∧ pp_CP τ k0 (pp_Df o n) ∧ τ k0 7 = nI (pp_Bf o n).2.1 ∧ (∀ q, q < (pp_Bf o n).2.1 → τ (k0 + 11) q = nI ((pp_Bf o n).2.2 q).1 ∧ τ (k0 + 12) q = nI ((pp_Bf o n).2.2 q).2.1 ∧ τ (k0 + 13) q = nI ((pp_Bf o n).2.2 q).2.2) ∧ τ k0 8 = nI (pp_an o n) ∧ τ k0 9 = nI (pp_ru o n) ∧ τ k0 10 = pp_ch o n (pp_Df o n)
theorem pp_TD.of {τ τ1 : yy_T} {k0 : Nat} {o n : pp_Ed} (h : pp_TD τ k0 o n) (e : ∀ a, k0 ≤ a → a < k0 + 14 → τ1 a = τ a) : pp_TD τ1 k0 o n := by
  obtain ⟨h1, h2, h3, h4, h5⟩ := h
  refine ⟨h1.of (fun a a1 a2 => e a (by omega) (by omega)), h2.of (e _ (by omega) (by omega)), by rw [e k0 (by omega) (by omega)]; exact h3, fun q hq => ?_, by rw [e k0 (by omega) (by omega)]; exact h5⟩
  rw [e (k0 + 11) (by omega) (by omega), e (k0 + 12) (by omega) (by omega), e (k0 + 13) (by omega) (by omega)]
  exact h4 q hq
/-- the class compares -/
theorem pp_compare {τ : yy_T} {c d k0 : Nat} {o n : pp_Ed} (hk : 80 ≤ k0) (ho : pp_RC τ c o) (wo : pp_wfE o) (hn : pp_RC τ d n) (wn : pp_wfE n) (hc : c + 2 < 50) (hlc : yy_len (c + 2) = 112) (hd : d + 2 < 50) (hld : yy_len (d + 2) = 112) : tt (mm_X1_compare c d k0) τ (fun _ τ1 => pp_TD τ1 k0 o n ∧ ∀ x, (x < 50 ∨ (80 ≤ x ∧ (x < k0 ∨ k0 + 14 ≤ x))) → τ1 x = τ x) := by
  have o14 := wo.1
  have n14 := wn.1
  simp only [mm_X1_compare]
  rw [tt_cl]
  refine tt_mono (pp_number ho wo hn wn hc hd) (fun _ τ1 q => ?_)
  obtain ⟨q1, q2⟩ := q
  rw [tt_cl]
  refine tt_mono (pp_clear (τ := τ1) (k0 := k0)) (fun _ τ2 u => ?_)
  obtain ⟨u1, u2, u3, u4, u5, u6, u7⟩ := u
  have S2 : pp_KS τ2 k0 o n pp_De [] := ⟨q1.of (u7 _ (by omega)) (u7 _ (by omega)) (u7 _ (by omega)), u1, u2, pp_RK_e⟩
  rw [tt_cl]
  refine tt_mono (pp_keepAll (by omega) S2 o14 n14 u4 u5) (fun _ τ3 v => ?_)
  obtain ⟨D, K, ⟨v1, v2, v3, v4⟩, v5, v6, v7, v8, v9⟩ := v
  have rk : pp_RK D (pp_KA o n) := v4.cg (fun p => (v5 p).symm)
  have B3 : pp_BC τ3 k0 (pp_B0 o n) := ⟨v2.D0 rk, v3.D0 rk, by rw [v8 7 (by decide) (by decide)]; exact u3, fun q hq => absurd hq (Nat.not_lt_zero q)⟩
  refine pp_moveAll (by omega) v1 B3 pp_B0_W o14 n14 (fun τ4 w1 w2 w3 => ?_)
  have w1 : pp_BC τ4 k0 (pp_Bf o n) := w1
  have f4 : ∀ x, (x < 50 ∨ (80 ≤ x ∧ (x < k0 ∨ k0 + 14 ≤ x))) → τ4 x = τ x := fun x hx => by
    rw [w3 x (by omega), v9 x (by omega), u7 x (by omega), q2 x (by omega) (by omega) (by omega)]
  have ho4 : pp_RC τ4 c o := ho.of (f4 _ (by omega)) (f4 _ (by omega)) (f4 _ (by omega))
  have hn4 : pp_RC τ4 d n := hn.of (f4 _ (by omega)) (f4 _ (by omega)) (f4 _ (by omega))
  simp only [mm_X1_compare_56]
  rw [tt_cl]
  refine tt_mono (pp_measureLikeness hk ho4 wo hn4 wn hc hlc hd hld w1.1) (fun _ τ5 y => ?_)
  obtain ⟨y1, y2⟩ := y
  have B5 : pp_BC τ5 k0 (pp_Bf o n) := w1.of (fun a a1 a2 => y2 a (by omega))
  have ho5 : pp_RC τ5 c o := ho4.of (y2 _ (by omega)) (y2 _ (by omega)) (y2 _ (by omega))
  have hn5 : pp_RC τ5 d n := hn4.of (y2 _ (by omega)) (y2 _ (by omega)) (y2 _ (by omega))
  have k5 : ∀ q, q ≠ 7 → τ5 k0 q = τ3 k0 q := fun q hq => by rw [y2 k0 (by omega)]; exact w2 q hq
  have e10 : τ5 k0 10 = pp_e2 o n (pp_Bf o n).1 := by
    rw [k5 10 (by decide), v8 10 (by decide) (by decide), u6, pp_Bf_N.e2]
  refine tt_mono (pp_editAll hk ho5 wo hn5 wn hc hd B5.1 B5.2.1 y1 e10) (fun _ τ6 z => ?_)
  obtain ⟨z1, z2, z3, z4, z5⟩ := z
  refine ⟨⟨z1, z2, by rw [z4 7 (by decide)]; exact B5.2.2.1, fun q hq => ?_, ?_, ?_, z3⟩, fun x hx => ?_⟩
  · rw [z5 (k0 + 11) (by omega), z5 (k0 + 12) (by omega), z5 (k0 + 13) (by omega)]
    exact B5.2.2.2 q hq
  · rw [z4 8 (by decide), k5 8 (by decide)]
    exact v6
  · rw [z4 9 (by decide), k5 9 (by decide)]
    exact v7
  · rw [z5 x (by omega), y2 x (by omega), f4 x hx]
/-- the reference lays all -/
def pp_TN (τ : yy_T) (o n : pp_Ed) : Prop := pp_DM τ (pp_Df o n) ∧ τ 112 16 = nI (pp_Bf o n).2.1 ∧ (∀ q, q < (pp_Bf o n).2.1 → τ 122 (3 * q) = nI ((pp_Bf o n).2.2 q).1 ∧ τ 122 (3 * q + 1) = nI ((pp_Bf o n).2.2 q).2.1 ∧ τ 122 (3 * q + 2) = nI ((pp_Bf o n).2.2 q).2.2) ∧ τ 112 17 = nI (pp_an o n) ∧ τ 112 18 = nI (pp_ru o n)
theorem pp_laysAll {τ : yy_T} {o n : pp_Ed} (ho : pp_RM τ 114 0 o) (wo : pp_wfE o) (hn : pp_RM τ 114 127 n) (wn : pp_wfE n) : tt mm_X10_laysAll τ (fun _ τ1 => pp_TN τ1 o n ∧ (∀ q, q < 16 → τ1 112 q = τ 112 q) ∧ ∀ x, (x < 112 ∨ x = 113 ∨ x = 114 ∨ x = 115 ∨ x = 116 ∨ x = 120 ∨ x = 121) → τ1 x = τ x) := by
  have o14 := wo.1
  have n14 := wn.1
  simp only [mm_X10_laysAll, mm_X10_laysAll_2, tt_cl]
  refine tt_up 28 (fun k τ1 => (∀ l, l < k → τ1 117 l = 3 ∧ τ1 118 l = -1 ∧ τ1 119 l = -1) ∧ ∀ x, x ≠ 117 → x ≠ 118 → x ≠ 119 → τ1 x = τ x) (fun k τ1 hk hI => ?_) 0 τ (Nat.zero_le _) ⟨fun l hl => absurd hl (Nat.not_lt_zero l), fun x _ _ _ => rfl⟩
  obtain ⟨i1, i2⟩ := hI
  have c28 : (28 : Int32) ≤ nI k ↔ 28 ≤ k := by rw [show (28 : Int32) = nI 28 by rfl, nI_leI (by omega) (by omega)]
  simp only [mm_X10_laysAll_2b, tt_br, tt_rt, tt_wA, c28]
  refine ⟨fun q => Or.inr ⟨(), by trivial, ?_⟩, fun q => ?_⟩
  · have ho1 : pp_RM τ1 114 0 o := ho.of (i2 _ (by decide) (by decide) (by decide))
    have hn1 : pp_RM τ1 114 127 n := hn.of (i2 _ (by decide) (by decide) (by decide))
    have D1 : pp_DM τ1 pp_De := fun l hl => ⟨(i1 l (by omega)).1, (i1 (14 + l) (by omega)).1, (i1 l (by omega)).2.1, (i1 (14 + l) (by omega)).2.1, (i1 l (by omega)).2.2, (i1 (14 + l) (by omega)).2.2⟩
    have e0 : mm_X10_many 0 τ1 = some (nI o.1, τ1) := pp_many (w := 0) (by decide) ho1
    have e1 : mm_X10_many 1 τ1 = some (nI n.1, τ1) := pp_many (w := 1) (by decide) hn1
    have gN : yy_gN 0 (nI o.1) 0 (nI n.1) = 4 * min (o.1 - 0) (n.1 - 0) + 2 := pp_gN (a := 0) (c := 0) (by omega) (by omega) (by omega) (by omega)
    simp only [mm_X10_laysAll_35, tt_cle e0, tt_cle e1, tt_ck, gN]
    refine ⟨by omega, ?_⟩
    rw [tt_cl]
    refine tt_mono (pp_goesAll wo wn ⟨ho1, hn1, D1, pp_RK_e⟩) (fun _ τ2 z => ?_)
    obtain ⟨D2, K2, ⟨z1, z2, z3, z4⟩, z5, z6, z7, z8, z9⟩ := z
    have rk : pp_RK D2 (pp_KA o n) := z4.cg (fun p => (z5 p).symm)
    rw [tt_cl]
    refine tt_mono (pp_laysBlocks (B := fun _ => (0, 0, 0)) z1 wo z2 wn (z3.D0 rk) pp_B0_W) (fun _ τ3 y => ?_)
    obtain ⟨y1, y2, y3⟩ := y
    have y1 : pp_BM τ3 (pp_Bf o n) := y1
    have h114 : τ3 114 = τ2 114 := y3 114 (by decide) (by decide) (by decide) (by decide) (by decide)
    rw [tt_cl]
    refine tt_mono (pp_laysEdits (z1.of h114) wo (z2.of h114) wn y1.1 (pp_Bf_W o14 n14).1) (fun _ τ4 v => ?_)
    obtain ⟨v1, v2⟩ := v
    rw [tt_rt]
    have g112 : τ4 112 = τ3 112 := v2 112 (by decide) (by decide) (by decide)
    refine ⟨⟨v1, by rw [g112]; exact y1.2.1, fun q hq => ?_, ?_, ?_⟩, fun q hq => ?_, fun x hx => ?_⟩
    · rw [v2 122 (by decide) (by decide) (by decide)]
      exact y1.2.2 q hq
    · rw [g112, y2 17 (by decide)]
      exact z6
    · rw [g112, y2 18 (by decide)]
      exact z7
    · rw [g112, y2 q (by omega), z8 q (by omega) (by omega), i2 112 (by decide) (by decide) (by decide)]
    · rw [v2 x (by omega) (by omega) (by omega), y3 x (by omega) (by omega) (by omega) (by omega) (by omega), z9 x (by omega) (by omega) (by omega), i2 x (by omega) (by omega) (by omega)]
  · have kk : (nI k).toNatClampNeg = k := nI_clamp (by omega)
    have ik : yy_in (nI k) 28 = true := pp_in (by omega) (by decide)
    simp only [kk, ik, true_and]
    refine Or.inl ⟨by omega, by rw [nI_1], fun l hl => ?_, fun x x1 x2 x3 => ?_⟩
    · simp only [yy_upx]
      by_cases e : l = k
      · rw [e]
        simp
      · simp [e]
        exact i1 l (by omega)
    · rw [← i2 x x1 x2 x3]
      funext l
      simp [yy_upx, x1, x2, x3]
