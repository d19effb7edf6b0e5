/-! WOULD -/
section
variable {τ : yy_T} {t f h : Nat} {bt : Nat → Nat} {o n : pp_Ed} {hs : Nat → Nat × pp_Ed}
def pp_df (D E : pp_D) : Nat → Nat
  | 0 => 0
  | k + 1 => pp_df D E k + if D (k / 14) (k % 14) = E (k / 14) (k % 14) ∧ D (2 + k / 14) (k % 14) = E (2 + k / 14) (k % 14) then 0 else 1
theorem pp_df_le (D E : pp_D) : ∀ k, pp_df D E k ≤ k
  | 0 => Nat.le_refl _
  | k + 1 => by
    have := pp_df_le D E k
    rw [pp_df]
    split <;> omega
theorem pp_differences {k0 k1 : Nat} {D E : pp_D} (hD : pp_DC τ k0 D) (hE : pp_DC τ k1 E) : mm_X8_differencesFrom k0 k1 τ = some (nI (pp_df D E 28), τ) := by
  apply tt_of
  simp only [mm_X8_differencesFrom, mm_X8_differencesFrom_4, tt_cl]
  refine tt_upx 2 (fun w (_ : Unit) => (nI (pp_df D E (14 * w)), nI w)) (fun w _ τ1 => τ1 = τ) (fun w _ τ1 hw hI => ?_) 0 () τ (Nat.zero_le _) rfl
  subst hI
  have c1 : (1 : Int32) < nI w ↔ 1 < w := by rw [show (1 : Int32) = nI 1 by rfl, nI_ltI (by omega) (by omega)]
  simp only [mm_X8_differencesFrom_4b, tt_br, tt_rt, c1]
  refine ⟨fun q => Or.inr ⟨_, rfl, ?_⟩, fun q => ?_⟩
  · simp only [mm_X8_differencesFrom_76, tt_rt]
    rw [show w = 2 by omega]
    exact ⟨rfl, by trivial⟩
  · simp only [mm_X8_differencesFrom_12, tt_cl]
    refine tt_upx 14 (fun l (_ : Unit) => (nI (pp_df D E (14 * w + l)), nI l)) (fun l _ τ2 => τ2 = τ1) (fun l _ τ2 hl hI => ?_) 0 () τ1 (Nat.zero_le _) rfl
    subst hI
    have c14 : (14 : Int32) ≤ nI l ↔ 14 ≤ l := by rw [show (14 : Int32) = nI 14 by rfl, nI_leI (by omega) (by omega)]
    simp only [mm_X8_differencesFrom_12b, tt_br, tt_rt, c14]
    refine ⟨fun q2 => Or.inr ⟨_, rfl, ?_⟩, fun q2 => ?_⟩
    · simp only [mm_X8_differencesFrom_70, tt_rt]
      rw [show l = 14 by omega]
      exact Or.inl ⟨by omega, (), by rw [nI_1]; rfl, by trivial⟩
    · have ww : (nI w).toNatClampNeg = w := nI_clamp (by omega)
      have ll : (nI l).toNatClampNeg = l := nI_clamp (by omega)
      have inw : yy_in (nI w) 2 = true := pp_in (by omega) (by decide)
      have inl : yy_in (nI l) 14 = true := pp_in (by omega) (by decide)
      have g : ∀ {k : Nat} {F : pp_D}, pp_DC τ2 k F → τ2 (k + 1 + 1 + w) l = F w l ∧ τ2 (k + 4 + 1 + w) l = F (2 + w) l := fun {k F} hF => by
        have := hF l (by omega)
        rcases (show w = 0 ∨ w = 1 by omega) with rfl | rfl
        · exact ⟨this.1, this.2.2.1⟩
        · exact ⟨this.2.1, this.2.2.2.1⟩
      have st : pp_df D E (14 * w + (l + 1)) = pp_df D E (14 * w + l) + if D w l = E w l ∧ D (2 + w) l = E (2 + w) l then 0 else 1 := by
        rw [← Nat.add_assoc, pp_df, show (14 * w + l) / 14 = w by omega, show (14 * w + l) % 14 = l by omega]
      simp only [tt_ck, tt_rA, tt_br, ww, ll, inw, inl, true_and, (g hD).1, (g hE).1, (g hD).2, (g hE).2, mm_X8_differencesFrom_64, mm_X8_differencesFrom_61, tt_rt]
      refine ⟨fun z => ⟨fun z2 => Or.inl ⟨by omega, (), ?_, by trivial⟩, fun z2 => Or.inl ⟨by omega, (), ?_, by trivial⟩⟩, fun z => Or.inl ⟨by omega, (), ?_, by trivial⟩⟩
      · rw [st, if_pos ⟨z, z2⟩, nI_1]
        rfl
      · rw [st, if_neg (fun y => z2 y.2), nI_1, nI_1]
      · rw [st, if_neg (fun y => z y.1), nI_1, nI_1]
theorem pp_lineAt {v i : Nat} : mm_X10_lineAt (nI v) (nI i) τ = some (nI (127 * v + 1 + 9 * i), τ) := by
  apply tt_of
  simp only [mm_X10_lineAt, tt_rt]
  rw [show (127 : Int32) = nI 127 by rfl, show (9 : Int32) = nI 9 by rfl, nI_mul, nI_mul, nI_1, nI_add]
  exact ⟨by trivial, by trivial⟩
theorem pp_w40 {x1 x2 x3 : Int32} {g4 : Nat → Int32} : tt (yy_lp (fun (w : Int32) => mm_X10_would_40b x1 x2 x3 w g4) 0) τ (fun _ τ1 => (∀ k, k < 28 → τ1 120 k = τ 117 k ∧ τ1 121 k = τ 118 k) ∧ ∀ x, x ≠ 120 → x ≠ 121 → τ1 x = τ x) := by
  refine tt_up 28 (fun k τ1 => (∀ l, l < k → τ1 120 l = τ 117 l ∧ τ1 121 l = τ 118 l) ∧ ∀ x, x ≠ 120 → x ≠ 121 → τ1 x = τ x) (fun k τ1 hk hI => ?_) 0 τ (Nat.zero_le _) ⟨fun l hl => absurd hl (Nat.not_lt_zero l), fun x _ _ => rfl⟩
  obtain ⟨i1, i2⟩ := hI
  have c28 : (28 : Int32) ≤ nI k ↔ 28 ≤ k := by rw [show (28 : Int32) = nI 28 by rfl, nI_leI (by omega) (by omega)]
  simp only [mm_X10_would_40b, tt_br, tt_rt, tt_rA, tt_wA, c28]
  refine ⟨fun q => Or.inr ⟨(), by trivial, fun l hl => i1 l (by omega), i2⟩, fun q => ?_⟩
  have kk : (nI k).toNatClampNeg = k := nI_clamp (by omega)
  have ik : yy_in (nI k) 28 = true := pp_in (by omega) (by decide)
  simp only [kk, ik, true_and]
  have e0 : yy_up τ1 120 k (τ1 117 k) 118 k = τ 118 k := by
    simp only [yy_upx]
    rw [if_neg (by decide), i2 118 (by decide) (by decide)]
  rw [e0, i2 117 (by decide) (by decide)]
  refine Or.inl ⟨by omega, by rw [nI_1], fun l hl => ?_, fun x x1 x2 => ?_⟩
  · simp only [yy_upx]
    by_cases e : l = k
    · rw [e]
      simp
    · simp [e]
      exact i1 l (by omega)
  · rw [← i2 x x1 x2]
    funext l
    simp [yy_upx, x1, x2]
theorem pp_w84 {v i : Nat} {x3 : Int32} (hv : v < 2) (hi : i < 14) : tt (yy_lp (fun (w : Int32 × (Nat → Int32)) => mm_X10_would_84b (nI v) (nI i) x3 w.1 w.2) (0, (fun _ => 0))) τ (fun g τ1 => τ1 = τ ∧ ∀ k, k < 9 → g k = τ 114 (127 * v + 1 + 9 * i + k)) := by
  refine tt_upx 9 (fun k (g : Nat → Int32) => (nI k, g)) (fun k g τ1 => τ1 = τ ∧ ∀ l, l < k → g l = τ 114 (127 * v + 1 + 9 * i + l)) (fun k g τ1 hk hI => ?_) 0 (fun _ => 0) τ (Nat.zero_le _) ⟨rfl, fun l hl => absurd hl (Nat.not_lt_zero l)⟩
  obtain ⟨rfl, i1⟩ := hI
  have c9 : (9 : Int32) ≤ nI k ↔ 9 ≤ k := by rw [show (9 : Int32) = nI 9 by rfl, nI_leI (by omega) (by omega)]
  simp only [mm_X10_would_84b, tt_br, tt_rt, c9, tt_cle pp_lineAt, tt_rA, tt_wL, nI_add]
  refine ⟨fun q => Or.inr ⟨_, rfl, by trivial, fun l hl => i1 l (by omega)⟩, fun q => ?_⟩
  rw [nI_clamp (by omega), nI_clamp (by omega)]
  refine ⟨pp_in (by omega) (by decide), pp_in (by omega) (by decide), Or.inl ⟨by omega, _, by rw [nI_1], by trivial, fun l hl => ?_⟩⟩
  unfold upd
  by_cases e : l = k
  · rw [if_pos e, e]
  · rw [if_neg e]
    exact i1 l (by omega)
theorem pp_w138 {v i : Nat} {g : Nat → Int32} (hv : v < 2) (hi : i < 14) : tt (yy_lp (fun (w : Int32) => mm_X10_would_138b (nI v) (nI i) w g) 0) τ (fun _ τ1 => (∀ k, k < 9 → τ1 114 (127 * v + 1 + 9 * i + k) = g k) ∧ (∀ j, (j < 127 * v + 1 + 9 * i ∨ 127 * v + 1 + 9 * i + 9 ≤ j) → τ1 114 j = τ 114 j) ∧ ∀ a, a ≠ 114 → τ1 a = τ a) := by
  refine tt_up 9 (fun k τ1 => (∀ l, l < k → τ1 114 (127 * v + 1 + 9 * i + l) = g l) ∧ (∀ j, (j < 127 * v + 1 + 9 * i ∨ 127 * v + 1 + 9 * i + 9 ≤ j) → τ1 114 j = τ 114 j) ∧ ∀ a, a ≠ 114 → τ1 a = τ a) (fun k τ1 hk hI => ?_) 0 τ (Nat.zero_le _) ⟨fun l hl => absurd hl (Nat.not_lt_zero l), fun j _ => rfl, fun a _ => rfl⟩
  obtain ⟨i1, i2, i3⟩ := hI
  have c9 : (9 : Int32) ≤ nI k ↔ 9 ≤ k := by rw [show (9 : Int32) = nI 9 by rfl, nI_leI (by omega) (by omega)]
  simp only [mm_X10_would_138b, tt_br, tt_rt, c9, tt_cle pp_lineAt, tt_wA, tt_rL, nI_add]
  refine ⟨fun q => Or.inr ⟨(), by trivial, fun l hl => i1 l (by omega), i2, i3⟩, fun q => ?_⟩
  rw [nI_clamp (by omega), nI_clamp (by omega)]
  refine ⟨pp_in (by omega) (by decide), pp_in (by omega) (by decide), Or.inl ⟨by omega, by rw [nI_1], fun l hl => ?_, fun j hj => ?_, fun a ha => ?_⟩⟩
  · simp only [yy_upx, if_true]
    by_cases e : l = k
    · rw [if_pos (by omega), e]
    · rw [if_neg (by omega)]
      exact i1 l (by omega)
  · simp only [yy_upx, if_true]
    rw [if_neg (by omega)]
    exact i2 j hj
  · rw [← i3 a ha]
    funext l
    simp [yy_upx, ha]
theorem pp_DM.k {D : pp_D} (hD : pp_DM τ D) {k : Nat} (hk : k < 28) : τ 117 k = D (k / 14) (k % 14) ∧ τ 118 k = D (2 + k / 14) (k % 14) := by
  by_cases e : k < 14
  · rw [show k / 14 = 0 by omega, show k % 14 = k by omega]
    exact ⟨(hD k e).1, (hD k e).2.2.1⟩
  · have := hD (k - 14) (by omega)
    rw [show 14 + (k - 14) = k by omega] at this
    rw [show k / 14 = 1 by omega, show k % 14 = k - 14 by omega]
    exact ⟨this.2.1, this.2.2.2.1⟩
theorem pp_w175 {D E : pp_D} (hD : ∀ k, k < 28 → τ 120 k = D (k / 14) (k % 14) ∧ τ 121 k = D (2 + k / 14) (k % 14)) (hE : pp_DM τ E) : mm_X10_would_175 0 0 τ = some (nI (pp_df D E 28), τ) := by
  apply tt_of
  simp only [mm_X10_would_175, tt_cl]
  refine tt_upx 28 (fun k (_ : Unit) => (nI (pp_df D E k), nI k)) (fun k _ τ1 => τ1 = τ) (fun k _ τ1 hk hI => ?_) 0 () τ (Nat.zero_le _) rfl
  subst hI
  have c28 : (28 : Int32) ≤ nI k ↔ 28 ≤ k := by rw [show (28 : Int32) = nI 28 by rfl, nI_leI (by omega) (by omega)]
  simp only [mm_X10_would_175b, tt_br, tt_rt, c28]
  refine ⟨fun q => Or.inr ⟨_, rfl, ?_⟩, fun q => ?_⟩
  · simp only [mm_X10_would_225, tt_rt]
    rw [show k = 28 by omega]
    exact ⟨rfl, by trivial⟩
  · have kk : (nI k).toNatClampNeg = k := nI_clamp (by omega)
    have ik : yy_in (nI k) 28 = true := pp_in (by omega) (by decide)
    obtain ⟨a1, a2⟩ := hD k (by omega)
    obtain ⟨b1, b2⟩ := hE.k (k := k) (by omega)
    simp only [tt_rA, tt_br, kk, ik, true_and, a1, a2, b1, b2, mm_X10_would_219, mm_X10_would_216, tt_rt]
    refine ⟨fun z => ⟨fun z2 => Or.inl ⟨by omega, (), ?_, by trivial⟩, fun z2 => Or.inl ⟨by omega, (), ?_, by trivial⟩⟩, fun z => Or.inl ⟨by omega, (), ?_, by trivial⟩⟩
    · rw [pp_df, if_pos ⟨z, z2⟩, nI_1]
      rfl
    · rw [pp_df, if_neg (fun y => z2 y.2), nI_1, nI_1]
    · rw [pp_df, if_neg (fun y => z y.1), nI_1, nI_1]
/-- the editions with one line otherwise -/
def pp_wd (v i j : Nat) (o n : pp_Ed) : pp_Ed × pp_Ed := pp_new v (pp_set (pp_sel v o n) i ((pp_sel (1 - v) o n).2 j)) o n
theorem pp_wd_w {v i j : Nat} (wo : pp_wfE o) (wn : pp_wfE n) (hj : j < (pp_sel (1 - v) o n).1) : pp_wfE (pp_wd v i j o n).1 ∧ pp_wfE (pp_wd v i j o n).2 := pp_new_w wo wn (pp_set_w (pp_sel_w wo wn) ((pp_sel_w (w := 1 - v) wo wn).2 j hj))
/-- the class -/
theorem pp_cWould {v i j : Nat} (hk : pp_CK pp_TT τ o n h hs) (wo : pp_wfE o) (wn : pp_wfE n) (hv : v < 2) (hi : i < (pp_sel v o n).1) (hj : j < (pp_sel (1 - v) o n).1) : tt (mm_X9_would (nI v) (nI i) (nI j)) τ (fun r τ1 => r = nI (pp_df (pp_Df o n) (pp_Df (pp_wd v i j o n).1 (pp_wd v i j o n).2) 28) ∧ pp_fk τ τ1 o n h hs) := by
  have o14 := wo.1
  have n14 := wn.1
  have we := pp_sel_w (w := v) wo wn
  have wf := pp_sel_w (w := 1 - v) wo wn
  have e14 := we.1
  have f14 := wf.1
  have ww := pp_wd_w (i := i) wo wn hj
  have e1 : mm_X9_hasLine (nI v) (nI i) τ = some (1, τ) := by
    rcases pp_hasLine hk.1 wo hk.2.1 wn (nI v) (nI i) with ⟨-, e⟩ | ⟨no, -⟩
    · exact e
    · exact absurd (pp_OK_to hv hi (by omega)) no
  have e2 : mm_X9_hasLine (nI (1 - v)) (nI j) τ = some (1, τ) := by
    rcases pp_hasLine hk.1 wo hk.2.1 wn (nI (1 - v)) (nI j) with ⟨-, e⟩ | ⟨no, -⟩
    · exact e
    · exact absurd (pp_OK_to (by omega) hj (by omega)) no
  have ot : ∀ τ1 : yy_T, mm_X9_otherThan (nI v) τ1 = some (nI (1 - v), τ1) := fun τ1 => by
    rcases (show v = 0 ∨ v = 1 by omega) with rfl | rfl
    · rfl
    · rfl
  have s7 := pp_sel7 (w := v)
  have s8 := pp_sel7 (w := 1 - v)
  simp only [mm_X9_would]
  rw [tt_cle e1, tt_br]
  refine ⟨fun q => absurd q (by decide), fun _ => ?_⟩
  rw [tt_cle (ot τ), tt_cle e2, tt_br]
  refine ⟨fun q => absurd q (by decide), fun _ => ?_⟩
  rw [tt_cle (pp_editionOf hv), tt_cl]
  refine tt_mono (pp_copyAll (c := 13) (pp_sel_C (w := v) hk.1 hk.2.1) we (by omega)) (fun _ τ1 z => ?_)
  obtain ⟨z1, z2⟩ := z
  rw [tt_cle (ot τ1), tt_cle (pp_editionOf (by omega)), tt_cl]
  have c7 : pp_RC τ1 7 o := hk.1.of (z2 _ (by decide) (by decide) (by decide)) (z2 _ (by decide) (by decide) (by decide)) (z2 _ (by decide) (by decide) (by decide))
  have c10 : pp_RC τ1 10 n := hk.2.1.of (z2 _ (by decide) (by decide) (by decide)) (z2 _ (by decide) (by decide) (by decide)) (z2 _ (by decide) (by decide) (by decide))
  refine tt_mono (pp_setC (c := 13) z1 we (pp_sel_C (w := 1 - v) c7 c10) wf hj hi (by omega)) (fun _ τ2 y => ?_)
  obtain ⟨y1, y2⟩ := y
  have F2 : ∀ a, a ≠ 13 → a ≠ 14 → a ≠ 15 → τ2 a = τ a := fun a a1 a2 a3 => by rw [y2 a a2 a3, z2 a a1 a2 a3]
  have d7 : pp_RC τ2 7 o := hk.1.of (F2 _ (by decide) (by decide) (by decide)) (F2 _ (by decide) (by decide) (by decide)) (F2 _ (by decide) (by decide) (by decide))
  have d10 : pp_RC τ2 10 n := hk.2.1.of (F2 _ (by decide) (by decide) (by decide)) (F2 _ (by decide) (by decide) (by decide)) (F2 _ (by decide) (by decide) (by decide))
  -- both roads
  have rest : ∀ (c d : Nat), (c = 7 ∨ c = 13) → (d = 10 ∨ d = 13) → pp_RC τ2 c (pp_wd v i j o n).1 → pp_RC τ2 d (pp_wd v i j o n).2 → tt (mm_X9_would_87 d c) τ2 (fun r τ1 => r = nI (pp_df (pp_Df o n) (pp_Df (pp_wd v i j o n).1 (pp_wd v i j o n).2) 28) ∧ pp_fk τ τ1 o n h hs) := by
    intro c d hc hd h1 h2
    have lc : yy_len (c + 2) = 112 := by rcases hc with rfl | rfl <;> rfl
    have ld : yy_len (d + 2) = 112 := by rcases hd with rfl | rfl <;> rfl
    simp only [mm_X9_would_87]
    rw [tt_cl]
    refine tt_mono (pp_compare (k0 := 98) (by decide) h1 ww.1 h2 ww.2 (by omega) lc (by omega) ld) (fun _ τ3 u => ?_)
    obtain ⟨u1, u2⟩ := u
    have F3 : ∀ a, a ≠ 13 → a ≠ 14 → a ≠ 15 → (a < 50 ∨ (80 ≤ a ∧ a < 98) ∨ 112 ≤ a) → τ3 a = τ a := fun a a1 a2 a3 a4 => by rw [u2 a (by omega), F2 a a1 a2 a3]
    have K3 : pp_CK pp_TT τ3 o n h hs := hk.of pp_TT_L (fun a ha => F3 a (by omega) (by omega) (by omega) (by omega))
    rw [tt_cl]
    refine tt_mono (pp_compared K3 wo wn) (fun r τ4 s => ?_)
    obtain ⟨rfl, s1, ⟨s2, s3⟩, s4⟩ := s
    have E4 : pp_TD τ4 98 (pp_wd v i j o n).1 (pp_wd v i j o n).2 := u1.of (fun a a1 a2 => s4 a (by omega) (by omega))
    rw [tt_cle (pp_differences s1.1 E4.1), tt_rt]
    exact ⟨rfl, fun a ha => by rw [s2 a ha, F3 a (by omega) (by omega) (by omega) (by omega)], s3⟩
  rcases (show v = 0 ∨ v = 1 by omega) with rfl | rfl
  · rw [tt_br]
    refine ⟨fun _ => ?_, fun q => absurd rfl q⟩
    simp only [mm_X9_would_71, tt_br]
    refine ⟨fun q => absurd q (by decide), fun _ => rest 13 10 (Or.inr rfl) (Or.inl rfl) y1 d10⟩
  · rw [tt_br]
    refine ⟨fun q => absurd q (by decide), fun _ => ?_⟩
    simp only [mm_X9_would_71, tt_br]
    refine ⟨fun _ => rest 7 13 (Or.inl rfl) (Or.inr rfl) d7 y1, fun q => absurd rfl q⟩
/-- the reference -/
theorem pp_mWould {v i j : Nat} (ho : pp_RM τ 114 0 o) (hn : pp_RM τ 114 127 n) (wo : pp_wfE o) (wn : pp_wfE n) (hv : v < 2) (hi : i < (pp_sel v o n).1) (hj : j < (pp_sel (1 - v) o n).1) : tt (yy_cl mm_X10_laysAll (fun _ => mm_X10_would_40 (nI v) (nI i) (nI j) 0 (fun _ => 0))) τ (fun r τ1 => r = nI (pp_df (pp_Df o n) (pp_Df (pp_wd v i j o n).1 (pp_wd v i j o n).2) 28) ∧ pp_fr τ τ1) := by
  have o14 := wo.1
  have n14 := wn.1
  have we := pp_sel_w (w := v) wo wn
  have wf := pp_sel_w (w := 1 - v) wo wn
  have e14 := we.1
  have f14 := wf.1
  have ww := pp_wd_w (i := i) wo wn hj
  rw [tt_cl]
  refine tt_mono (pp_laysK ho wo hn wn) (fun _ τ1 z => ?_)
  obtain ⟨z1, z2, -, -⟩ := z
  simp only [mm_X10_would_40]
  rw [tt_cl]
  refine tt_mono pp_w40 (fun _ τ2 y => ?_)
  obtain ⟨y1, y2⟩ := y
  simp only [mm_X10_would_81, mm_X10_would_84]
  rw [tt_cl]
  refine tt_mono (pp_w84 hv (by omega)) (fun g τ2' u => ?_)
  obtain ⟨rfl, u1⟩ := u
  have e2 : τ2' 114 = τ 114 := by rw [y2 114 (by decide) (by decide)]; exact z2.2.2.2.2.2.1
  have ho2 : pp_RM τ2' 114 0 o := ho.of e2
  have hn2 : pp_RM τ2' 114 127 n := hn.of e2
  have M : pp_RM τ2' 114 (127 * v) (pp_sel v o n) := pp_sel_M hv ho2 hn2
  have N : pp_RM τ2' 114 (127 * (1 - v)) (pp_sel (1 - v) o n) := pp_sel_M (by omega) ho2 hn2
  simp only [mm_X10_would_115]
  have ov : (1 : Int32) - nI v = nI (1 - v) := by rw [show (1 : Int32) = nI 1 by rfl, nI_sub (by omega)]
  rw [tt_cle pp_lineAt, ov, tt_cle pp_lineAt, tt_cl]
  refine tt_mono (pp_copiesLine (by omega) (by omega) (by omega)) (fun _ τ3 s => ?_)
  obtain ⟨s1, s2, s3⟩ := s
  have M3 : pp_RM τ3 114 (127 * v) (pp_set (pp_sel v o n) i ((pp_sel (1 - v) o n).2 j)) := by
    refine ⟨by rw [s2 (127 * v) (by omega)]; exact M.1, fun k hk => ?_⟩
    have hk : k < (pp_sel v o n).1 := hk
    show pp_ML τ3 114 (127 * v + 1 + 9 * k) (if k = i then (pp_sel (1 - v) o n).2 j else (pp_sel v o n).2 k)
    by_cases e : k = i
    · rw [if_pos e, e]
      exact (N.2 j hj).to (wf.2 j hj).2.1 (fun q hq => s1 q hq)
    · rw [if_neg e]
      exact (M.2 k hk).to (we.2 k hk).2.1 (fun q hq => s2 _ (by omega))
  have R3 : pp_RM τ3 114 0 (pp_wd v i j o n).1 ∧ pp_RM τ3 114 127 (pp_wd v i j o n).2 := pp_MKnew hv ho2 wo hn2 wn M3 ⟨fun q hq => s2 q (by omega), s3⟩
  rw [tt_cl]
  refine tt_mono (pp_laysK R3.1 ww.1 R3.2 ww.2) (fun _ τ4 r => ?_)
  obtain ⟨r1, r2, -, r3⟩ := r
  simp only [mm_X10_would_138]
  rw [tt_cl]
  refine tt_mono (pp_w138 hv (by omega)) (fun _ τ5 x => ?_)
  obtain ⟨x1, x2, x3⟩ := x
  have e5 : τ5 114 = τ 114 := by
    rw [← e2]
    funext q
    by_cases e : q < 127 * v + 1 + 9 * i ∨ 127 * v + 1 + 9 * i + 9 ≤ q
    · rw [x2 q e, r2.2.2.2.2.2.1, s2 q e]
    · have := x1 (q - (127 * v + 1 + 9 * i)) (by omega)
      rw [show 127 * v + 1 + 9 * i + (q - (127 * v + 1 + 9 * i)) = q by omega] at this
      rw [this, u1 _ (by omega), show 127 * v + 1 + 9 * i + (q - (127 * v + 1 + 9 * i)) = q by omega]
  have D5 : pp_DM τ5 (pp_Df (pp_wd v i j o n).1 (pp_wd v i j o n).2) := r1.1.of (x3 _ (by decide)) (x3 _ (by decide)) (x3 _ (by decide))
  have W5 : ∀ k, k < 28 → τ5 120 k = pp_Df o n (k / 14) (k % 14) ∧ τ5 121 k = pp_Df o n (2 + k / 14) (k % 14) := fun k hk => by
    rw [x3 120 (by decide), x3 121 (by decide), r3 120 (by decide), r3 121 (by decide), s3 120 (by decide), s3 121 (by decide), (y1 k hk).1, (y1 k hk).2]
    exact z1.1.k hk
  simp only [mm_X10_would_169]
  rw [tt_eq (pp_w175 W5 D5)]
  have fr2 : ∀ a, a < 117 → a ≠ 114 → τ2' a = τ1 a := fun a a1 a2 => y2 a (by omega) (by omega)
  refine ⟨rfl, fun a ha => ?_, ?_, ?_, ?_, ?_, e5, ?_⟩
  · rw [x3 a (by omega), r2.1 a ha, s3 a (by omega), y2 a (by omega) (by omega), z2.1 a ha]
  · rw [x3 112 (by decide), r2.2.1, s3 112 (by decide), y2 112 (by decide) (by decide), z2.2.1]
  · rw [x3 112 (by decide), r2.2.2.1, s3 112 (by decide), y2 112 (by decide) (by decide), z2.2.2.1]
  · rw [x3 112 (by decide), r2.2.2.2.1, s3 112 (by decide), y2 112 (by decide) (by decide), z2.2.2.2.1]
  · rw [x3 113 (by decide), r2.2.2.2.2.1, s3 113 (by decide), y2 113 (by decide) (by decide), z2.2.2.2.2.1]
  · rw [x3 116 (by decide), r2.2.2.2.2.2.2, s3 116 (by decide), y2 116 (by decide) (by decide), z2.2.2.2.2.2.2]
theorem pp_op13 (hI : pp_I pp_TT τ) (y1 y2 y3 : Int32) : ∃ τ1, mm_L_13 y1 y2 y3 τ = some ((), τ1) ∧ pp_I pp_TT τ1 := by
  obtain ⟨t, bt, o, n, f, h, hs, w, ⟨c1, c2, c3⟩, m1, m2, m3⟩ := hI
  have wo := w.1
  have wn := w.2.1
  have o14 := wo.1
  have n14 := wn.1
  by_cases ok : pp_OK y1 y2 o n
  · obtain ⟨v, i, hv, rfl, rfl, hi⟩ := pp_OK_of ok
    have e14 := (pp_sel_w (w := v) wo wn).1
    have ov : (1 : Int32) - nI v = nI (1 - v) := by rw [show (1 : Int32) = nI 1 by rfl, nI_sub (by omega)]
    have ot : mm_X9_otherThan (nI v) τ = some (nI (1 - v), τ) := by
      rcases (show v = 0 ∨ v = 1 by omega) with rfl | rfl
      · rfl
      · rfl
    by_cases ok2 : pp_OK (nI (1 - v)) y3 o n
    · obtain ⟨u, j, hu, eu, rfl, hj⟩ := pp_OK_of ok2
      have eu : 1 - v = u := (nI_eq (by omega) (by omega)).mp eu
      rw [← eu] at hj
      have f14 := (pp_sel_w (w := 1 - v) wo wn).1
      refine pp_askC (r := nI (pp_df (pp_Df o n) (pp_Df (pp_wd v i j o n).1 (pp_wd v i j o n).2) 28)) w c1 c2 m1 m2 m3 (pp_cWould c3 wo wn hv hi hj) (fun τ1 k => ?_)
      obtain ⟨u1, u2, u3, u4⟩ := pp_pre k m1 m2 m3
      simp only [mm_X10_would, tt_wF]
      rcases pp_isLine u3.1 wo u3.2.1 wn (nI v) (nI i) with ⟨-, e⟩ | ⟨no, -⟩
      · rw [tt_cle e, tt_br]
        refine ⟨fun q => absurd q (by decide), fun _ => ?_⟩
        rw [ov]
        rcases pp_isLine u3.1 wo u3.2.1 wn (nI (1 - v)) (nI j) with ⟨-, e2⟩ | ⟨no, -⟩
        · rw [tt_cle e2, tt_br]
          refine ⟨fun q => absurd q (by decide), fun _ => ?_⟩
          refine tt_mono (pp_mWould u3.1 u3.2.1 wo wn hv hi hj) (fun r τ2 q => ⟨q.1, pp_fr.z0.tr q.2⟩)
        · exact absurd ok2 no
      · exact absurd ok no
    · refine pp_askC (r := -1) w c1 c2 m1 m2 m3 ?_ (fun τ1 k => ?_)
      · simp only [mm_X9_would]
        rcases pp_hasLine c3.1 wo c3.2.1 wn (nI v) (nI i) with ⟨-, e⟩ | ⟨no, -⟩
        · rw [tt_cle e, tt_br]
          refine ⟨fun q => absurd q (by decide), fun _ => ?_⟩
          rw [tt_cle ot]
          rcases pp_hasLine c3.1 wo c3.2.1 wn (nI (1 - v)) y3 with ⟨yes, -⟩ | ⟨-, e2⟩
          · exact absurd yes ok2
          · rw [tt_cle e2, tt_br, tt_rt]
            exact ⟨fun _ => ⟨rfl, pp_fk.re c3⟩, fun q => absurd rfl q⟩
        · exact absurd ok no
      · obtain ⟨u1, u2, u3, u4⟩ := pp_pre k m1 m2 m3
        simp only [mm_X10_would, tt_wF]
        rcases pp_isLine u3.1 wo u3.2.1 wn (nI v) (nI i) with ⟨-, e⟩ | ⟨no, -⟩
        · rw [tt_cle e, tt_br]
          refine ⟨fun q => absurd q (by decide), fun _ => ?_⟩
          rw [ov]
          rcases pp_isLine u3.1 wo u3.2.1 wn (nI (1 - v)) y3 with ⟨yes, -⟩ | ⟨-, e2⟩
          · exact absurd yes ok2
          · rw [tt_cle e2, tt_br, tt_rt]
            exact ⟨fun _ => ⟨rfl, pp_fr.z0⟩, fun q => absurd rfl q⟩
        · exact absurd ok no
  · refine pp_askC (r := -1) w c1 c2 m1 m2 m3 ?_ (fun τ1 k => ?_)
    · simp only [mm_X9_would]
      rcases pp_hasLine c3.1 wo c3.2.1 wn y1 y2 with ⟨yes, -⟩ | ⟨-, e⟩
      · exact absurd yes ok
      · rw [tt_cle e, tt_br, tt_rt]
        exact ⟨fun _ => ⟨rfl, pp_fk.re c3⟩, fun q => absurd rfl q⟩
    · obtain ⟨u1, u2, u3, u4⟩ := pp_pre k m1 m2 m3
      simp only [mm_X10_would, tt_wF]
      rcases pp_isLine u3.1 wo u3.2.1 wn y1 y2 with ⟨yes, -⟩ | ⟨-, e⟩
      · exact absurd yes ok
      · rw [tt_cle e, tt_br, tt_rt]
        exact ⟨fun _ => ⟨rfl, pp_fr.z0⟩, fun q => absurd rfl q⟩
end
