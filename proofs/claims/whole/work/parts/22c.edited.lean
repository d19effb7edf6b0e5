/-! EDITED LINES: what both sides look for; the class measures -/
def pp_lk (l1 l2 : pp_L) : Nat := if l1.length ≤ 2 * pp_sh l1 l2 ∧ l2.length ≤ 2 * pp_sh l1 l2 then pp_sh l1 l2 else 0
theorem pp_sh_le (l1 l2 : pp_L) : pp_sh l1 l2 ≤ l1.length ∧ pp_sh l1 l2 ≤ l2.length := ⟨pp_lc_n, pp_lc_m⟩
theorem pp_lk_le (l1 l2 : pp_L) : pp_lk l1 l2 ≤ l1.length := by
  have := pp_sh_le l1 l2
  unfold pp_lk
  split <;> omega
theorem pp_lk_ne {l1 l2 : pp_L} (h : pp_lk l1 l2 ≠ 0) : pp_lk l1 l2 = pp_sh l1 l2 := by
  unfold pp_lk at h ⊢
  split
  · rfl
  · rename_i z
    rw [if_neg z] at h
    exact absurd rfl h
def pp_ef (o n : pp_Ed) (D : pp_D) (k : Nat) : Nat := if k / 14 < o.1 ∧ k % 14 < n.1 ∧ D 0 (k / 14) = 3 ∧ D 1 (k % 14) = 3 then pp_lk (o.2 (k / 14)) (n.2 (k % 14)) else 0
def pp_es (o n : pp_Ed) (D : pp_D) : Nat × Nat := pp_sc (pp_ef o n D) 196
def pp_e1 (o n : pp_Ed) (D : pp_D) : pp_D := pp_jn D (nI 2) ((pp_es o n D).2 / 14) ((pp_es o n D).2 % 14) (-1)
def pp_er (o n : pp_Ed) : Nat → pp_D → pp_D
  | 0, D => D
  | m + 1, D => if (pp_es o n D).1 = 0 then D else pp_er o n m (pp_e1 o n D)
theorem pp_er_stop {o n : pp_Ed} {D : pp_D} (h : (pp_es o n D).1 = 0) : ∀ m, pp_er o n m D = D
  | 0 => rfl
  | m + 1 => by rw [pp_er, if_pos h]
theorem pp_ef_b {o n : pp_Ed} {D : pp_D} (wo : pp_wfE o) (k : Nat) : pp_ef o n D k ≤ 8 := by
  unfold pp_ef
  split
  · rename_i z
    have := pp_lk_le (o.2 (k / 14)) (n.2 (k % 14))
    have := (wo.2 _ z.1).2.1
    omega
  · omega
theorem pp_es_in {o n : pp_Ed} {D : pp_D} (h : (pp_es o n D).1 ≠ 0) : (pp_es o n D).2 < 196 ∧ (pp_es o n D).2 / 14 < o.1 ∧ (pp_es o n D).2 % 14 < n.1 ∧ D 0 ((pp_es o n D).2 / 14) = 3 ∧ D 1 ((pp_es o n D).2 % 14) = 3 ∧ (pp_es o n D).1 = pp_sh (o.2 ((pp_es o n D).2 / 14)) (n.2 ((pp_es o n D).2 % 14)) := by
  unfold pp_es at h ⊢
  obtain ⟨h1, h2⟩ := pp_sc_in 196 h
  generalize pp_sc (pp_ef o n D) 196 = r at *
  unfold pp_ef at h2
  by_cases z : r.2 / 14 < o.1 ∧ r.2 % 14 < n.1 ∧ D 0 (r.2 / 14) = 3 ∧ D 1 (r.2 % 14) = 3
  · rw [if_pos z] at h2
    exact ⟨h1, z.1, z.2.1, z.2.2.1, z.2.2.2, by rw [← h2]; exact pp_lk_ne (by rw [h2]; exact h)⟩
  · rw [if_neg z] at h2
    exact absurd h2.symm h
theorem pp_e1_W {o n : pp_Ed} {D : pp_D} (o14 : o.1 ≤ 14) (hW : pp_WD o n D) (h : (pp_es o n D).1 ≠ 0) : pp_WD o n (pp_e1 o n D) ∧ pp_cnt (pp_e1 o n D 0) 3 14 + 1 = pp_cnt (D 0) 3 14 := by
  obtain ⟨h1, h2, h3, h4, h5, h6⟩ := pp_es_in h
  exact ⟨hW.jn (by decide) h2 h3, pp_cnt_dn (h := D 0) (u := nI 2) h4 (by decide) 14 (by omega)⟩
theorem pp_er_W {o n : pp_Ed} (o14 : o.1 ≤ 14) : ∀ (m : Nat) (D : pp_D), pp_WD o n D → pp_WD o n (pp_er o n m D)
  | 0, D, h => h
  | m + 1, D, h => by
    rw [pp_er]
    by_cases e : (pp_es o n D).1 = 0
    · rw [if_pos e]
      exact h
    · rw [if_neg e]
      exact pp_er_W o14 m _ (pp_e1_W o14 h e).1
/-! sums -/
def pp_Su (f : Nat → Int32) : Nat → Int32
  | 0 => 0
  | n + 1 => pp_Su f n + f n
theorem pp_Su_cg {f g : Nat → Int32} : ∀ n, (∀ l, l < n → f l = g l) → pp_Su f n = pp_Su g n
  | 0, _ => rfl
  | n + 1, h => by rw [pp_Su, pp_Su, pp_Su_cg n (fun l hl => h l (by omega)), h n (by omega)]
theorem pp_Su_0 {f : Nat → Int32} : ∀ n, (∀ l, l < n → f l = 0) → pp_Su f n = 0
  | 0, _ => rfl
  | n + 1, h => by rw [pp_Su, pp_Su_0 n (fun l hl => h l (by omega)), h n (by omega)]; rfl
theorem pp_Su_up {f g : Nat → Int32} {i : Nat} (h : ∀ l, l ≠ i → g l = f l) (h0 : f i = 0) : ∀ n, i < n → pp_Su g n = pp_Su f n + g i
  | 0, hi => by omega
  | n + 1, hi => by
    rw [pp_Su, pp_Su]
    by_cases e : i = n
    · subst e
      rw [pp_Su_cg (f := g) (g := f) i (fun l hl => h l (by omega)), h0, Int32.add_zero]
    · rw [pp_Su_up h h0 n (by omega), h n (by omega), Int32.add_assoc, Int32.add_comm (g i), ← Int32.add_assoc]
theorem pp_Su_add {f g : Nat → Int32} : ∀ n, pp_Su (fun l => f l + g l) n = pp_Su f n + pp_Su g n
  | 0 => (by decide : (0 : Int32) = 0 + 0)
  | n + 1 => by
    rw [pp_Su, pp_Su, pp_Su, pp_Su_add n]
    grind
theorem pp_Su_sub {f g : Nat → Int32} : ∀ n, pp_Su (fun l => f l - g l) n = pp_Su f n - pp_Su g n
  | 0 => (by decide : (0 : Int32) = 0 - 0)
  | n + 1 => by
    rw [pp_Su, pp_Su, pp_Su, pp_Su_sub n]
    grind
def pp_s2 (h : Nat → Int32) (e : pp_Ed) : Nat → Int32 := fun k => if h k = nI 2 then nI (e.2 k).length else 0
def pp_s3 (h : Nat → Int32) (e : pp_Ed) : Nat → Int32 := fun k => if h k = 3 then nI (e.2 k).length else 0
def pp_s4 (D : pp_D) (o n : pp_Ed) : Nat → Int32 := fun k => if D 0 k = nI 2 then 2 * nI (pp_sh (o.2 k) (n.2 (D 2 k).toNatClampNeg)) else 0
/-- words that changed in edited lines -/
def pp_e2 (o n : pp_Ed) (D : pp_D) : Int32 := pp_Su (pp_s2 (D 0) o) o.1 + pp_Su (pp_s2 (D 1) n) n.1 - pp_Su (pp_s4 D o n) o.1
theorem pp_e2_jn {o n : pp_Ed} {D : pp_D} {i j : Nat} {v : Int32} (hi : i < o.1) (hj : j < n.1) (j14 : j < 14) (h0 : D 0 i = 3) (h1 : D 1 j = 3) : pp_e2 o n (pp_jn D (nI 2) i j v) = pp_e2 o n D + (nI (o.2 i).length + nI (n.2 j).length - 2 * nI (pp_sh (o.2 i) (n.2 j))) := by
  have n3 : ¬ (3 : Int32) = nI 2 := by decide
  have a1 : pp_Su (pp_s2 (pp_jn D (nI 2) i j v 0) o) o.1 = pp_Su (pp_s2 (D 0) o) o.1 + nI (o.2 i).length := by
    rw [pp_Su_up (f := pp_s2 (D 0) o) (g := pp_s2 (pp_jn D (nI 2) i j v 0) o) (i := i) (fun l hl => ?_) ?_ o.1 hi]
    · unfold pp_s2
      rw [pp_jn0, if_pos rfl, if_pos rfl]
    · unfold pp_s2
      rw [h0, if_neg n3]
    · unfold pp_s2
      rw [pp_jn0, if_neg hl]
  have a2 : pp_Su (pp_s2 (pp_jn D (nI 2) i j v 1) n) n.1 = pp_Su (pp_s2 (D 1) n) n.1 + nI (n.2 j).length := by
    rw [pp_Su_up (f := pp_s2 (D 1) n) (g := pp_s2 (pp_jn D (nI 2) i j v 1) n) (i := j) (fun l hl => ?_) ?_ n.1 hj]
    · unfold pp_s2
      rw [pp_jn1, if_pos rfl, if_pos rfl]
    · unfold pp_s2
      rw [h1, if_neg n3]
    · unfold pp_s2
      rw [pp_jn1, if_neg hl]
  have a3 : pp_Su (pp_s4 (pp_jn D (nI 2) i j v) o n) o.1 = pp_Su (pp_s4 D o n) o.1 + 2 * nI (pp_sh (o.2 i) (n.2 j)) := by
    rw [pp_Su_up (f := pp_s4 D o n) (g := pp_s4 (pp_jn D (nI 2) i j v) o n) (i := i) (fun l hl => ?_) ?_ o.1 hi]
    · unfold pp_s4
      rw [pp_jn0, pp_jn2, if_pos rfl, if_pos rfl, if_pos rfl, nI_clamp (by omega)]
    · unfold pp_s4
      rw [h0, if_neg n3]
    · unfold pp_s4
      rw [pp_jn0, pp_jn2, if_neg hl, if_neg hl]
  unfold pp_e2
  rw [a1, a2, a3]
  grind
/-- nothing is edited yet -/
def pp_N2 (D : pp_D) : Prop := ∀ l, D 0 l ≠ nI 2 ∧ D 1 l ≠ nI 2
theorem pp_N2.e2 {o n : pp_Ed} {D : pp_D} (h : pp_N2 D) : pp_e2 o n D = 0 := by
  unfold pp_e2
  rw [pp_Su_0 (f := pp_s2 (D 0) o) o.1 (fun l _ => if_neg (h l).1), pp_Su_0 (f := pp_s2 (D 1) n) n.1 (fun l _ => if_neg (h l).2), pp_Su_0 (f := pp_s4 D o n) o.1 (fun l _ => if_neg (h l).1)]
  rfl
theorem pp_N2_0 {K : List (Nat × Nat)} : pp_N2 (pp_D0 K) := by
  intro l
  constructor
  · show (match K.find? (fun p => p.1 == l) with | some _ => (0 : Int32) | none => 3) ≠ nI 2
    cases K.find? (fun p => p.1 == l) with
    | none => exact (by decide : (3 : Int32) ≠ nI 2)
    | some p => exact (by decide : (0 : Int32) ≠ nI 2)
  · show (match K.find? (fun p => p.2 == l) with | some _ => (0 : Int32) | none => 3) ≠ nI 2
    cases K.find? (fun p => p.2 == l) with
    | none => exact (by decide : (3 : Int32) ≠ nI 2)
    | some p => exact (by decide : (0 : Int32) ≠ nI 2)
theorem pp_N2.mv {D : pp_D} {i j : Nat} {v : Int32} (h : pp_N2 D) : ∀ m, pp_N2 (pp_mv D i j v m)
  | 0 => h
  | m + 1 => fun l => by
    have h1 := pp_N2.mv (i := i) (j := j) (v := v) h m l
    rw [pp_mv, pp_jn0, pp_jn1]
    constructor
    · by_cases e : l = i + m
      · rw [if_pos e]; decide
      · rw [if_neg e]; exact h1.1
    · by_cases e : l = j + m
      · rw [if_pos e]; decide
      · rw [if_neg e]; exact h1.2
theorem pp_N2.br {o n : pp_Ed} : ∀ (m : Nat) (s : pp_Bs), pp_N2 s.1 → pp_N2 (pp_br o n m s).1
  | 0, s, h => h
  | m + 1, s, h => by
    rw [pp_br]
    split
    · exact h
    · exact pp_N2.br m _ (pp_N2.mv h _)
/-! the class measures -/
theorem pp_likenessTo {τ : yy_T} {d j : Nat} {n : pp_Ed} {l1 : pp_L} (w1 : pp_wfL l1) (hn : pp_RC τ d n) (wn : pp_wfE n) (hd : d + 2 < 50) (hlen : yy_len (d + 2) = 112) (h3 : τ 61 3 = nI l1.length) (hw : pp_WR τ 62 l1) (hj : j < n.1) : tt (mm_X1_likenessTo d (nI j) (nI l1.length)) τ (fun r τ1 => r = nI (pp_lk l1 (n.2 j)) ∧ τ1 61 3 = nI l1.length ∧ pp_WR τ1 62 l1 ∧ ∀ x, x ≠ 61 → x ≠ 63 → x ≠ 64 → τ1 x = τ x) := by
  have w2 := wn.2 j hj
  have n14 := wn.1
  have a8 := w1.2.1
  have b8 := w2.2.1
  have sl := pp_sh_le l1 (n.2 j)
  have mx : (if nI l1.length < nI (n.2 j).length then nI (n.2 j).length else nI l1.length) = nI (max l1.length (n.2 j).length) := by
    have lt : nI l1.length < nI (n.2 j).length ↔ l1.length < (n.2 j).length := nI_ltI (by omega) (by omega)
    by_cases z : l1.length < (n.2 j).length
    · rw [if_pos (lt.mpr z), Nat.max_eq_right (by omega)]
    · rw [if_neg (fun y => z (lt.mp y)), Nat.max_eq_left (by omega)]
  have mn : (if nI (n.2 j).length < nI l1.length then nI (n.2 j).length else nI l1.length) = nI (min l1.length (n.2 j).length) := by
    have lt : nI (n.2 j).length < nI l1.length ↔ (n.2 j).length < l1.length := nI_ltI (by omega) (by omega)
    by_cases z : (n.2 j).length < l1.length
    · rw [if_pos (lt.mpr z), Nat.min_eq_right (by omega)]
    · rw [if_neg (fun y => z (lt.mp y)), Nat.min_eq_left (by omega)]
  simp only [mm_X1_likenessTo]
  rw [tt_cle (pp_sizeOf hn wn j hj), mx, mn, tt_br, show (2 : Int32) = nI 2 by rfl, nI_mul, nI_leI (by omega) (by omega), tt_rt]
  refine ⟨fun z => ?_, fun z => ⟨?_, h3, hw, fun x _ _ _ => rfl⟩⟩
  · rw [show (8 : Int32) = nI 8 by rfl, nI_mul, tt_cl]
    refine tt_mono (pp_setSecond (k0 := 61) (A := 112) hlen rfl (by omega) (by omega) (by omega) (by omega)) (fun _ τ1 k => ?_)
    obtain ⟨k1, k2, k3, k4⟩ := k
    have r1 : pp_WR τ1 62 l1 := fun k hk => by rw [k4 62 (by omega) (by omega)]; exact hw k hk
    have r2 : pp_WR τ1 63 (n.2 j) := pp_CL_WR (hn.2 j hj) (fun k hk => k3 k hk)
    have g3 : τ1 61 3 = nI l1.length := by rw [k2 3 (by decide)]; exact h3
    rw [tt_cl]
    refine tt_mono (pp_measure (k0 := 61) (n := l1.length) (m := (n.2 j).length) (E := pp_EW l1 (n.2 j)) g3 k1 (by omega) (by omega) (pp_WR_E w1 w2 r1 r2)) (fun r τ2 y => ?_)
    obtain ⟨y1, y2, y3⟩ := y
    have y1 : r = nI (pp_sh l1 (n.2 j)) := y1
    have F : τ2 61 3 = nI l1.length ∧ pp_WR τ2 62 l1 ∧ ∀ x, x ≠ 61 → x ≠ 63 → x ≠ 64 → τ2 x = τ x := ⟨by rw [y3 61 (by decide)]; exact g3, fun k hk => by rw [y3 62 (by decide)]; exact r1 k hk, fun x x1 x2 x3 => by rw [y3 x (by omega), k4 x (by omega) (by omega)]⟩
    rw [y1, nI_mul, tt_br, nI_ltI (by omega) (by omega), tt_rt, tt_rt]
    refine ⟨fun q => ⟨?_, F⟩, fun q => ⟨?_, F⟩⟩
    · unfold pp_lk
      rw [if_neg (by omega)]
      rfl
    · unfold pp_lk
      rw [if_pos (by omega)]
  · unfold pp_lk
    rw [if_neg (by omega)]
    rfl
def pp_LK (τ : yy_T) (o n : pp_Ed) (D : pp_D) : Prop := ∀ i j, i < o.1 → j < n.1 → D 0 i = 3 → D 1 j = 3 → τ (66 + i) j = nI (pp_lk (o.2 i) (n.2 j))
theorem pp_measureLikeness {τ : yy_T} {c d k0 : Nat} {o n : pp_Ed} {D : pp_D} (hk : 80 ≤ k0) (ho : pp_RC τ c o) (wo : pp_wfE o) (hn : pp_RC τ d n) (wn : pp_wfE n) (hc : c + 2 < 50) (hlc : yy_len (c + 2) = 112) (hd : d + 2 < 50) (hld : yy_len (d + 2) = 112) (hD : pp_DC τ k0 D) : tt (mm_X1_measureLikeness c d k0) τ (fun _ τ1 => pp_LK τ1 o n D ∧ ∀ x, (x < 61 ∨ 80 ≤ x) → τ1 x = τ x) := by
  have o14 := wo.1
  have n14 := wn.1
  simp only [mm_X1_measureLikeness, mm_X1_measureLikeness_3, tt_cl]
  refine tt_up o.1 (fun i τ1 => (∀ i1 j, i1 < i → i1 < o.1 → j < n.1 → D 0 i1 = 3 → D 1 j = 3 → τ1 (66 + i1) j = nI (pp_lk (o.2 i1) (n.2 j))) ∧ ∀ x, (x < 61 ∨ 80 ≤ x) → τ1 x = τ x) (fun i τ1 hi hI => ?_) 0 τ (Nat.zero_le _) ⟨fun i1 j h => absurd h (Nat.not_lt_zero i1), fun x _ => rfl⟩
  obtain ⟨i1, i2⟩ := hI
  have ho1 : pp_RC τ1 c o := ho.of (i2 _ (by omega)) (i2 _ (by omega)) (i2 _ (by omega))
  have hn1 : pp_RC τ1 d n := hn.of (i2 _ (by omega)) (i2 _ (by omega)) (i2 _ (by omega))
  have hD1 : pp_DC τ1 k0 D := hD.of (fun a a1 a2 => i2 a (by omega))
  simp only [mm_X1_measureLikeness_3b, tt_rF, tt_br, tt_rt, ho1.1]
  rw [nI_leI (by omega) (by omega)]
  refine ⟨fun q => Or.inr ⟨(), by trivial, ?_⟩, fun q => ?_⟩
  · simp only [mm_X1_measureLikeness_105, tt_rt]
    exact ⟨fun i1' j h1 h2 h3 h4 => i1 i1' j (by omega) h1 h2 h3 h4, i2⟩
  · have l0 : mm_X8_isLoose k0 0 (nI i) τ1 = some (pp_b (i < 14 ∧ D 0 i = 3), τ1) := pp_isLoose (w := 0) hD1 (by decide) (by omega)
    rw [tt_cle l0, tt_br, pp_b_0]
    refine ⟨fun z => ?_, fun z => ?_⟩
    · simp only [mm_X1_measureLikeness_99, tt_rt]
      refine Or.inl ⟨by omega, by rw [nI_1], fun i3 j h1 h2 h3 h4 h5 => ?_, i2⟩
      by_cases e : i3 = i
      · rw [e] at h4
        exact absurd ⟨by omega, h4⟩ z
      · exact i1 i3 j (by omega) h2 h3 h4 h5
    · have w1 := wo.2 i (by omega)
      have a8 := w1.2.1
      rw [tt_cle (pp_sizeOf ho1 wo i (by omega)), show (8 : Int32) = nI 8 by rfl, nI_mul, tt_cl]
      refine tt_mono (pp_setFirst (k0 := 61) (A := 112) hlc rfl (by omega) (by omega) (by omega) (by omega)) (fun _ τ2 k => ?_)
      obtain ⟨k1, k2, k3, k4⟩ := k
      simp only [mm_X1_measureLikeness_47, tt_cl]
      refine tt_up n.1 (fun j τ3 => (∀ j1, j1 < j → j1 < n.1 → D 1 j1 = 3 → τ3 (66 + i) j1 = nI (pp_lk (o.2 i) (n.2 j1))) ∧ (∀ i1 j, i1 < i → i1 < o.1 → j < n.1 → D 0 i1 = 3 → D 1 j = 3 → τ3 (66 + i1) j = nI (pp_lk (o.2 i1) (n.2 j))) ∧ τ3 61 3 = nI (o.2 i).length ∧ pp_WR τ3 62 (o.2 i) ∧ ∀ x, (x < 61 ∨ 80 ≤ x) → τ3 x = τ x) (fun j τ3 hj hI => ?_) 0 τ2 (Nat.zero_le _) ⟨fun j1 h => absurd h (Nat.not_lt_zero j1), fun i3 j h1 h2 h3 h4 h5 => by rw [k4 (66 + i3) (by omega) (by omega)]; exact i1 i3 j h1 h2 h3 h4 h5, k1, pp_CL_WR (ho1.2 i (by omega)) (fun k hk => k3 k hk), fun x hx => by rw [k4 x (by omega) (by omega)]; exact i2 x hx⟩
      obtain ⟨j1, j2, j3, j4, j5⟩ := hI
      have ho3 : pp_RC τ3 c o := ho.of (j5 _ (by omega)) (j5 _ (by omega)) (j5 _ (by omega))
      have hn3 : pp_RC τ3 d n := hn.of (j5 _ (by omega)) (j5 _ (by omega)) (j5 _ (by omega))
      have hD3 : pp_DC τ3 k0 D := hD.of (fun a a1 a2 => j5 a (by omega))
      have ini : yy_in (nI i) 14 = true := pp_in (by omega) (by decide)
      have ii : (nI i).toNatClampNeg = i := nI_clamp (by omega)
      simp only [mm_X1_measureLikeness_47b, tt_rF, tt_br, tt_rt, tt_ck, hn3.1, ini, ii, true_and]
      rw [nI_leI (by omega) (by omega)]
      refine ⟨fun q2 => Or.inr ⟨(), ?_⟩, fun q2 => ?_⟩
      · simp only [mm_X1_measureLikeness_99, tt_rt]
        refine Or.inl ⟨by omega, by rw [nI_1], fun i3 j h1 h2 h3 h4 h5 => ?_, j5⟩
        by_cases e : i3 = i
        · rw [e]
          exact j1 j (by omega) h3 h5
        · exact j2 i3 j (by omega) h2 h3 h4 h5
      · have l1 : mm_X8_isLoose k0 1 (nI j) τ3 = some (pp_b (j < 14 ∧ D 1 j = 3), τ3) := pp_isLoose (w := 1) hD3 (by decide) (by omega)
        have inj : yy_in (nI j) 14 = true := pp_in (by omega) (by decide)
        have jj : (nI j).toNatClampNeg = j := nI_clamp (by omega)
        have fin : ∀ (τ4 : yy_T) (v : Int32), (∀ x, x ≠ 61 → x ≠ 63 → x ≠ 64 → τ4 x = τ3 x) → τ4 61 3 = nI (o.2 i).length → pp_WR τ4 62 (o.2 i) → (D 1 j = 3 → v = nI (pp_lk (o.2 i) (n.2 j))) → tt (mm_X1_measureLikeness_92 c d k0 (nI i) (nI j) v (nI j) (66 + i)) τ4 (fun y τ3 => (j < n.1 ∧ y = .inl (nI (j + 1)) ∧ (∀ j1, j1 < j + 1 → j1 < n.1 → D 1 j1 = 3 → τ3 (66 + i) j1 = nI (pp_lk (o.2 i) (n.2 j1))) ∧ (∀ i1 j, i1 < i → i1 < o.1 → j < n.1 → D 0 i1 = 3 → D 1 j = 3 → τ3 (66 + i1) j = nI (pp_lk (o.2 i1) (n.2 j))) ∧ τ3 61 3 = nI (o.2 i).length ∧ pp_WR τ3 62 (o.2 i) ∧ ∀ x, (x < 61 ∨ 80 ≤ x) → τ3 x = τ x) ∨ ∃ r, y = .inr r ∧ tt (mm_X1_measureLikeness_99 c d k0 (nI i)) τ3 (fun y τ1 => (i < o.1 ∧ y = .inl (nI (i + 1)) ∧ (∀ i1 j, i1 < i + 1 → i1 < o.1 → j < n.1 → D 0 i1 = 3 → D 1 j = 3 → τ1 (66 + i1) j = nI (pp_lk (o.2 i1) (n.2 j))) ∧ ∀ x, (x < 61 ∨ 80 ≤ x) → τ1 x = τ x) ∨ ∃ r, y = .inr r ∧ tt mm_X1_measureLikeness_105 τ1 (fun _ τ1 => pp_LK τ1 o n D ∧ ∀ x, (x < 61 ∨ 80 ≤ x) → τ1 x = τ x))) := by
          intro τ4 v g1 g2 g3 g4
          simp only [mm_X1_measureLikeness_92, tt_wA, tt_rt, inj, jj, true_and]
          refine Or.inl ⟨by omega, by rw [nI_1], fun j9 h1 h2 h3 => ?_, fun i3 j9 h1 h2 h3 h4 h5 => ?_, ?_, fun k hk => ?_, fun x hx => ?_⟩
          · simp only [yy_upx, if_true]
            by_cases e : j9 = j
            · rw [if_pos e, e]
              exact g4 (by rw [← e]; exact h3)
            · rw [if_neg e, g1 (66 + i) (by omega) (by omega) (by omega)]
              exact j1 j9 (by omega) h2 h3
          · simp only [yy_upx]
            rw [if_neg (by omega), g1 (66 + i3) (by omega) (by omega) (by omega)]
            exact j2 i3 j9 h1 h2 h3 h4 h5
          · simp only [yy_upx]
            rw [if_neg (by omega)]
            exact g2
          · simp only [yy_upx]
            rw [if_neg (by omega)]
            exact g3 k hk
          · rw [← j5 x hx, ← g1 x (by omega) (by omega) (by omega)]
            funext l
            simp only [yy_upx]
            rw [if_neg (by omega)]
        rw [tt_cle l1, tt_br, pp_b_0]
        refine ⟨fun z2 => fin τ3 0 (fun x _ _ _ => rfl) j3 j4 (fun y => absurd ⟨by omega, y⟩ z2), fun z2 => ?_⟩
        rw [tt_cle (pp_sizeOf ho3 wo i (by omega)), tt_cl]
        refine tt_mono (pp_likenessTo w1 hn3 wn hd hld j3 j4 (by omega)) (fun r τ4 y => ?_)
        obtain ⟨y1, y2, y3, y4⟩ := y
        exact fin τ4 r y4 y2 y3 (fun _ => y1)
