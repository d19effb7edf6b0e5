/-! EDITED LINES: both sides -/
theorem pp_LK.jn {τ : yy_T} {o n : pp_Ed} {D : pp_D} {as i j : Nat} {v : Int32} (ha : as < 3) (h : pp_LK τ o n D) : pp_LK τ o n (pp_jn D (nI as) i j v) := by
  intro i1 j1 h1 h2 h3 h4
  have n3 : nI as ≠ 3 := fun z => pp_3as ha z.symm
  rw [pp_jn0] at h3
  rw [pp_jn1] at h4
  by_cases e : i1 = i
  · rw [if_pos e] at h3
    exact absurd h3 n3
  · rw [if_neg e] at h3
    by_cases e2 : j1 = j
    · rw [if_pos e2] at h4
      exact absurd h4 n3
    · rw [if_neg e2] at h4
      exact h i1 j1 h1 h2 h3 h4
theorem pp_LK.of {τ τ1 : yy_T} {o n : pp_Ed} {D : pp_D} (o14 : o.1 ≤ 14) (h : pp_LK τ o n D) (e : ∀ a, 66 ≤ a → a < 80 → τ1 a = τ a) : pp_LK τ1 o n D := fun i j h1 h2 h3 h4 => by
  rw [e (66 + i) (by omega) (by omega)]
  exact h i j h1 h2 h3 h4
/-- the class edits the likest -/
theorem pp_editLikest {τ : yy_T} {c d k0 : Nat} {o n : pp_Ed} {D : pp_D} (hk : 80 ≤ k0) (ho : pp_RC τ c o) (wo : pp_wfE o) (hn : pp_RC τ d n) (wn : pp_wfE n) (hc : c + 2 < 50) (hd : d + 2 < 50) (hD : pp_DC τ k0 D) (hP : pp_CP τ k0 D) (hL : pp_LK τ o n D) : tt (mm_X1_editLikest c d k0) τ (fun r τ1 => (((pp_es o n D).1 = 0 ∧ r = 0 ∧ τ1 = τ) ∨ ((pp_es o n D).1 ≠ 0 ∧ r = 1 ∧ pp_DC τ1 k0 (pp_e1 o n D) ∧ pp_CP τ1 k0 (pp_e1 o n D) ∧ τ1 k0 10 = τ k0 10 + (nI (o.2 ((pp_es o n D).2 / 14)).length + nI (n.2 ((pp_es o n D).2 % 14)).length - 2 * nI (pp_es o n D).1) ∧ (∀ q, q ≠ 10 → τ1 k0 q = τ k0 q) ∧ ∀ x, (x < k0 ∨ k0 + 11 ≤ x) → τ1 x = τ x))) := by
  have o14 := wo.1
  have n14 := wn.1
  have zr : ∀ k, ¬ (k / 14 < o.1 ∧ k % 14 < n.1) → pp_ef o n D k = 0 := fun k hk => by
    unfold pp_ef
    exact if_neg (fun z => hk ⟨z.1, z.2.1⟩)
  have sb : ∀ k, (pp_sc (pp_ef o n D) k).1 ≤ 8 := fun k => pp_sc_b (pp_ef_b wo) k
  simp only [mm_X1_editLikest, mm_X1_editLikest_12, tt_cl]
  have s00 : pp_sc (pp_ef o n D) (14 * 0) = (0, 0) := rfl
  have z0 : nI (pp_sc (pp_ef o n D) (14 * 0)).1 = 0 := by rw [s00]; rfl
  have z1 : nI ((pp_sc (pp_ef o n D) (14 * 0)).2 / 14) = 0 := by rw [s00]; rfl
  have z2 : nI ((pp_sc (pp_ef o n D) (14 * 0)).2 % 14) = 0 := by rw [s00]; rfl
  suffices h : tt (yy_lp (fun (w : Int32 × Int32 × Int32 × Int32) => mm_X1_editLikest_12b c d k0 w.1 w.2.1 w.2.2.1 w.2.2.2) (nI (pp_sc (pp_ef o n D) (14 * 0)).1, nI ((pp_sc (pp_ef o n D) (14 * 0)).2 / 14), nI ((pp_sc (pp_ef o n D) (14 * 0)).2 % 14), nI 0)) τ (fun r τ1 => tt (mm_X1_editLikest_100 c d k0 r.1 r.2.1 r.2.2) τ1 (fun r τ1 => (((pp_es o n D).1 = 0 ∧ r = 0 ∧ τ1 = τ) ∨ ((pp_es o n D).1 ≠ 0 ∧ r = 1 ∧ pp_DC τ1 k0 (pp_e1 o n D) ∧ pp_CP τ1 k0 (pp_e1 o n D) ∧ τ1 k0 10 = τ k0 10 + (nI (o.2 ((pp_es o n D).2 / 14)).length + nI (n.2 ((pp_es o n D).2 % 14)).length - 2 * nI (pp_es o n D).1) ∧ (∀ q, q ≠ 10 → τ1 k0 q = τ k0 q) ∧ ∀ x, (x < k0 ∨ k0 + 11 ≤ x) → τ1 x = τ x)))) by
    rw [z0, z1, z2] at h
    exact h
  clear z0 z1 z2 s00
  refine tt_upx o.1 (fun i (_ : Unit) => (nI (pp_sc (pp_ef o n D) (14 * i)).1, nI ((pp_sc (pp_ef o n D) (14 * i)).2 / 14), nI ((pp_sc (pp_ef o n D) (14 * i)).2 % 14), nI i)) (fun i _ τ1 => τ1 = τ) (fun i _ τ1 hi hI => ?_) 0 () τ (Nat.zero_le _) rfl
  subst hI
  simp only [mm_X1_editLikest_12b, tt_rF, tt_br, tt_rt, ho.1]
  rw [nI_leI (by omega) (by omega)]
  refine ⟨fun q => Or.inr ⟨_, rfl, ?_⟩, fun q => ?_⟩
  · have ei : i = o.1 := by omega
    have e196 : pp_sc (pp_ef o n D) (14 * i) = pp_es o n D := by
      unfold pp_es
      rw [show 196 = 14 * i + (196 - 14 * i) by omega]
      exact (pp_sc_z _ (fun k k1 k2 => zr k (fun z => by omega))).symm
    have sb9 := sb (14 * i)
    rw [e196] at sb9 ⊢
    have c0 : nI (pp_es o n D).1 ≤ 0 ↔ (pp_es o n D).1 ≤ 0 := by rw [show (0 : Int32) = nI 0 by rfl, nI_leI (by omega) (by omega)]
    simp only [mm_X1_editLikest_100, mm_X1_editLikest_142, tt_br, tt_rt]
    refine ⟨fun z => ⟨fun _ => Or.inl ⟨by have := c0.mp z; omega, by trivial, by trivial⟩, fun z2 => absurd z z2⟩, fun z => ?_⟩
    have hne : (pp_es o n D).1 ≠ 0 := fun e => z (c0.mpr (by omega))
    obtain ⟨h1, h2, h3, h4, h5, h6⟩ := pp_es_in hne
    rw [tt_cl]
    refine tt_mono (pp_join (as := 2) (v := -1) hD hP (by decide) (show (pp_es o n D).2 / 14 < 14 by omega) (show (pp_es o n D).2 % 14 < 14 by omega) h4 h5) (fun _ τ2 y => ?_)
    obtain ⟨y1, y2, y3⟩ := y
    have ho2 : pp_RC τ2 c o := ho.of (y3 _ (by omega)) (y3 _ (by omega)) (y3 _ (by omega))
    have hn2 : pp_RC τ2 d n := hn.of (y3 _ (by omega)) (y3 _ (by omega)) (y3 _ (by omega))
    rw [tt_rF, tt_cle (pp_sizeOf ho2 wo _ h2), tt_cle (pp_sizeOf hn2 wn _ h3), tt_wF, tt_br, tt_rt, tt_rt, y3 k0 (by omega)]
    have f2 : ∀ (v : Int32) a, a ≠ k0 → yy_up τ2 k0 10 v a = τ2 a := fun v a ha => by
      funext l
      simp [yy_upx, ha]
    refine ⟨fun z2 => absurd z2 z, fun _ => Or.inr ⟨hne, by trivial, y1.of (fun a a1 a2 => f2 _ a (by omega)), y2.of (f2 _ _ (by omega)), by simp [yy_upx], fun q hq => ?_, fun x hx => by rw [f2 _ x (by omega), y3 x (by omega)]⟩⟩
    simp only [yy_upx, if_true, if_neg hq]
    rw [y3 k0 (by omega)]
  · simp only [mm_X1_editLikest_24, tt_cl]
    suffices h : tt (yy_lp (fun (w : Int32 × Int32 × Int32 × Int32) => mm_X1_editLikest_24b c d k0 w.1 w.2.1 w.2.2.1 (nI i) w.2.2.2) (nI (pp_sc (pp_ef o n D) (14 * i + 0)).1, nI ((pp_sc (pp_ef o n D) (14 * i + 0)).2 / 14), nI ((pp_sc (pp_ef o n D) (14 * i + 0)).2 % 14), nI 0)) τ1 (fun w τ2 => tt (mm_X1_editLikest_94 c d k0 w.1 w.2.1 w.2.2 (nI i)) τ2 (fun y τ3 => (i < o.1 ∧ ∃ x1 : Unit, y = .inl (nI (pp_sc (pp_ef o n D) (14 * (i + 1))).1, nI ((pp_sc (pp_ef o n D) (14 * (i + 1))).2 / 14), nI ((pp_sc (pp_ef o n D) (14 * (i + 1))).2 % 14), nI (i + 1)) ∧ τ3 = τ1) ∨ ∃ r : Int32 × Int32 × Int32, y = .inr r ∧ tt (mm_X1_editLikest_100 c d k0 r.1 r.2.1 r.2.2) τ3 (fun r τ2 => (((pp_es o n D).1 = 0 ∧ r = 0 ∧ τ2 = τ1) ∨ ((pp_es o n D).1 ≠ 0 ∧ r = 1 ∧ pp_DC τ2 k0 (pp_e1 o n D) ∧ pp_CP τ2 k0 (pp_e1 o n D) ∧ τ2 k0 10 = τ1 k0 10 + (nI (o.2 ((pp_es o n D).2 / 14)).length + nI (n.2 ((pp_es o n D).2 % 14)).length - 2 * nI (pp_es o n D).1) ∧ (∀ q, q ≠ 10 → τ2 k0 q = τ1 k0 q) ∧ ∀ x, (x < k0 ∨ k0 + 11 ≤ x) → τ2 x = τ1 x))))) by exact h
    refine tt_upx n.1 (fun j (_ : Unit) => (nI (pp_sc (pp_ef o n D) (14 * i + j)).1, nI ((pp_sc (pp_ef o n D) (14 * i + j)).2 / 14), nI ((pp_sc (pp_ef o n D) (14 * i + j)).2 % 14), nI j)) (fun j _ τ2 => τ2 = τ1) (fun j _ τ2 hj hI => ?_) 0 () τ1 (Nat.zero_le _) rfl
    subst hI
    simp only [mm_X1_editLikest_24b, tt_rF, tt_br, tt_rt, hn.1]
    rw [nI_leI (by omega) (by omega)]
    have sbj := sb (14 * i + j)
    refine ⟨fun q => Or.inr ⟨_, rfl, ?_⟩, fun q => ?_⟩
    · have ej : j = n.1 := by omega
      have e14 : pp_sc (pp_ef o n D) (14 * (i + 1)) = pp_sc (pp_ef o n D) (14 * i + j) := by
        rw [show 14 * (i + 1) = 14 * i + j + (14 - j) by omega]
        exact pp_sc_z _ (fun k k1 k2 => zr k (fun z => by omega))
      simp only [mm_X1_editLikest_94, tt_rt]
      exact Or.inl ⟨by omega, (), by rw [e14, nI_1], by trivial⟩
    · have e1 : (14 * i + j) / 14 = i := by omega
      have e2 : (14 * i + j) % 14 = j := by omega
      have ef : pp_ef o n D (14 * i + j) = if i < o.1 ∧ j < n.1 ∧ D 0 i = 3 ∧ D 1 j = 3 then pp_lk (o.2 i) (n.2 j) else 0 := by
        unfold pp_ef
        rw [e1, e2]
      have skip : ¬ (pp_sc (pp_ef o n D) (14 * i + j)).1 < pp_ef o n D (14 * i + j) → tt (mm_X1_editLikest_88 c d k0 (nI (pp_sc (pp_ef o n D) (14 * i + j)).1) (nI ((pp_sc (pp_ef o n D) (14 * i + j)).2 / 14)) (nI ((pp_sc (pp_ef o n D) (14 * i + j)).2 % 14)) (nI i) (nI j)) τ2 (fun y τ3 => (j < n.1 ∧ ∃ x1 : Unit, y = .inl (nI (pp_sc (pp_ef o n D) (14 * i + (j + 1))).1, nI ((pp_sc (pp_ef o n D) (14 * i + (j + 1))).2 / 14), nI ((pp_sc (pp_ef o n D) (14 * i + (j + 1))).2 % 14), nI (j + 1)) ∧ τ3 = τ2) ∨ ∃ r : Int32 × Int32 × Int32, y = .inr r ∧ tt (mm_X1_editLikest_94 c d k0 r.1 r.2.1 r.2.2 (nI i)) τ3 (fun y τ3 => (i < o.1 ∧ ∃ x1 : Unit, y = .inl (nI (pp_sc (pp_ef o n D) (14 * (i + 1))).1, nI ((pp_sc (pp_ef o n D) (14 * (i + 1))).2 / 14), nI ((pp_sc (pp_ef o n D) (14 * (i + 1))).2 % 14), nI (i + 1)) ∧ τ3 = τ2) ∨ ∃ r : Int32 × Int32 × Int32, y = .inr r ∧ tt (mm_X1_editLikest_100 c d k0 r.1 r.2.1 r.2.2) τ3 (fun r τ1 => (((pp_es o n D).1 = 0 ∧ r = 0 ∧ τ1 = τ2) ∨ ((pp_es o n D).1 ≠ 0 ∧ r = 1 ∧ pp_DC τ1 k0 (pp_e1 o n D) ∧ pp_CP τ1 k0 (pp_e1 o n D) ∧ τ1 k0 10 = τ2 k0 10 + (nI (o.2 ((pp_es o n D).2 / 14)).length + nI (n.2 ((pp_es o n D).2 % 14)).length - 2 * nI (pp_es o n D).1) ∧ (∀ q, q ≠ 10 → τ1 k0 q = τ2 k0 q) ∧ ∀ x, (x < k0 ∨ k0 + 11 ≤ x) → τ1 x = τ2 x))))) := by
        intro hs
        simp only [mm_X1_editLikest_88, tt_rt]
        exact Or.inl ⟨by omega, (), by rw [← Nat.add_assoc, pp_sc_n hs, nI_1], by trivial⟩
      have l0 : mm_X8_isLoose k0 0 (nI i) τ2 = some (pp_b (i < 14 ∧ D 0 i = 3), τ2) := pp_isLoose (w := 0) hD (by decide) (by omega)
      have l1 : mm_X8_isLoose k0 1 (nI j) τ2 = some (pp_b (j < 14 ∧ D 1 j = 3), τ2) := pp_isLoose (w := 1) hD (by decide) (by omega)
      rw [tt_cle l0, tt_br, pp_b_0]
      refine ⟨fun z => skip (by rw [ef, if_neg (fun y => z ⟨by omega, y.2.2.1⟩)]; omega), fun z => ?_⟩
      have z := Classical.not_not.mp z
      rw [tt_cle l1, tt_br, pp_b_0]
      refine ⟨fun y => skip (by rw [ef, if_neg (fun w => y ⟨by omega, w.2.2.2⟩)]; omega), fun y => ?_⟩
      have y := Classical.not_not.mp y
      have hin : i < o.1 ∧ j < n.1 ∧ D 0 i = 3 ∧ D 1 j = 3 := ⟨by omega, by omega, z.2, y.2⟩
      rw [if_pos hin] at ef
      have ini : yy_in (nI i) 14 = true := pp_in (by omega) (by decide)
      have ii : (nI i).toNatClampNeg = i := nI_clamp (by omega)
      have inj : yy_in (nI j) 14 = true := pp_in (by omega) (by decide)
      have jj : (nI j).toNatClampNeg = j := nI_clamp (by omega)
      have v := hL i j hin.1 hin.2.1 hin.2.2.1 hin.2.2.2
      rw [← ef] at v
      have fb := pp_ef_b (n := n) (D := D) wo (14 * i + j)
      simp only [tt_ck, tt_rA, tt_br, ini, inj, ii, jj, true_and, v]
      rw [nI_leI (by omega) (by omega)]
      refine ⟨fun w => skip (by omega), fun w => ?_⟩
      simp only [mm_X1_editLikest_88, tt_rt]
      refine Or.inl ⟨by omega, (), ?_, by trivial⟩
      rw [← Nat.add_assoc, pp_sc_s (by omega), nI_1]
      show _ = Sum.inl (nI (pp_ef o n D (14 * i + j)), nI ((14 * i + j) / 14), nI ((14 * i + j) % 14), nI (j + 1))
      rw [e1, e2]
theorem pp_looseWords {τ : yy_T} {c k0 w : Nat} {e : pp_Ed} {D : pp_D} (he : pp_RC τ c e) (we : pp_wfE e) (hD : pp_DC τ k0 D) (hw : w < 2) : mm_X1_looseWords (nI w) c k0 τ = some (pp_Su (pp_s3 (D w) e) e.1, τ) := by
  have e14 := we.1
  apply tt_of
  simp only [mm_X1_looseWords, mm_X1_looseWords_5, tt_cl]
  refine tt_upx e.1 (fun k (_ : Unit) => (pp_Su (pp_s3 (D w) e) k, nI k)) (fun k _ τ1 => τ1 = τ) (fun k _ τ1 hk hI => ?_) 0 () τ (Nat.zero_le _) rfl
  subst hI
  simp only [mm_X1_looseWords_5b, tt_rF, tt_br, tt_rt, he.1]
  rw [nI_leI (by omega) (by omega)]
  refine ⟨fun q => Or.inr ⟨_, rfl, ?_⟩, fun q => ?_⟩
  · simp only [mm_X1_looseWords_43, tt_rt]
    rw [show k = e.1 by omega]
    exact ⟨by trivial, by trivial⟩
  · rw [tt_cle (pp_isLoose (w := w) hD hw (by omega)), tt_br, pp_b_0]
    refine ⟨fun z => ?_, fun z => ?_⟩
    · simp only [mm_X1_looseWords_35, tt_rt]
      refine Or.inl ⟨by omega, (), ?_, by trivial⟩
      rw [nI_1, pp_Su]
      unfold pp_s3
      rw [if_neg (fun y => z ⟨by omega, y⟩)]
    · rw [tt_cle (pp_sizeOf he we k (by omega))]
      simp only [mm_X1_looseWords_35, tt_rt]
      refine Or.inl ⟨by omega, (), ?_, by trivial⟩
      rw [nI_1, pp_Su]
      unfold pp_s3
      rw [if_pos (Classical.not_not.mp z).2]
/-- the words that changed -/
def pp_ch (o n : pp_Ed) (D : pp_D) : Int32 := pp_e2 o n D + (pp_Su (pp_s3 (D 0) o) o.1 + pp_Su (pp_s3 (D 1) n) n.1)
theorem pp_editAll {τ : yy_T} {c d k0 : Nat} {o n : pp_Ed} {D : pp_D} (hk : 80 ≤ k0) (ho : pp_RC τ c o) (wo : pp_wfE o) (hn : pp_RC τ d n) (wn : pp_wfE n) (hc : c + 2 < 50) (hd : d + 2 < 50) (hD : pp_DC τ k0 D) (hP : pp_CP τ k0 D) (hL : pp_LK τ o n D) (h10 : τ k0 10 = pp_e2 o n D) : tt (mm_X1_compare_69 c d k0 1 0) τ (fun _ τ1 => pp_DC τ1 k0 (pp_er o n 14 D) ∧ pp_CP τ1 k0 (pp_er o n 14 D) ∧ τ1 k0 10 = pp_ch o n (pp_er o n 14 D) ∧ (∀ q, q ≠ 10 → τ1 k0 q = τ k0 q) ∧ ∀ x, (x < k0 ∨ k0 + 11 ≤ x) → τ1 x = τ x) := by
  have o14 := wo.1
  have n14 := wn.1
  simp only [mm_X1_compare_69, tt_cl]
  -- what comes behind
  have stop : ∀ τ1, pp_DC τ1 k0 (pp_er o n 14 D) → pp_CP τ1 k0 (pp_er o n 14 D) → τ1 k0 10 = pp_e2 o n (pp_er o n 14 D) → (∀ q, q ≠ 10 → τ1 k0 q = τ k0 q) → (∀ x, (x < k0 ∨ k0 + 11 ≤ x) → τ1 x = τ x) → tt (mm_X1_compare_96 c d k0) τ1 (fun _ τ1 => pp_DC τ1 k0 (pp_er o n 14 D) ∧ pp_CP τ1 k0 (pp_er o n 14 D) ∧ τ1 k0 10 = pp_ch o n (pp_er o n 14 D) ∧ (∀ q, q ≠ 10 → τ1 k0 q = τ k0 q) ∧ ∀ x, (x < k0 ∨ k0 + 11 ≤ x) → τ1 x = τ x) := by
    intro τ1 g1 g2 g3 g4 g5
    have ho1 : pp_RC τ1 c o := ho.of (g5 _ (by omega)) (g5 _ (by omega)) (g5 _ (by omega))
    have hn1 : pp_RC τ1 d n := hn.of (g5 _ (by omega)) (g5 _ (by omega)) (g5 _ (by omega))
    have w0 : mm_X1_looseWords 0 c k0 τ1 = some (pp_Su (pp_s3 (pp_er o n 14 D 0) o) o.1, τ1) := pp_looseWords (w := 0) ho1 wo g1 (by decide)
    have w1 : mm_X1_looseWords 1 d k0 τ1 = some (pp_Su (pp_s3 (pp_er o n 14 D 1) n) n.1, τ1) := pp_looseWords (w := 1) hn1 wn g1 (by decide)
    have f2 : ∀ (v : Int32) a, a ≠ k0 → yy_up τ1 k0 10 v a = τ1 a := fun v a ha => by
      funext l
      simp [yy_upx, ha]
    simp only [mm_X1_compare_96, tt_rF, tt_cle w0, tt_cle w1, tt_wF, tt_rt, g3]
    refine ⟨g1.of (fun a a1 a2 => f2 _ a (by omega)), g2.of (f2 _ _ (by omega)), by simp [yy_upx]; rfl, fun q hq => ?_, fun x hx => by rw [f2 _ x (by omega)]; exact g5 x hx⟩
    simp only [yy_upx, if_true, if_neg hq]
    exact g4 q hq
  refine tt_upx 14 (fun k (x : Nat) => (nI x, nI k)) (fun k x τ1 => (∃ D1, pp_DC τ1 k0 D1 ∧ pp_CP τ1 k0 D1 ∧ τ1 k0 10 = pp_e2 o n D1 ∧ pp_LK τ1 o n D1 ∧ ((x = 1 ∧ pp_er o n (14 - k) D1 = pp_er o n 14 D) ∨ (x = 0 ∧ D1 = pp_er o n 14 D))) ∧ (∀ q, q ≠ 10 → τ1 k0 q = τ k0 q) ∧ ∀ x, (x < k0 ∨ k0 + 11 ≤ x) → τ1 x = τ x) (fun k x τ1 hk2 hI => ?_) 0 1 τ (Nat.zero_le _) ⟨⟨D, hD, hP, h10, hL, Or.inl ⟨rfl, rfl⟩⟩, fun q _ => rfl, fun x _ => rfl⟩
  obtain ⟨⟨D1, i1, i2, i3, i6, i7⟩, i4, i5⟩ := hI
  have c14 : (14 : Int32) ≤ nI k ↔ 14 ≤ k := by rw [show (14 : Int32) = nI 14 by rfl, nI_leI (by omega) (by omega)]
  have hx : x ≤ 1 := by rcases i7 with z | z <;> omega
  have e0 : nI x = 0 ↔ x = 0 := by rw [show (0 : Int32) = nI 0 by rfl, nI_eq (by omega) (by omega)]
  simp only [mm_X1_compare_69b, tt_br, tt_rt, c14, e0]
  refine ⟨fun q => Or.inr ⟨(), by trivial, ?_⟩, fun q => ⟨fun q2 => Or.inr ⟨(), by trivial, ?_⟩, fun q2 => ?_⟩⟩
  · have e : D1 = pp_er o n 14 D := by
      rcases i7 with ⟨-, z⟩ | ⟨-, z⟩
      · rw [show 14 - k = 0 by omega] at z
        exact z
      · exact z
    rw [e] at i1 i2 i3
    exact stop τ1 i1 i2 i3 i4 i5
  · have e : D1 = pp_er o n 14 D := by
      rcases i7 with ⟨z, -⟩ | ⟨-, z⟩
      · omega
      · exact z
    rw [e] at i1 i2 i3
    exact stop τ1 i1 i2 i3 i4 i5
  · have i7 : pp_er o n (14 - k) D1 = pp_er o n 14 D := by
      rcases i7 with ⟨-, z⟩ | ⟨z, -⟩
      · exact z
      · exact absurd z q2
    have ho1 : pp_RC τ1 c o := ho.of (i5 _ (by omega)) (i5 _ (by omega)) (i5 _ (by omega))
    have hn1 : pp_RC τ1 d n := hn.of (i5 _ (by omega)) (i5 _ (by omega)) (i5 _ (by omega))
    rw [tt_cl]
    refine tt_mono (pp_editLikest hk ho1 wo hn1 wn hc hd i1 i2 i6) (fun r τ2 z => ?_)
    rw [tt_rt]
    rcases z with ⟨y1, rfl, rfl⟩ | ⟨y1, rfl, y2, y3, y4, y5, y6⟩
    · refine Or.inl ⟨by omega, 0, by rw [nI_1]; rfl, ⟨D1, i1, i2, i3, i6, Or.inr ⟨rfl, ?_⟩⟩, i4, i5⟩
      rw [← i7, pp_er_stop y1]
    · obtain ⟨h1, h2, h3, h4, h5, h6⟩ := pp_es_in y1
      refine Or.inl ⟨by omega, 1, by rw [nI_1]; rfl, ⟨pp_e1 o n D1, y2, y3, ?_, (i6.of o14 (fun a a1 a2 => y6 a (by omega))).jn (by decide), Or.inl ⟨rfl, ?_⟩⟩, fun q hq => by rw [y5 q hq]; exact i4 q hq, fun x hx => by rw [y6 x hx]; exact i5 x hx⟩
      · rw [y4, i3, h6]
        exact (pp_e2_jn h2 h3 (by omega) h4 h5).symm
      · rw [← i7, show 14 - k = 14 - (k + 1) + 1 by omega, pp_er, if_neg y1]
