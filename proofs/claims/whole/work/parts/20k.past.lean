/-! WHAT WAS: the class keeps the edition that changes, in a ring; the reference both, in a row -/
def pp_back (x : pp_Ed × pp_Ed) (y : Nat × pp_Ed) : pp_Ed × pp_Ed := if y.1 = 0 then (y.2, x.2) else (x.1, y.2)
def pp_st (o n : pp_Ed) (hs : Nat → Nat × pp_Ed) : Nat → pp_Ed × pp_Ed
  | 0 => (o, n)
  | k + 1 => pp_back (pp_st o n hs k) (hs k)
def pp_push (hs : Nat → Nat × pp_Ed) (w : Nat) (e : pp_Ed) : Nat → Nat × pp_Ed
  | 0 => (w, e)
  | k + 1 => hs k
theorem pp_st_push {o n o1 n1 : pp_Ed} {hs : Nat → Nat × pp_Ed} {w : Nat} {e : pp_Ed} (h : pp_back (o1, n1) (w, e) = (o, n)) : ∀ k, pp_st o1 n1 (pp_push hs w e) (k + 1) = pp_st o n hs k
  | 0 => h
  | k + 1 => by
    show pp_back (pp_st o1 n1 (pp_push hs w e) (k + 1)) (hs k) = pp_back (pp_st o n hs k) (hs k)
    rw [pp_st_push h k]
theorem pp_st_pop {o n o1 n1 : pp_Ed} {hs : Nat → Nat × pp_Ed} (h : pp_st o n hs 1 = (o1, n1)) : ∀ k, pp_st o1 n1 (fun j => hs (j + 1)) k = pp_st o n hs (k + 1)
  | 0 => h.symm
  | k + 1 => by
    show pp_back (pp_st o1 n1 (fun j => hs (j + 1)) k) (hs (k + 1)) = pp_back (pp_st o n hs (k + 1)) (hs (k + 1))
    rw [pp_st_pop h k]
def pp_wH (h : Nat) (hs : Nat → Nat × pp_Ed) : Prop := h ≤ 10 ∧ ∀ k, k < h → (hs k).1 < 2 ∧ pp_wfE (hs k).2
theorem pp_st_w {o n : pp_Ed} {h : Nat} {hs : Nat → Nat × pp_Ed} (ho : pp_wfE o) (hn : pp_wfE n) (hh : pp_wH h hs) : ∀ k, k ≤ h → pp_wfE (pp_st o n hs k).1 ∧ pp_wfE (pp_st o n hs k).2
  | 0, _ => ⟨ho, hn⟩
  | k + 1, hk => by
    have ih := pp_st_w ho hn hh k (by omega)
    have h2 := (hh.2 k (by omega)).2
    show pp_wfE (pp_back _ _).1 ∧ pp_wfE (pp_back _ _).2
    unfold pp_back
    split
    · exact ⟨h2, ih.2⟩
    · exact ⟨ih.1, h2⟩
def pp_h1 (h : Nat) : Nat := if h = 10 then 10 else h + 1
theorem pp_wH_push {h w : Nat} {hs : Nat → Nat × pp_Ed} {e : pp_Ed} (hh : pp_wH h hs) (hw : w < 2) (he : pp_wfE e) : pp_wH (pp_h1 h) (pp_push hs w e) := by
  have := hh.1
  have hl : pp_h1 h ≤ 10 ∧ pp_h1 h ≤ h + 1 := by unfold pp_h1; split <;> omega
  refine ⟨hl.1, fun k hk => ?_⟩
  cases k with
  | zero => exact ⟨hw, he⟩
  | succ k => exact hh.2 k (by omega)
def pp_PC (τ : yy_T) (h : Nat) (hs : Nat → Nat × pp_Ed) : Prop := ∃ nx, nx < 10 ∧ τ 16 3 = nI nx ∧ τ 16 2 = nI h ∧ ∀ k, k < h → τ 18 ((nx + 9 - k) % 10) = nI (hs k).1 ∧ pp_RC τ (19 + 3 * ((nx + 9 - k) % 10)) (hs k).2
theorem pp_keep_key {τ τ1 : yy_T} {h w nx nx1 : Nat} {hs : Nat → Nat × pp_Ed} {e : pp_Ed} (hh : h ≤ 10) (p1 : nx < 10) (p4 : ∀ k, k < h → τ 18 ((nx + 9 - k) % 10) = nI (hs k).1 ∧ pp_RC τ (19 + 3 * ((nx + 9 - k) % 10)) (hs k).2) (q1 : pp_RC τ1 (19 + 3 * nx) e) (q2 : ∀ a, a ≠ 19 + 3 * nx → a ≠ 19 + 3 * nx + 1 → a ≠ 19 + 3 * nx + 2 → τ1 a = yy_up τ 18 nx (nI w) a) (b1 : nx1 < 10) (b2 : (nx1 + 9) % 10 = nx) : pp_PC (yy_up (yy_up τ1 16 3 (nI nx1)) 16 2 (nI (pp_h1 h))) (pp_h1 h) (pp_push hs w e) ∧ ∀ a, (a < 16 ∨ 49 ≤ a) → (yy_up (yy_up τ1 16 3 (nI nx1)) 16 2 (nI (pp_h1 h))) a = τ a := by
  have e18 : ∀ k, τ1 18 k = if k = nx then nI w else τ 18 k := fun k => by
    rw [q2 18 (by omega) (by omega) (by omega)]
    simp [yy_upx]
  refine ⟨⟨nx1, b1, by simp [yy_upx], by simp [yy_upx], fun k hk => ?_⟩, fun a ha => ?_⟩
  · have hl : pp_h1 h ≤ 10 ∧ pp_h1 h ≤ h + 1 := by unfold pp_h1; split <;> omega
    have tr : ∀ c e, c ≠ 16 → c + 1 ≠ 16 → c + 2 ≠ 16 → pp_RC τ1 c e → pp_RC (yy_up (yy_up τ1 16 3 (nI nx1)) 16 2 (nI (pp_h1 h))) c e := fun c e c1 c2 c3 hr => hr.of (by funext j; simp [yy_upx, c1]) (by funext j; simp only [yy_upx, c2, if_false]) (by funext j; simp only [yy_upx, c3, if_false])
    cases k with
    | zero =>
      rw [Nat.sub_zero, b2]
      refine ⟨?_, tr _ _ (by omega) (by omega) (by omega) q1⟩
      simp only [yy_upx, reduceIte, Nat.reduceEqDiff]
      rw [e18, if_pos rfl]
      rfl
    | succ k =>
      have e1 : (nx1 + 9 - (k + 1)) % 10 = (nx + 9 - k) % 10 := by omega
      have ne : (nx + 9 - k) % 10 ≠ nx := by omega
      rw [e1]
      obtain ⟨z1, z2⟩ := p4 k (by omega)
      refine ⟨?_, tr _ _ (by omega) (by omega) (by omega) ?_⟩
      · simp only [yy_upx, reduceIte, Nat.reduceEqDiff]
        rw [e18, if_neg ne]
        exact z1
      · refine z2.of ?_ ?_ ?_
        · rw [q2 _ (by omega) (by omega) (by omega)]
          funext j
          simp [yy_upx]
          omega
        · rw [q2 _ (by omega) (by omega) (by omega)]
          funext j
          simp [yy_upx]
          omega
        · rw [q2 _ (by omega) (by omega) (by omega)]
          funext j
          simp [yy_upx]
          omega
  · rw [show τ a = τ1 a by rw [q2 a (by omega) (by omega) (by omega)]; funext j; simp [yy_upx]; omega]
    funext j
    simp only [yy_upx]
    rw [if_neg (by omega), if_neg (by omega)]
theorem pp_keep {τ : yy_T} {h w c : Nat} {hs : Nat → Nat × pp_Ed} {e : pp_Ed} (hp : pp_PC τ h hs) (hh : pp_wH h hs) (hc : pp_RC τ c e) (he : pp_wfE e) (hw : w < 2) (hc2 : c + 2 < 16) : tt (mm_X5_keep (nI w) c) τ (fun _ τ1 => pp_PC τ1 (pp_h1 h) (pp_push hs w e) ∧ ∀ a, (a < 16 ∨ 49 ≤ a) → τ1 a = τ a) := by
  obtain ⟨nx, p1, p2, p3, p4⟩ := hp
  have h10 := hh.1
  have cn : (nI nx).toNatClampNeg = nx := nI_clamp (by omega)
  have hu : yy_up τ 18 nx (nI w) 16 3 = nI nx := by simp [yy_upx, p2]
  simp only [mm_X5_keep, tt_rF, tt_wA, tt_ck, tt_cl, p2, hu, cn]
  refine ⟨pp_in (by omega) (by decide), pp_in (by omega) (by decide), ?_⟩
  have hc1 : pp_RC (yy_up τ 18 nx (nI w)) c e := hc.of (by funext j; simp [yy_upx]; omega) (by funext j; simp [yy_upx]; omega) (by funext j; simp [yy_upx]; omega)
  refine tt_mono (pp_copyAll (c := 19 + 3 * nx) hc1 he (by omega)) (fun _ τ1 q => ?_)
  obtain ⟨q1, q2⟩ := q
  have e16 : τ1 16 = τ 16 := by
    rw [q2 16 (by omega) (by omega) (by omega)]
    funext j
    simp [yy_upx]
  have e18 : ∀ k, τ1 18 k = if k = nx then nI w else τ 18 k := fun k => by
    rw [q2 18 (by omega) (by omega) (by omega)]
    simp [yy_upx]
  have hmin : (if 10 < nI h + 1 then 10 else nI h + 1) = nI (pp_h1 h) := by
    rw [nI_1, show (10 : Int32) = nI 10 by rfl]
    unfold pp_h1
    by_cases e : h = 10
    · rw [if_pos (by rw [nI_ltI (by omega) (by omega)]; omega), if_pos e]
    · rw [if_neg (by rw [nI_ltI (by omega) (by omega)]; omega), if_neg e]
  simp only [mm_X5_keep_45, tt_rF, tt_wF, tt_br, tt_rt, e16, p2]
  have w2 : ∀ v : Int32, yy_up τ1 16 3 v 16 2 = nI h := fun v => by
    simp only [yy_upx, reduceIte, Nat.reduceEqDiff, e16, p3]
  rw [w2, w2, hmin, nI_1, show (10 : Int32) = nI 10 by rfl, nI_leI (by omega) (by omega)]
  exact ⟨fun q => pp_keep_key (nx1 := 0) h10 p1 p4 q1 q2 (by omega) (by omega), fun q => pp_keep_key (nx1 := nx + 1) h10 p1 p4 q1 q2 (by omega) (by omega)⟩
def pp_new (w : Nat) (e o n : pp_Ed) : pp_Ed × pp_Ed := if w = 0 then (e, n) else (o, e)
theorem pp_back_new {w : Nat} {e o n : pp_Ed} : pp_back (pp_new w e o n) (w, pp_sel w o n) = (o, n) := by
  unfold pp_back pp_new pp_sel
  by_cases hw : w = 0
  · simp [hw]
  · simp [hw]
def pp_SM (τ : yy_T) (h : Nat) (hs : Nat → Nat × pp_Ed) (o n : pp_Ed) : Prop := τ 112 6 = nI h ∧ ∀ k, k < h → pp_RM τ 116 (254 * (h - 1 - k)) (pp_st o n hs (k + 1)).1 ∧ pp_RM τ 116 (254 * (h - 1 - k) + 127) (pp_st o n hs (k + 1)).2
theorem pp_RM.to {τ τ1 : yy_T} {c d b b1 : Nat} {e : pp_Ed} (h : pp_RM τ c b e) (he : pp_wfE e) (h1 : ∀ j, j < 127 → τ1 d (b1 + j) = τ c (b + j)) : pp_RM τ1 d b1 e := by
  have := he.1
  refine ⟨by have := h1 0 (by omega); rw [Nat.add_zero, Nat.add_zero] at this; rw [this]; exact h.1, fun i hi => (h.2 i hi).to (he.2 i hi).2.1 (fun k hk => ?_)⟩
  rw [show b1 + 1 + 9 * i + k = b1 + (1 + 9 * i + k) by omega, h1 _ (by omega), show b + (1 + 9 * i + k) = b + 1 + 9 * i + k by omega]
theorem pp_snap_52 {τ : yy_T} {h : Nat} (h6 : τ 112 6 = nI h) (h10 : h < 10) : tt mm_X10_snap_50 τ (fun _ τ1 => τ1 112 6 = nI (h + 1) ∧ (∀ j, j < 254 → τ1 116 (254 * h + j) = τ 114 j) ∧ (∀ j, j < 254 * h → τ1 116 j = τ 116 j) ∧ (∀ k, k ≠ 6 → τ1 112 k = τ 112 k) ∧ ∀ a, a ≠ 112 → a ≠ 116 → τ1 a = τ a) := by
  simp only [mm_X10_snap_50, mm_X10_snap_52, tt_cl]
  refine tt_up 254 (fun m τ1 => (∀ j, j < m → τ1 116 (254 * h + j) = τ 114 j) ∧ (∀ j, j < 254 * h → τ1 116 j = τ 116 j) ∧ ∀ a, a ≠ 116 → τ1 a = τ a) (fun m τ1 hm hI => ?_) 0 τ (Nat.zero_le _) ⟨fun k hk => absurd hk (Nat.not_lt_zero k), fun j _ => rfl, fun a _ => rfl⟩
  obtain ⟨i1, i2, i3⟩ := hI
  have e112 : τ1 112 = τ 112 := i3 112 (by decide)
  have e114 : τ1 114 = τ 114 := i3 114 (by decide)
  simp only [mm_X10_snap_52b, mm_X10_snap_86, tt_rF, tt_wF, tt_br, tt_rt, tt_rA, tt_wA, e112, h6]
  rw [show (254 : Int32) = nI 254 by rfl, nI_mul, nI_add, nI_leI (by omega) (by omega), nI_clamp (by omega), nI_clamp (by omega)]
  refine ⟨fun hle => Or.inr ⟨(), by trivial, by simp [yy_upx, nI_1], fun j hj => i1 j (by omega), i2, fun k hk => by simp [yy_upx, hk, e112], fun a a1 a2 => by rw [← i3 a a2]; funext j; simp [yy_upx, a1]⟩, fun hle => ⟨pp_in (by omega) (by decide), pp_in (by omega) (by decide), Or.inl ⟨by omega, by rw [nI_1], fun k hk => ?_, fun j hj => ?_, fun a a1 => by rw [← i3 a a1]; funext j; simp [yy_upx, a1]⟩⟩⟩
  · simp only [yy_upx, if_true]
    by_cases e : k = m
    · rw [if_pos (by omega), e, e114]
    · rw [if_neg (by omega)]
      exact i1 k (by omega)
  · simp only [yy_upx, if_true]
    rw [if_neg (by omega)]
    exact i2 j hj
theorem pp_snap {τ : yy_T} {h w : Nat} {hs : Nat → Nat × pp_Ed} {o n : pp_Ed} (hS : pp_SM τ h hs o n) (hh : pp_wH h hs) (ho : pp_RM τ 114 0 o) (wo : pp_wfE o) (hn : pp_RM τ 114 127 n) (wn : pp_wfE n) : tt mm_X10_snap τ (fun _ τ1 => (∀ w e, pp_SM τ1 (pp_h1 h) (pp_push hs w (pp_sel w o n)) (pp_new w e o n).1 (pp_new w e o n).2) ∧ (∀ k, k ≠ 6 → τ1 112 k = τ 112 k) ∧ ∀ a, a ≠ 112 → a ≠ 116 → τ1 a = τ a) := by
  have h10 := hh.1
  have last : ∀ (g sh : Nat) (τ0 τ1 : yy_T), g < 10 → g + 1 = pp_h1 h → (∀ k, k < g → h - 1 - k = g - 1 - k + sh) → g ≤ h → (∀ j, j < 254 * g → τ0 116 j = τ 116 (j + 254 * sh)) → τ1 112 6 = nI (g + 1) → (∀ j, j < 254 → τ1 116 (254 * g + j) = τ 114 j) → (∀ j, j < 254 * g → τ1 116 j = τ0 116 j) → ∀ w e, pp_SM τ1 (pp_h1 h) (pp_push hs w (pp_sel w o n)) (pp_new w e o n).1 (pp_new w e o n).2 := by
    intro g sh τ0 τ1 g1 g2 g3 g4 g5 s1 s2 s3 w e
    rw [← g2]
    refine ⟨s1, fun k hk => ?_⟩
    have hb : pp_back ((pp_new w e o n).1, (pp_new w e o n).2) (w, pp_sel w o n) = (o, n) := pp_back_new
    rw [pp_st_push hb]
    cases k with
    | zero =>
      simp only [Nat.add_sub_cancel, Nat.sub_zero]
      exact ⟨ho.to wo (fun j hj => by rw [s2 j (by omega), Nat.zero_add]), hn.to wn (fun j hj => by rw [show 254 * g + 127 + j = 254 * g + (127 + j) by omega, s2 _ (by omega)])⟩
    | succ k =>
      obtain ⟨z1, z2⟩ := hS.2 k (by omega)
      obtain ⟨y1, y2⟩ := pp_st_w wo wn hh (k + 1) (by omega)
      have e1 := g3 k (by omega)
      rw [e1] at z1 z2
      rw [show g + 1 - 1 - (k + 1) = g - 1 - k by omega]
      refine ⟨z1.to y1 (fun j hj => ?_), z2.to y2 (fun j hj => ?_)⟩
      · rw [s3 _ (by omega), g5 _ (by omega)]
        congr 1
        omega
      · rw [s3 _ (by omega), g5 _ (by omega)]
        congr 1
        omega
  simp only [mm_X10_snap, tt_rF, tt_br, hS.1]
  rw [show (10 : Int32) = nI 10 by rfl, nI_eq (by omega) (by omega)]
  refine ⟨fun h1 => ?_, fun h1 => ?_⟩
  · simp only [mm_X10_snap_11, tt_cl]
    refine tt_up 2286 (fun m τ1 => (∀ j, j < m → τ1 116 j = τ 116 (j + 254)) ∧ (∀ j, m ≤ j → τ1 116 j = τ 116 j) ∧ ∀ a, a ≠ 116 → τ1 a = τ a) (fun m τ1 hm hI => ?_) 0 τ (Nat.zero_le _) ⟨fun k hk => absurd hk (Nat.not_lt_zero k), fun j _ => rfl, fun a _ => rfl⟩
    obtain ⟨i1, i2, i3⟩ := hI
    simp only [mm_X10_snap_11b, tt_br, tt_rt, tt_rA, tt_wA]
    simp only [nI_lit, nI_add]
    rw [nI_leI (by omega) (by omega), nI_clamp (by omega), nI_clamp (by omega)]
    refine ⟨fun hle => Or.inr ⟨(), by trivial, ?_⟩, fun hle => ⟨pp_in (by omega) (by decide), pp_in (by omega) (by decide), Or.inl ⟨by omega, by trivial, fun k hk => ?_, fun j hj => ?_, fun a a1 => by rw [← i3 a a1]; funext j; simp [yy_upx, a1]⟩⟩⟩
    · have e112 : τ1 112 = τ 112 := i3 112 (by decide)
      simp only [mm_X10_snap_40, tt_rF, tt_wF, e112, hS.1]
      have h9 : nI h - 1 = nI 9 := by rw [h1]; rfl
      rw [h9]
      refine tt_mono (pp_snap_52 (h := 9) (by simp [yy_upx]) (by omega)) (fun _ τ2 q => ?_)
      obtain ⟨q1, q2, q3, q4, q5⟩ := q
      refine ⟨last 9 1 τ1 τ2 (by omega) (by unfold pp_h1; rw [if_pos h1]) (fun k hk => by omega) (by omega) (fun j hj => i1 j (by omega)) q1 (fun j hj => ?_) (fun j hj => ?_), fun k hk => ?_, fun a a1 a2 => ?_⟩
      · rw [q2 j hj, ← i3 114 (by decide)]
        simp [yy_upx]
      · rw [q3 j hj]
        simp [yy_upx]
      · rw [q4 k hk]
        simp [yy_upx, hk, e112]
      · rw [q5 a a1 a2, ← i3 a a2]
        funext j
        simp [yy_upx, a1]
    · simp only [yy_upx, if_true]
      by_cases e : k = m
      · rw [if_pos e, e, i2 _ (by omega)]
      · rw [if_neg e]
        exact i1 k (by omega)
    · simp only [yy_upx, if_true]
      rw [if_neg (by omega)]
      exact i2 j (by omega)
  · refine tt_mono (pp_snap_52 hS.1 (by omega)) (fun _ τ2 q => ?_)
    obtain ⟨q1, q2, q3, q4, q5⟩ := q
    refine ⟨last h 0 τ τ2 (by omega) (by unfold pp_h1; rw [if_neg h1]) (fun k hk => by omega) (Nat.le_refl _) (fun j hj => by simp) q1 q2 q3, q4, q5⟩
