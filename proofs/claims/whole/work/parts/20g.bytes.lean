/-! a byte; all bytes -/
theorem pp_sb1 : ∀ b, b < 128 → sb_b b = nI b := by decide +kernel
theorem pp_sb2 : ∀ b, b < 256 → 128 ≤ b → sb_b b < 97 ∧ ¬ sb_b b = 32 ∧ ¬ sb_b b = 10 ∧ ¬ sb_b b = 59 := by decide +kernel
def pp_sB (wh : Nat) (s : pp_S) (b : Nat) : Nat ⊕ pp_S := if 97 ≤ b ∧ b ≤ 122 then (if pp_okL s then .inr (pp_sL s (b - 96)) else .inl 2) else if b = 32 ∨ b = 10 then .inr (pp_sK s) else if b = 59 ∧ wh ≠ 0 then (if pp_okC s then .inr (pp_sC s) else .inl 1) else .inl 1
theorem pp_wS_cur {s : pp_S} (h : pp_wS s) : ∀ v ∈ pp_cur s, pp_wfW v := by
  obtain ⟨w1, w2, w3, w4, w5, w6, w7⟩ := h
  unfold pp_cur
  split
  · exact w4
  · rename_i hne
    intro v hv
    rcases List.mem_append.mp hv with h | h
    · exact w4 v h
    · rw [List.mem_singleton] at h
      subst h
      refine ⟨?_, w5, w6⟩
      exact Nat.pos_of_ne_zero fun q => hne (List.length_eq_zero_iff.mp q)
theorem pp_sB_w {wh : Nat} {s s1 : pp_S} {b : Nat} (h : pp_wS s) (e : pp_sB wh s b = .inr s1) : pp_wS s1 := by
  have hc := pp_wS_cur h
  have hcl := pp_cur_len s
  obtain ⟨w1, w2, w3, w4, w5, w6, w7⟩ := h
  unfold pp_sB at e
  split at e
  · rename_i hb
    split at e
    · rename_i ok
      obtain ⟨o1, o2, o3⟩ := ok
      cases e
      refine ⟨w1, w2, ?_, w4, by simp [pp_sL]; omega, ?_, fun q => ?_⟩
      · rw [pp_curL, List.length_append]
        show s.2.2.1.length + 1 ≤ 8
        by_cases hw : s.2.2.2 = []
        · have := o3 hw
          omega
        · rw [if_neg hw] at hcl
          omega
      · intro x hx
        rcases List.mem_append.mp hx with h | h
        · exact w6 x h
        · rw [List.mem_singleton] at h
          omega
      · have q2 : s.1 = 14 := q
        omega
    · cases e
  · split at e
    · cases e
      refine ⟨w1, w2, by rw [pp_curK]; exact w3, hc, by simp [pp_sK], by simp [pp_sK], fun q => ?_⟩
      have := w7 q
      refine ⟨?_, rfl⟩
      show pp_cur s = []
      unfold pp_cur
      rw [if_pos this.2]
      exact this.1
    · split at e
      · split at e
        · rename_i ok
          cases e
          refine ⟨by have := ok.1; show s.1 + 1 ≤ 14; omega, fun i hi => ?_, by rw [pp_curC]; exact Nat.zero_le _, by simp [pp_sC], by simp [pp_sC], by simp [pp_sC], fun _ => ⟨rfl, rfl⟩⟩
          have hi2 : i < s.1 + 1 := hi
          show pp_wfL (if i = s.1 then pp_cur s else s.2.1 i)
          by_cases hn : i = s.1
          · rw [if_pos hn]
            exact ⟨Nat.pos_of_ne_zero fun q => ok.2 (List.length_eq_zero_iff.mp q), w3, hc⟩
          · rw [if_neg hn]
            exact w2 i (by omega)
        · cases e
      · cases e
theorem pp_sCK (s : pp_S) : pp_sC (pp_sK s) = pp_sC s := by
  unfold pp_sC
  rw [pp_curK]
  rfl
theorem pp_wSK {s : pp_S} (h : pp_wS s) : pp_wS (pp_sK s) := pp_sB_w (wh := 0) (b := 32) h rfl
theorem pp_RdCK {τ : yy_T} {s : pp_S} (h : pp_RdC τ s) : pp_RdC (yy_up τ 3 4 0) (pp_sK s) := by
  obtain ⟨h1, h2, h3, h4, h5⟩ := h
  refine ⟨by simp [yy_upx, pp_sK, h1], fun i hi => (h2 i hi).of (by funext j; simp [yy_upx]) (by funext j; simp [yy_upx]), by rw [pp_curK]; simp [yy_upx, h3], by simp [yy_upx, pp_sK]; rfl, fun k hk => ?_⟩
  rw [pp_curK] at hk ⊢
  simp only [yy_upx, reduceIte, Nat.reduceEqDiff]
  exact h5 k hk
theorem pp_cByte {τ : yy_T} {s : pp_S} (h : pp_RdC τ s) (hs : pp_wS s) (wh b : Nat) (hwh : wh < 2) (hb : b < 256) : tt (mm_X6_readByte (sb_b b) (nI wh)) τ (fun r τ1 => (∀ a, a ≠ 3 → a ≠ 4 → a ≠ 5 → a ≠ 6 → τ1 a = τ a) ∧ τ1 3 1 = τ 3 1 ∧ τ1 3 2 = τ 3 2 ∧ ((∃ f, pp_sB wh s b = .inl f ∧ (f = 1 ∨ f = 2) ∧ r = nI f) ∨ (∃ s1, pp_sB wh s b = .inr s1 ∧ r = 0 ∧ pp_RdC τ1 s1))) := by
  unfold pp_sB
  by_cases hl : 97 ≤ b ∧ b ≤ 122
  · rw [pp_sb1 b (by omega), if_pos hl]
    have e : nI b - 97 + 1 = nI (b - 96) := by
      rw [show (97 : Int32) = nI 97 by rfl, nI_sub (by omega), nI_1]
      congr 1
      omega
    simp only [mm_X6_readByte, tt_rF, tt_br, tt_wA, tt_rA, tt_wF, tt_rt, tt_ck, tt_cl, tt_rL, tt_wL, tt_cp, yy_upx, yy_rox, if_true, if_false, reduceIte, Nat.reduceEqDiff, and_true, true_and, e]
    simp (disch := omega) only [nI_lit, nI_add, nI_mul, nI_neg1, nI_sub, nI_ltI, nI_leI, nI_eq, yy_in_nI, nI_clamp, if_pos, if_neg, if_true, if_false, reduceIte, Nat.reduceEqDiff, Nat.reduceAdd, Nat.reduceMul, and_true, true_and]
    refine ⟨fun q => by omega, fun _ => ⟨fun q => by omega, fun _ => ?_⟩⟩
    refine tt_mono (pp_cLetter h hs (b - 96) (by omega)) (fun r τ1 q => ?_)
    obtain ⟨q1, q2, q3, q4⟩ := q
    refine ⟨fun a a1 a2 a3 a4 => q1 a a1 a4, q2, q3, ?_⟩
    rcases q4 with ⟨k1, k2, k3⟩ | ⟨k1, k2⟩
    · exact Or.inr ⟨_, by rw [if_pos k1], k2, k3⟩
    · exact Or.inl ⟨2, by rw [if_neg k1], Or.inr rfl, k2⟩
  · rw [if_neg hl]
    have hC := tt_mono (pp_cClose (pp_RdCK h) (pp_wSK hs)) (Q := fun r τ1 => (∀ a, a ≠ 3 → a ≠ 4 → a ≠ 5 → a ≠ 6 → τ1 a = τ a) ∧ τ1 3 1 = τ 3 1 ∧ τ1 3 2 = τ 3 2 ∧ ((pp_okC s ∧ r = 0 ∧ pp_RdC τ1 (pp_sC s)) ∨ (¬ pp_okC s ∧ r = 1))) (fun r τ1 q => by
      obtain ⟨q1, q2, q3, q4⟩ := q
      refine ⟨fun a a1 a2 a3 a4 => by rw [q1 a a1 a2 a3]; funext j; simp [yy_upx, a1], by rw [q2]; simp [yy_upx], by rw [q3]; simp [yy_upx], ?_⟩
      unfold pp_okC at q4 ⊢
      rw [pp_curK, pp_sCK] at q4
      rcases q4 with ⟨k1, k2, -, k3⟩ | ⟨k1, k2⟩
      · exact Or.inl ⟨k1, k2, k3 rfl⟩
      · exact Or.inr ⟨k1, k2⟩)
    have hk := pp_RdCK h
    have key : tt (mm_X6_readByte_23 (sb_b b) (nI wh)) τ (fun r τ1 => (∀ a, a ≠ 3 → a ≠ 4 → a ≠ 5 → a ≠ 6 → τ1 a = τ a) ∧ τ1 3 1 = τ 3 1 ∧ τ1 3 2 = τ 3 2 ∧ ((∃ f, (if b = 32 ∨ b = 10 then .inr (pp_sK s) else if b = 59 ∧ wh ≠ 0 then (if pp_okC s then .inr (pp_sC s) else .inl 1) else .inl 1 : Nat ⊕ pp_S) = .inl f ∧ (f = 1 ∨ f = 2) ∧ r = nI f) ∨ (∃ s1, (if b = 32 ∨ b = 10 then .inr (pp_sK s) else if b = 59 ∧ wh ≠ 0 then (if pp_okC s then .inr (pp_sC s) else .inl 1) else .inl 1 : Nat ⊕ pp_S) = .inr s1 ∧ r = 0 ∧ pp_RdC τ1 s1))) := by
      have fr : (∀ a, a ≠ 3 → a ≠ 4 → a ≠ 5 → a ≠ 6 → yy_up τ 3 4 0 a = τ a) ∧ yy_up τ 3 4 0 3 1 = τ 3 1 ∧ yy_up τ 3 4 0 3 2 = τ 3 2 := ⟨fun a a1 a2 a3 a4 => by funext j; simp [yy_upx, a1], by simp [yy_upx], by simp [yy_upx]⟩
      by_cases hb2 : b < 128
      · rw [pp_sb1 b hb2]
        have e1 : nI b = 32 ↔ b = 32 := nI_eq (by omega) (by decide)
        have e2 : nI b = 10 ↔ b = 10 := nI_eq (by omega) (by decide)
        have e3 : nI b = 59 ↔ b = 59 := nI_eq (by omega) (by decide)
        have e4 : nI wh = 0 ↔ wh = 0 := nI_eq (by omega) (by decide)
        simp only [mm_X6_readByte_23, tt_wF, tt_br, tt_rt, tt_cl, e1, e2, e3, e4]
        refine ⟨fun q => ⟨fr.1, fr.2.1, fr.2.2, Or.inr ⟨_, if_pos (Or.inl q), trivial, hk⟩⟩, fun q0 => ⟨fun q => ⟨fr.1, fr.2.1, fr.2.2, Or.inr ⟨_, if_pos (Or.inr q), trivial, hk⟩⟩, fun q1 => ⟨fun q => ⟨fun q2 => ⟨fr.1, fr.2.1, fr.2.2, Or.inl ⟨1, by rw [if_neg (by omega), if_neg (by omega)], Or.inl rfl, rfl⟩⟩, fun q2 => ?_⟩, fun q2 => ⟨fr.1, fr.2.1, fr.2.2, Or.inl ⟨1, by rw [if_neg (by omega), if_neg (by omega)], Or.inl rfl, rfl⟩⟩⟩⟩⟩
        rw [if_neg (by omega), if_pos ⟨q, q2⟩]
        refine tt_mono hC (fun r τ1 k => ?_)
        obtain ⟨k1, k2, k3, k4⟩ := k
        refine ⟨k1, k2, k3, ?_⟩
        rcases k4 with ⟨k4, k5, k6⟩ | ⟨k4, k5⟩
        · exact Or.inr ⟨_, if_pos k4, k5, k6⟩
        · exact Or.inl ⟨1, if_neg k4, Or.inl rfl, k5⟩
      · obtain ⟨-, c1, c2, c3⟩ := pp_sb2 b hb (by omega)
        simp only [mm_X6_readByte_23, tt_wF, tt_br, tt_rt, tt_cl]
        exact ⟨fun q => absurd q c1, fun _ => ⟨fun q => absurd q c2, fun _ => ⟨fun q => absurd q c3, fun _ => ⟨fr.1, fr.2.1, fr.2.2, Or.inl ⟨1, by rw [if_neg (by omega), if_neg (by omega)], Or.inl rfl, rfl⟩⟩⟩⟩⟩
    simp only [mm_X6_readByte, tt_br]
    refine ⟨fun _ => key, fun q => ⟨fun _ => key, fun q2 => ?_⟩⟩
    exfalso
    by_cases hb2 : b < 128
    · rw [pp_sb1 b hb2] at q q2
      rw [show (97 : Int32) = nI 97 by rfl, nI_ltI (by omega) (by omega)] at q
      rw [show (122 : Int32) = nI 122 by rfl, nI_ltI (by omega) (by omega)] at q2
      omega
    · exact q (pp_sb2 b hb (by omega)).1
def pp_run (wh lim : Nat) (bt : Nat → Nat) : Nat → Nat → pp_S → (Nat × Nat) ⊕ pp_S
  | 0, _, s => .inr s
  | r + 1, p, s => if lim ≤ p then .inl (1, p) else match pp_sB wh s (bt p) with
    | .inl f => .inl (f, p)
    | .inr s1 => pp_run wh lim bt r (p + 1) s1
def pp_end (wh t : Nat) (s : pp_S) : (Nat × Nat) ⊕ pp_Ed := if wh ≠ 0 then (if pp_cur s = [] then .inr (s.1, s.2.1) else .inl (1, t)) else if pp_okC s then .inr (s.1 + 1, (pp_sC s).2.1) else .inl (1, t)
def pp_fin (wh t : Nat) : (Nat × Nat) ⊕ pp_S → (Nat × Nat) ⊕ pp_Ed
  | .inl q => .inl q
  | .inr s => pp_end wh t s
def pp_s0 : pp_S := (0, fun _ => [], [], [])
def pp_lim (wh : Nat) : Nat := if wh = 0 then 80 else 600
def pp_res (wh t : Nat) (bt : Nat → Nat) : (Nat × Nat) ⊕ pp_Ed := pp_fin wh t (pp_run wh (pp_lim wh) bt t 0 pp_s0)
theorem pp_ws0 : pp_wS pp_s0 := ⟨by decide, fun i hi => absurd hi (Nat.not_lt_zero i), by decide, by simp [pp_s0], by decide, by simp [pp_s0], fun _ => ⟨rfl, rfl⟩⟩
theorem pp_run_w {wh lim : Nat} {bt : Nat → Nat} : ∀ (r p : Nat) (s s1 : pp_S), pp_wS s → pp_run wh lim bt r p s = .inr s1 → pp_wS s1
  | 0, _, s, s1, h, e => by cases e; exact h
  | r + 1, p, s, s1, h, e => by
    unfold pp_run at e
    split at e
    · cases e
    · split at e
      · cases e
      · rename_i s2 e2
        exact pp_run_w r (p + 1) s2 s1 (pp_sB_w h e2) e
/-- a line alone never gets a second -/
theorem pp_run_0 {lim : Nat} {bt : Nat → Nat} : ∀ (r p : Nat) (s s1 : pp_S), pp_run 0 lim bt r p s = .inr s1 → s1.1 = s.1
  | 0, _, s, s1, e => by cases e; rfl
  | r + 1, p, s, s1, e => by
    unfold pp_run at e
    split at e
    · cases e
    · split at e
      · cases e
      · rename_i s2 e2
        rw [pp_run_0 r (p + 1) s2 s1 e]
        unfold pp_sB at e2
        split at e2
        · split at e2
          · cases e2; rfl
          · cases e2
        · split at e2
          · cases e2; rfl
          · rw [if_neg (by omega)] at e2
            cases e2
theorem pp_res_w {wh t : Nat} {bt : Nat → Nat} {e : pp_Ed} (h : pp_res wh t bt = .inr e) : pp_wfE e ∧ (wh = 0 → e.1 = 1) := by
  unfold pp_res at h
  cases hr : pp_run wh (pp_lim wh) bt t 0 pp_s0 with
  | inl q => rw [hr] at h; cases h
  | inr s =>
    rw [hr] at h
    have hs := pp_run_w _ _ _ _ pp_ws0 hr
    have hc := pp_wS_cur hs
    change pp_end wh t s = .inr e at h
    unfold pp_end at h
    split at h
    · rename_i hw
      split at h
      · cases h
        exact ⟨⟨hs.1, hs.2.1⟩, fun q => absurd q hw⟩
      · cases h
    · rename_i hw
      split at h
      · rename_i ok
        cases h
        refine ⟨?_, fun q => ?_⟩
        · have := pp_sB_w (wh := 1) (b := 59) (s := s) (s1 := pp_sC s) hs (by unfold pp_sB; rw [if_neg (by omega), if_neg (by omega), if_pos (by omega), if_pos ok])
          exact ⟨this.1, this.2.1⟩
        · subst q
          have := pp_run_0 _ _ _ _ hr
          show s.1 + 1 = 1
          rw [this]
          rfl
      · cases h
theorem pp_cRead {τ : yy_T} {t wh : Nat} {bt : Nat → Nat} (hT : pp_TC τ t bt) (hb : ∀ i, i < t → bt i < 256) (hwh : wh < 2) : tt (mm_X6_read (nI wh)) τ (fun r τ1 => (∀ a, a ≠ 3 → a ≠ 4 → a ≠ 5 → a ≠ 6 → τ1 a = τ a) ∧ ((∃ f p, pp_res wh t bt = .inl (f, p) ∧ f ≤ 2 ∧ p ≤ 640 ∧ r = 0 ∧ τ1 3 1 = nI f ∧ τ1 3 2 = nI p) ∨ (∃ e, pp_res wh t bt = .inr e ∧ r = 1 ∧ τ1 3 1 = 0 ∧ pp_RC τ1 4 e))) := by
  obtain ⟨t1, t2, t3⟩ := hT
  have main : ∀ (lim : Nat) (τ0 : yy_T), lim = pp_lim wh → pp_RdC τ0 pp_s0 → τ0 3 1 = 0 → (∀ a, a ≠ 3 → a ≠ 4 → a ≠ 5 → a ≠ 6 → τ0 a = τ a) → tt (mm_X6_read_35 (nI wh) (nI lim)) τ0 (fun r τ1 => (∀ a, a ≠ 3 → a ≠ 4 → a ≠ 5 → a ≠ 6 → τ1 a = τ a) ∧ ((∃ f p, pp_res wh t bt = .inl (f, p) ∧ f ≤ 2 ∧ p ≤ 640 ∧ r = 0 ∧ τ1 3 1 = nI f ∧ τ1 3 2 = nI p) ∨ (∃ e, pp_res wh t bt = .inr e ∧ r = 1 ∧ τ1 3 1 = 0 ∧ pp_RC τ1 4 e))) := by
    intro lim τ0 hlim g1 g2 g3
    have hl6 : lim ≤ 600 := by rw [hlim]; unfold pp_lim; split <;> omega
    simp only [mm_X6_read_35, mm_X6_read_39, tt_cl]
    refine tt_up t (fun p τ1 => (∀ a, a ≠ 3 → a ≠ 4 → a ≠ 5 → a ≠ 6 → τ1 a = τ a) ∧ ((∃ s, pp_wS s ∧ pp_RdC τ1 s ∧ τ1 3 1 = 0 ∧ pp_run wh lim bt t 0 pp_s0 = pp_run wh lim bt (t - p) p s) ∨ (∃ f q, (f = 1 ∨ f = 2) ∧ q ≤ 640 ∧ τ1 3 1 = nI f ∧ τ1 3 2 = nI q ∧ pp_run wh lim bt t 0 pp_s0 = .inl (f, q)))) (fun p τ1 hp hI => ?_) 0 τ0 (Nat.zero_le _) ⟨g3, Or.inl ⟨pp_s0, pp_ws0, g1, g2, rfl⟩⟩
    obtain ⟨i1, i2⟩ := hI
    have e1 : τ1 1 = τ 1 := i1 1 (by decide) (by decide) (by decide) (by decide)
    have e2 : τ1 2 = τ 2 := i1 2 (by decide) (by decide) (by decide) (by decide)
    -- behind the loop
    have after : (pp_run wh lim bt t 0 pp_s0 = pp_run wh lim bt t 0 pp_s0) → ((∃ s, p = t ∧ pp_wS s ∧ pp_RdC τ1 s ∧ τ1 3 1 = 0 ∧ pp_run wh lim bt t 0 pp_s0 = .inr s) ∨ (∃ f q, (f = 1 ∨ f = 2) ∧ q ≤ 640 ∧ τ1 3 1 = nI f ∧ τ1 3 2 = nI q ∧ pp_run wh lim bt t 0 pp_s0 = .inl (f, q))) → tt (mm_X6_read_93 (nI wh)) τ1 (fun r τ1 => (∀ a, a ≠ 3 → a ≠ 4 → a ≠ 5 → a ≠ 6 → τ1 a = τ a) ∧ ((∃ f p, pp_res wh t bt = .inl (f, p) ∧ f ≤ 2 ∧ p ≤ 640 ∧ r = 0 ∧ τ1 3 1 = nI f ∧ τ1 3 2 = nI p) ∨ (∃ e, pp_res wh t bt = .inr e ∧ r = 1 ∧ τ1 3 1 = 0 ∧ pp_RC τ1 4 e))) := by
      intro _ hh
      unfold pp_res
      rw [← hlim]
      rcases hh with ⟨s, -, s1, s2, s3, s4⟩ | ⟨f, q, s1, s2, s3, s4, s5⟩
      · rw [s4]
        simp only [mm_X6_read_93, tt_rF, tt_br, s3, e1, t2, tt_wF, tt_cl, mm_X6_readEnd, tt_rt]
        refine ⟨fun _ => ⟨fun hw => ?_, fun hw => ?_⟩, fun q => absurd trivial q⟩
        · have hw0 : wh = 0 := (nI_eq (by omega) (by decide : 0 < 2 ^ 31)).mp hw
          have s2' : pp_RdC (yy_up τ1 3 2 (nI t)) s := by
            obtain ⟨h1, h2, h3, h4, h5⟩ := s2
            refine ⟨by simp [yy_upx, h1], fun i hi => (h2 i hi).of (by funext j; simp [yy_upx]) (by funext j; simp [yy_upx]), by simp [yy_upx, h3], by simp [yy_upx, h4], fun k hk => ?_⟩
            simp only [yy_upx, reduceIte, Nat.reduceEqDiff]
            exact h5 k hk
          refine tt_mono (pp_cClose s2' s1) (fun r τ2 k => ?_)
          obtain ⟨k1, k2, k3, k4⟩ := k
          have fr : ∀ a, a ≠ 3 → a ≠ 4 → a ≠ 5 → a ≠ 6 → yy_up τ2 3 1 r a = τ a := fun a a1 a2 a3 a4 => by
            rw [← i1 a a1 a2 a3 a4]
            funext j
            simp [yy_upx, a1, k1 a a1 a2 a3]
          rcases k4 with ⟨k4, k5, k6, -⟩ | ⟨k4, k5⟩
          · subst k5
            simp only [mm_X6_read_117, tt_rF, tt_br, yy_upx, reduceIte, tt_rt]
            refine ⟨fun _ => ⟨fr, Or.inr ⟨(s.1 + 1, (pp_sC s).2.1), ?_, trivial, by simp [yy_upx], ?_⟩⟩, fun q => absurd trivial q⟩
            · show pp_end wh t s = _
              unfold pp_end
              rw [if_neg (by omega), if_pos k4]
            · exact k6.of (by funext j; simp [yy_upx]) (by funext j; simp [yy_upx]) (by funext j; simp [yy_upx])
          · subst k5
            simp only [mm_X6_read_117, tt_rF, tt_br, yy_upx, reduceIte, tt_rt]
            refine ⟨fun q => absurd q (by decide), fun _ => ⟨fr, Or.inl ⟨1, t, ?_, by decide, t1, trivial, rfl, ?_⟩⟩⟩
            · show pp_end wh t s = _
              unfold pp_end
              rw [if_neg (by omega), if_neg k4]
            · simp only [yy_upx, reduceIte, Nat.reduceEqDiff]
              rw [k3]
              simp [yy_upx]
        · have hw0 : wh ≠ 0 := fun q => hw (by rw [q]; rfl)
          have hz : (pp_cur s).length = 0 ↔ pp_cur s = [] := List.length_eq_zero_iff
          have s23 := s2.2.2.1
          have l8 := s1.2.2.1
          simp only [yy_upx, reduceIte, Nat.reduceEqDiff, s23, mm_X6_read_117, tt_rF, tt_br, tt_rt]
          rw [show (0 : Int32) = nI 0 by rfl, nI_eq (by omega) (by decide), hz]
          have fr : ∀ (v : Int32) a, a ≠ 3 → a ≠ 4 → a ≠ 5 → a ≠ 6 → yy_up (yy_up τ1 3 2 (nI t)) 3 1 v a = τ a := fun v a a1 a2 a3 a4 => by
            rw [← i1 a a1 a2 a3 a4]
            funext j
            simp [yy_upx, a1]
          refine ⟨fun hc => ⟨fun _ => ⟨fr _, Or.inr ⟨(s.1, s.2.1), ?_, trivial, by simp [yy_upx], ?_⟩⟩, fun q => absurd trivial q⟩, fun hc => ⟨fun q => absurd q (by decide), fun _ => ⟨fr _, Or.inl ⟨1, t, ?_, by decide, t1, trivial, rfl, by simp [yy_upx]⟩⟩⟩⟩
          · show pp_end wh t s = _
            unfold pp_end
            rw [if_pos hw0, if_pos hc]
          · have : pp_RC τ1 4 (s.1, s.2.1) := ⟨s2.1, s2.2.1⟩
            exact this.of (by funext j; simp [yy_upx]) (by funext j; simp [yy_upx]) (by funext j; simp [yy_upx])
          · show pp_end wh t s = _
            unfold pp_end
            rw [if_pos hw0, if_neg hc]
      · rw [s5]
        have hf : ¬ nI f = 0 := by
          rw [show (0 : Int32) = nI 0 by rfl, nI_eq (by omega) (by decide)]
          omega
        simp only [mm_X6_read_93, mm_X6_read_117, tt_rF, tt_br, s3, tt_rt]
        refine ⟨fun q => absurd q hf, fun _ => ⟨fun q => absurd q hf, fun _ => ⟨i1, Or.inl ⟨f, q, rfl, by omega, s2, trivial, rfl, s4⟩⟩⟩⟩
    simp only [mm_X6_read_39b, tt_rF, tt_br, e1, t2, tt_rt, tt_wF, tt_rA, tt_cl, mm_X6_read_84]
    rw [nI_leI (by omega) (by omega)]
    refine ⟨fun hle => Or.inr ⟨(), trivial, after rfl ?_⟩, fun hle => ⟨fun h0 => ?_, fun h0 => Or.inr ⟨(), trivial, after rfl ?_⟩⟩⟩
    · have hpt : p = t := by omega
      subst hpt
      rcases i2 with ⟨s, s1, s2, s3, s4⟩ | h
      · rw [Nat.sub_self] at s4
        exact Or.inl ⟨s, rfl, s1, s2, s3, s4⟩
      · exact Or.inr h
    · rcases i2 with ⟨s, s1, s2, s3, s4⟩ | ⟨f, q, s1, s2, s3, s4, s5⟩
      · have s2' : pp_RdC (yy_up τ1 3 2 (nI p)) s := by
          obtain ⟨h1, h2, h3, h4, h5⟩ := s2
          refine ⟨by simp [yy_upx, h1], fun i hi => (h2 i hi).of (by funext j; simp [yy_upx]) (by funext j; simp [yy_upx]), by simp [yy_upx, h3], by simp [yy_upx, h4], fun k hk => ?_⟩
          simp only [yy_upx, reduceIte, Nat.reduceEqDiff]
          exact h5 k hk
        have sx : t - p = (t - p - 1) + 1 := by omega
        rw [sx] at s4
        unfold pp_run at s4
        rw [nI_leI (by omega) (by omega)]
        refine ⟨fun hlp => Or.inl ⟨by omega, by rw [nI_1], ?_, Or.inr ⟨1, p, Or.inl rfl, by omega, by simp [yy_upx]; rfl, by simp [yy_upx], ?_⟩⟩, fun hlp => ⟨pp_in (by omega) (by decide), ?_⟩⟩
        · intro a a1 a2 a3 a4
          rw [← i1 a a1 a2 a3 a4]
          funext j
          simp [yy_upx, a1]
        · rw [if_pos hlp] at s4
          conv => lhs; unfold pp_run
          exact s4
        · rw [if_neg hlp] at s4
          have hbp : yy_up τ1 3 2 (nI p) 2 (nI p).toNatClampNeg = sb_b (bt p) := by
            rw [nI_clamp (by omega)]
            simp only [yy_upx, reduceIte, Nat.reduceEqDiff]
            rw [e2]
            exact t3 p (by omega)
          rw [hbp]
          refine tt_mono (pp_cByte s2' s1 wh (bt p) hwh (hb p (by omega))) (fun r τ2 k => ?_)
          obtain ⟨k1, k2, k3, k4⟩ := k
          refine Or.inl ⟨by omega, by rw [nI_1], ?_, ?_⟩
          · intro a a1 a2 a3 a4
            rw [← i1 a a1 a2 a3 a4]
            funext j
            simp only [yy_upx, a1, if_false, k1 a a1 a2 a3 a4]
          · rcases k4 with ⟨f, f1, f2, f3⟩ | ⟨z, z1, z2, z3⟩
            · rw [f1] at s4
              refine Or.inr ⟨f, p, f2, by omega, by simp [yy_upx, f3], ?_, ?_⟩
              · simp only [yy_upx, reduceIte, Nat.reduceEqDiff]
                rw [k3]
                simp [yy_upx]
              · conv => lhs; unfold pp_run
                exact s4
            · rw [z1] at s4
              refine Or.inl ⟨z, pp_sB_w s1 z1, ?_, by simp [yy_upx, z2], ?_⟩
              · obtain ⟨h1, h2, h3, h4, h5⟩ := z3
                refine ⟨by simp [yy_upx, h1], fun i hi => (h2 i hi).of (by funext j; simp [yy_upx]) (by funext j; simp [yy_upx]), by simp [yy_upx, h3], by simp [yy_upx, h4], fun k hk => ?_⟩
                simp only [yy_upx, reduceIte, Nat.reduceEqDiff]
                exact h5 k hk
              · rw [show t - (p + 1) = t - p - 1 by omega]
                conv => lhs; unfold pp_run
                exact s4
      · exfalso
        rw [s3] at h0
        rw [show (0 : Int32) = nI 0 by rfl, nI_eq (by omega) (by decide)] at h0
        omega
    · rcases i2 with ⟨s, s1, s2, s3, s4⟩ | h
      · exact absurd s3 h0
      · exact Or.inr h
  have hR : pp_RdC (yy_up (yy_up (yy_up (yy_up τ 4 2 0) 3 1 0) 3 3 0) 3 4 0) pp_s0 := ⟨by simp [yy_upx]; rfl, fun i hi => absurd hi (Nat.not_lt_zero i), by simp [yy_upx]; rfl, by simp [yy_upx]; rfl, fun k hk => absurd hk (Nat.not_lt_zero k)⟩
  have fr : ∀ a, a ≠ 3 → a ≠ 4 → a ≠ 5 → a ≠ 6 → (yy_up (yy_up (yy_up (yy_up τ 4 2 0) 3 1 0) 3 3 0) 3 4 0) a = τ a := fun a a1 a2 a3 a4 => by
    funext j
    simp [yy_upx, a1, a2]
  simp only [mm_X6_read, tt_wF, tt_br]
  refine ⟨fun h => ?_, fun h => ?_⟩
  · have hw0 : wh = 0 := (nI_eq (by omega) (by decide : 0 < 2 ^ 31)).mp h
    exact main 80 _ (by rw [hw0]; rfl) hR (by simp [yy_upx]) fr
  · have hw0 : wh ≠ 0 := fun q => h (by rw [q]; rfl)
    exact main 600 _ (by unfold pp_lim; rw [if_neg hw0]) hR (by simp [yy_upx]) fr
