/-! THE CLASS'S KEEPER: anchors and their runs -/
/-- the anchors' places in order, up to e -/
def pp_pl (A : Nat → Nat) (a e fd : Nat) (pl : Nat → Nat) : Prop := pl fd = e ∧ a ≤ pl 0 ∧ (∀ k, a ≤ k → k < pl 0 → A k = 0) ∧ ∀ i, i < fd → a ≤ pl i ∧ pl i < pl (i + 1) ∧ A (pl i) ≠ 0 ∧ ∀ k, pl i < k → k < pl (i + 1) → A k = 0
theorem pp_pl_le {A : Nat → Nat} {a e fd : Nat} {pl : Nat → Nat} (h : pp_pl A a e fd pl) : ∀ (n i : Nat), fd - i ≤ n → i ≤ fd → pl i + (fd - i) ≤ e
  | 0, i, h1, h2 => by
    rw [show i = fd by omega, h.1]
    omega
  | n + 1, i, h1, h2 => by
    by_cases e1 : i = fd
    · rw [e1, h.1]
      omega
    · have h3 := pp_pl_le h n (i + 1) (by omega) (by omega)
      have h4 := (h.2.2.2 i (by omega)).2.1
      omega
def pp_AN (τ : yy_T) (A : Nat → Nat) (fd : Nat) (pl : Nat → Nat) : Prop := ∀ i, i < fd → τ 58 i = nI (pl i) ∧ τ 59 i = nI (A (pl i) - 1)
theorem pp_findAnchors {τ : yy_T} {r a b c d : Nat} {o n : pp_Ed} (hN : pp_KN τ o n) (hr : r < 14) (hR : pp_R τ r a b c d) (o14 : o.1 ≤ 14) (n14 : n.1 ≤ 14) (hb : b ≤ o.1) (hd : d ≤ n.1) (hab : a ≤ b) (hcd : c ≤ d) : tt (mm_X3_findAnchors (nI r)) τ (fun _ τ1 => ∃ fd pl, fd ≤ 14 ∧ τ1 53 8 = nI fd ∧ pp_pl (pp_A (pp_EL o n) (pp_EL o o) a b c d) a b fd pl ∧ pp_AN τ1 (pp_A (pp_EL o n) (pp_EL o o) a b c d) fd pl ∧ fd = pp_ct (pp_A (pp_EL o n) (pp_EL o o) a b c d) b a ∧ (∀ q, q ≠ 8 → τ1 53 q = τ 53 q) ∧ ∀ x, x ≠ 53 → x ≠ 58 → x ≠ 59 → τ1 x = τ x) := by
  have rr : (nI r).toNatClampNeg = r := nI_clamp (by omega)
  have ir : yy_in (nI r) 14 = true := pp_in hr (by decide)
  obtain ⟨r1, r2, r3, r4⟩ := hR
  generalize hA : pp_A (pp_EL o n) (pp_EL o o) a b c d = A
  have z54 : yy_up τ 53 8 0 54 r = nI a := by simp [yy_upx, r1]
  have cl := pp_ct_le (A := A) (b := b) _ a (Nat.le_refl _)
  simp only [mm_X3_findAnchors, tt_wF, tt_rA, rr, ir, true_and, z54, mm_X3_findAnchors_12, tt_cl]
  refine tt_up b (fun k τ1 => a ≤ k ∧ ∃ fd pl, fd + pp_ct A b k = pp_ct A b a ∧ τ1 53 8 = nI fd ∧ pp_pl A a k fd pl ∧ pp_AN τ1 A fd pl ∧ (∀ q, q ≠ 8 → τ1 53 q = τ 53 q) ∧ ∀ x, x ≠ 53 → x ≠ 58 → x ≠ 59 → τ1 x = τ x) (fun k τ1 hk hI => ?_) a _ hab ⟨Nat.le_refl _, 0, fun _ => a, by omega, by simp [yy_upx]; rfl, ⟨rfl, Nat.le_refl _, fun k k1 k2 => absurd k2 (Nat.not_lt.mpr k1), fun i hi => absurd hi (Nat.not_lt_zero i)⟩, fun i hi => absurd hi (Nat.not_lt_zero i), fun q hq => by simp [yy_upx, hq], fun x x1 x2 x3 => by funext l; simp [yy_upx, x1]⟩
  obtain ⟨ak, fd, pl, i1, i2, i3, i4, i5, i6⟩ := hI
  have e55 : τ1 55 r = nI b := by rw [i6 55 (by decide) (by decide) (by decide)]; exact r2
  have e54 : τ1 54 r = nI a := by rw [i6 54 (by decide) (by decide) (by decide)]; exact r1
  have e56 : τ1 56 r = nI c := by rw [i6 56 (by decide) (by decide) (by decide)]; exact r3
  have e57 : τ1 57 r = nI d := by rw [i6 57 (by decide) (by decide) (by decide)]; exact r4
  have N1 : pp_KN τ1 o n := hN.of (i6 _ (by decide) (by decide) (by decide)) (i6 _ (by decide) (by decide) (by decide)) (i6 _ (by decide) (by decide) (by decide))
  simp only [mm_X3_findAnchors_12b, tt_rA, tt_br, rr, ir, e54, e55, e56, e57]
  rw [nI_leI (by omega) (by omega)]
  refine ⟨by trivial, fun q => ?_, fun q => ?_⟩
  · rw [tt_rt]
    refine Or.inr ⟨(), rfl, ?_⟩
    simp only [mm_X3_findAnchors_121, tt_rt]
    have ek : k = b := by omega
    rw [ek, pp_ct_e (Nat.lt_irrefl b)] at i1
    rw [ek] at i3
    exact ⟨fd, pl, by omega, i2, i3, i4, by omega, i5, i6⟩
  · have kb : k < b := by omega
    have ci := pp_ct_i (A := A) kb
    have p1 : mm_X3_onlyPlace (τ1 51 k) 52 (nI c) (nI d) τ1 = some (pp_i (pp_on (pp_EL o n k) c d 0), τ1) := pp_onlyPlace rfl (by omega) (by omega) (fun l l1 l2 => by
      have := N1.2.2.1 k l (by omega) (by omega)
      exact ⟨fun z => this.mp z.symm, fun z => (this.mpr z).symm⟩)
    have p2 : mm_X3_onlyPlace (τ1 51 k) 51 (nI a) (nI b) τ1 = some (pp_i (pp_on (pp_EL o o k) a b 0), τ1) := pp_onlyPlace rfl (by omega) (by omega) (fun l l1 l2 => by
      have := N1.2.2.2 k l (by omega) (by omega)
      exact ⟨fun z => this.mp z.symm, fun z => (this.mpr z).symm⟩)
    have b1 : pp_on (pp_EL o n k) c d 0 ≤ 14 := by
      by_cases e : pp_on (pp_EL o n k) c d 0 = 0
      · omega
      · have := pp_on_in e
        omega
    have b2 : pp_on (pp_EL o o k) a b 0 ≤ 14 := by
      by_cases e : pp_on (pp_EL o o k) a b 0 = 0
      · omega
      · have := pp_on_in e
        omega
    have kk : (nI k).toNatClampNeg = k := nI_clamp (by omega)
    -- no anchor here
    have none : A k = 0 → tt (mm_X3_findAnchors_115 (nI r) (nI k)) τ1 (fun y τ2 => (k < b ∧ y = .inl (nI (k + 1)) ∧ a ≤ k + 1 ∧ ∃ fd pl, fd + pp_ct A b (k + 1) = pp_ct A b a ∧ τ2 53 8 = nI fd ∧ pp_pl A a (k + 1) fd pl ∧ pp_AN τ2 A fd pl ∧ (∀ q, q ≠ 8 → τ2 53 q = τ 53 q) ∧ ∀ x, x ≠ 53 → x ≠ 58 → x ≠ 59 → τ2 x = τ x) ∨ ∃ w, y = .inr w ∧ tt mm_X3_findAnchors_121 τ2 (fun _ τ1 => ∃ fd pl, fd ≤ 14 ∧ τ1 53 8 = nI fd ∧ pp_pl A a b fd pl ∧ pp_AN τ1 A fd pl ∧ fd = pp_ct A b a ∧ (∀ q, q ≠ 8 → τ1 53 q = τ 53 q) ∧ ∀ x, x ≠ 53 → x ≠ 58 → x ≠ 59 → τ1 x = τ x)) := by
      intro hz
      simp only [mm_X3_findAnchors_115, tt_rt]
      rw [if_pos hz] at ci
      refine Or.inl ⟨kb, by rw [nI_1], by omega, fd, fun i => if i = fd then k + 1 else pl i, by omega, i2, ⟨if_pos rfl, ?_, fun l l1 l2 => ?_, fun i hi => ?_⟩, fun i hi => ?_, i5, i6⟩
      · show a ≤ if (0 : Nat) = fd then k + 1 else pl 0
        split
        · omega
        · exact i3.2.1
      · have l2 : l < if (0 : Nat) = fd then k + 1 else pl 0 := l2
        by_cases e : 0 = fd
        · rw [if_pos e] at l2
          by_cases el : l = k
          · rw [el]
            exact hz
          · refine i3.2.2.1 l l1 ?_
            rw [e, i3.1]
            omega
        · rw [if_neg e] at l2
          exact i3.2.2.1 l l1 l2
      · obtain ⟨g1, g2, g3, g4⟩ := i3.2.2.2 i hi
        show a ≤ (if i = fd then k + 1 else pl i) ∧ (if i = fd then k + 1 else pl i) < (if i + 1 = fd then k + 1 else pl (i + 1)) ∧ A (if i = fd then k + 1 else pl i) ≠ 0 ∧ ∀ l, (if i = fd then k + 1 else pl i) < l → l < (if i + 1 = fd then k + 1 else pl (i + 1)) → A l = 0
        rw [if_neg (show ¬ i = fd by omega)]
        by_cases e : i + 1 = fd
        · rw [if_pos e]
          rw [e, i3.1] at g2 g4
          refine ⟨g1, by omega, g3, fun l l1 l2 => ?_⟩
          by_cases el : l = k
          · rw [el]
            exact hz
          · exact g4 l l1 (by omega)
        · rw [if_neg e]
          exact ⟨g1, g2, g3, g4⟩
      · show τ1 58 i = nI (if i = fd then k + 1 else pl i) ∧ τ1 59 i = nI (A (if i = fd then k + 1 else pl i) - 1)
        rw [if_neg (show ¬ i = fd by omega)]
        exact i4 i hi
    rw [kk]
    refine ⟨pp_in (by omega) (by decide), by trivial, by trivial, ?_⟩
    rw [tt_cle p1, tt_br, pp_i_0 b1]
    refine ⟨fun z => none ?_, fun z => ?_⟩
    · rw [← hA]
      unfold pp_A
      rw [if_pos z]
    · simp only [tt_rA, rr, ir, e54, e55, true_and]
      rw [tt_cle p2, tt_br, pp_i_0 b2]
      refine ⟨fun z2 => none ?_, fun z2 => ?_⟩
      · rw [← hA]
        unfold pp_A
        rw [if_neg z, if_pos z2]
      · have hAk : A k = pp_on (pp_EL o n k) c d 0 := by
          rw [← hA]
          unfold pp_A
          rw [if_neg z, if_neg z2]
        rw [← hAk] at z ⊢
        rw [if_neg z] at ci
        have fd14 : fd < 14 := by omega
        have ff : (nI fd).toNatClampNeg = fd := nI_clamp (by omega)
        have x1 : yy_up τ1 58 fd (nI k) 53 8 = nI fd := by simp [yy_upx, i2]
        have x2 : yy_up (yy_up τ1 58 fd (nI k)) 59 fd (pp_i (A k)) 53 8 = nI fd := by simp [yy_upx, i2]
        simp only [tt_rF, tt_wA, tt_wF, i2, ff, x1, x2, mm_X3_findAnchors_115, tt_rt]
        refine ⟨pp_in fd14 (by decide), pp_in fd14 (by decide), Or.inl ⟨kb, by rw [nI_1], by omega, fd + 1, fun i => if i = fd + 1 then k + 1 else pl i, by omega, ?_, ⟨if_pos rfl, ?_, fun l l1 l2 => ?_, fun i hi => ?_⟩, fun i hi => ?_, fun q hq => ?_, fun x x1 x2 x3 => ?_⟩⟩
        · simp [yy_upx, nI_1]
        · show a ≤ if (0 : Nat) = fd + 1 then k + 1 else pl 0
          rw [if_neg (by omega)]
          exact i3.2.1
        · have l2 : l < if (0 : Nat) = fd + 1 then k + 1 else pl 0 := l2
          rw [if_neg (by omega)] at l2
          exact i3.2.2.1 l l1 l2
        · show a ≤ (if i = fd + 1 then k + 1 else pl i) ∧ (if i = fd + 1 then k + 1 else pl i) < (if i + 1 = fd + 1 then k + 1 else pl (i + 1)) ∧ A (if i = fd + 1 then k + 1 else pl i) ≠ 0 ∧ ∀ l, (if i = fd + 1 then k + 1 else pl i) < l → l < (if i + 1 = fd + 1 then k + 1 else pl (i + 1)) → A l = 0
          rw [if_neg (show ¬ i = fd + 1 by omega)]
          by_cases e : i = fd
          · subst e
            rw [if_pos rfl, i3.1]
            exact ⟨ak, by omega, z, fun l l1 l2 => by omega⟩
          · rw [if_neg (by omega)]
            exact i3.2.2.2 i (by omega)
        · show _ = nI (if i = fd + 1 then k + 1 else pl i) ∧ _ = nI (A (if i = fd + 1 then k + 1 else pl i) - 1)
          rw [if_neg (show ¬ i = fd + 1 by omega)]
          simp only [yy_upx]
          by_cases e : i = fd
          · subst e
            rw [i3.1]
            simp [pp_i, z]
          · simp [e]
            exact i4 i (by omega)
        · rw [← i5 q hq]
          simp [yy_upx, hq]
        · rw [← i6 x x1 x2 x3]
          funext l
          simp [yy_upx, x1, x2, x3]
/-- the longest run from each anchor on -/
def pp_RI (τ : yy_T) (A : Nat → Nat) (b lo fd : Nat) (pl : Nat → Nat) : Prop := ∀ i, lo ≤ i → i < fd → τ 60 i = nI (pp_G A b (A (pl i)) (pl i + 1) + 1)
theorem pp_pl_gap {A : Nat → Nat} {a b fd i x : Nat} {pl : Nat → Nat} (h : pp_pl A a b fd pl) (hi : i < fd) : pp_G A b x (pl i + 1) = pp_G A b x (pl (i + 1)) := by
  obtain ⟨h1, h2, h3, h4⟩ := h.2.2.2 i hi
  have h5 := pp_pl_le h _ (i + 1) (Nat.le_refl _) (by omega)
  exact pp_G_gap _ _ _ (Nat.le_refl _) (by omega) (by omega) (fun k k1 k2 => h4 k (by omega) k2)
theorem pp_measureRuns {τ : yy_T} {A : Nat → Nat} {a b d fd : Nat} {pl : Nat → Nat} (hb : b ≤ 14) (hd : d ≤ 14) (hA : ∀ k, A k ≤ d) (f14 : fd ≤ 14) (h8 : τ 53 8 = nI fd) (hp : pp_pl A a b fd pl) (hN : pp_AN τ A fd pl) : tt mm_X3_measureRuns τ (fun r τ1 => r = nI (pp_G A b 0 a) ∧ pp_RI τ1 A b 0 fd pl ∧ ∀ x, x ≠ 60 → τ1 x = τ x) := by
  have ga : pp_G A b 0 a = pp_G A b 0 (pl 0) := by
    have h5 := pp_pl_le hp _ 0 (Nat.le_refl _) (by omega)
    exact pp_G_gap _ _ _ (Nat.le_refl _) hp.2.1 (by omega) hp.2.2.1
  simp only [mm_X3_measureRuns, tt_rF, h8, mm_X3_measureRuns_9, tt_cl]
  have start : pp_G A b 0 (pl fd) = 0 := by
    rw [hp.1]
    exact pp_G_e (Nat.lt_irrefl _)
  suffices h : tt (yy_lp (fun (w : Int32 × Int32) => mm_X3_measureRuns_9b w.1 w.2) (nI (pp_G A b 0 (pl fd)), nI fd - 1)) τ (fun w τ1 => tt (mm_X3_measureRuns_93 w) τ1 (fun r τ1 => r = nI (pp_G A b 0 a) ∧ pp_RI τ1 A b 0 fd pl ∧ ∀ x, x ≠ 60 → τ1 x = τ x)) by
    rw [start] at h
    exact h
  refine tt_dnx (fun k (_ : Unit) => (nI (pp_G A b 0 (pl k)), nI k - 1)) (fun k _ τ1 => k ≤ fd ∧ pp_RI τ1 A b k fd pl ∧ ∀ x, x ≠ 60 → τ1 x = τ x) (fun _ τ1 hI => ?_) (fun k _ τ1 hI => ?_) fd () τ ⟨Nat.le_refl _, fun i i1 i2 => by omega, fun x _ => rfl⟩
  · obtain ⟨-, q1, q2⟩ := hI
    simp only [mm_X3_measureRuns_9b, tt_br, tt_rt]
    refine ⟨fun _ => ⟨_, rfl, ?_⟩, fun q => absurd (by decide) q⟩
    simp only [mm_X3_measureRuns_93, tt_rt]
    exact ⟨by rw [ga], q1, q2⟩
  · obtain ⟨q0, q1, q2⟩ := hI
    obtain ⟨g1, g2, g3, g4⟩ := hp.2.2.2 k (by omega)
    have gk := pp_pl_le hp _ k (Nat.le_refl _) (by omega)
    have G0 : pp_G A b 0 (pl k) = max (pp_G A b (A (pl k)) (pl k + 1) + 1) (pp_G A b 0 (pl (k + 1))) := by
      rw [pp_G_s (by omega) (by omega), pp_pl_gap (x := 0) hp (by omega)]
    have gb1 := pp_G_b (A := A) (b := b) (x := A (pl k)) (i := pl k + 1)
    have gb0 := pp_G_b (A := A) (b := b) (x := 0) (i := pl (k + 1))
    have nk : ¬ nI k < 0 := nI_pos (by omega)
    have kk : (nI k).toNatClampNeg = k := nI_clamp (by omega)
    simp only [nI_pred, mm_X3_measureRuns_9b, tt_br, tt_rt, tt_wA, kk, mm_X3_measureRuns_24, tt_cl]
    refine ⟨fun q => absurd q nk, fun _ => ⟨pp_in (by omega) (by decide), ?_⟩⟩
    rw [nI_1]
    refine tt_up fd (fun m τ2 => k + 1 ≤ m ∧ (∃ acc, (1 ≤ acc ∧ acc ≤ b + 1) ∧ τ2 60 k = nI acc ∧ max acc (pp_G A b (A (pl k)) (pl m) + 1) = pp_G A b (A (pl k)) (pl k + 1) + 1) ∧ pp_RI τ2 A b (k + 1) fd pl ∧ ∀ x, x ≠ 60 → τ2 x = τ x) (fun m τ2 hm hI => ?_) (k + 1) _ (by omega) ⟨Nat.le_refl _, ⟨1, by omega, by simp [yy_upx]; rfl, ?_⟩, fun i i1 i2 => ?_, fun x hx => ?_⟩
    · obtain ⟨m0, ⟨acc, m1, m2, m3⟩, m4, m5⟩ := hI
      have e8 : τ2 53 8 = nI fd := by rw [m5 53 (by decide)]; exact h8
      simp only [mm_X3_measureRuns_24b, tt_rF, tt_br, tt_rt, tt_rA, e8, kk]
      rw [nI_leI (by omega) (by omega)]
      refine ⟨fun q => Or.inr ⟨(), by trivial, ?_⟩, fun q => ?_⟩
      · simp only [mm_X3_measureRuns_76, tt_rA, tt_rt, kk, m2]
        have em : m = fd := by omega
        rw [em, hp.1, pp_G_e (Nat.lt_irrefl b)] at m3
        have ev : acc = pp_G A b (A (pl k)) (pl k + 1) + 1 := by omega
        refine ⟨pp_in (by omega) (by decide), Or.inl ⟨(), ?_, by omega, fun i i1 i2 => ?_, m5⟩⟩
        · have lt : nI (pp_G A b 0 (pl (k + 1))) < nI acc ↔ pp_G A b 0 (pl (k + 1)) < acc := nI_ltI (by omega) (by omega)
          have vv : (if nI (pp_G A b 0 (pl (k + 1))) < nI acc then nI acc else nI (pp_G A b 0 (pl (k + 1)))) = nI (pp_G A b 0 (pl k)) := by
            rw [G0]
            by_cases z : pp_G A b 0 (pl (k + 1)) < acc
            · rw [if_pos (lt.mpr z)]
              congr 1
              omega
            · rw [if_neg (fun y => z (lt.mp y))]
              congr 1
              omega
          rw [vv, ← Int32.sub_eq_add_neg]
        · by_cases e : i = k
          · rw [e, m2, ev]
          · exact m4 i (by omega) i2
      · obtain ⟨f1, f2, f3, f4⟩ := hp.2.2.2 m (by omega)
        have fm := pp_pl_le hp _ m (Nat.le_refl _) (by omega)
        have mm : (nI m).toNatClampNeg = m := nI_clamp (by omega)
        have v3 : τ2 59 m = nI (A (pl m) - 1) := by rw [m5 59 (by decide)]; exact (hN m (by omega)).2
        have v4 : τ2 59 k = nI (A (pl k) - 1) := by rw [m5 59 (by decide)]; exact (hN k (by omega)).2
        have d1 := hA (pl m)
        have d2 := hA (pl k)
        have v6 := m4 m (by omega) (by omega)
        have gbm := pp_G_b (A := A) (b := b) (x := A (pl m)) (i := pl m + 1)
        have gap := pp_pl_gap (x := A (pl k)) hp (show m < fd by omega)
        rw [mm, v3, v4, m2, v6, nI_leI (by omega) (by omega)]
        refine ⟨pp_in (by omega) (by decide), pp_in (by omega) (by decide), fun z => ?_, fun z => ⟨pp_in (by omega) (by decide), pp_in (by omega) (by decide), ?_⟩⟩
        · simp only [mm_X3_measureRuns_70, tt_rt]
          refine Or.inl ⟨by omega, by rw [nI_1], by omega, ⟨acc, m1, m2, ?_⟩, m4, m5⟩
          rw [← gap, ← pp_G_n (by omega) (by omega)]
          exact m3
        · have Gs := pp_G_s (A := A) (b := b) (x := A (pl k)) (i := pl m) (by omega) (by omega)
          rw [gap] at Gs
          simp only [tt_wA, kk, mm_X3_measureRuns_70, tt_rt]
          have lt : nI acc < nI (pp_G A b (A (pl m)) (pl m + 1) + 1 + 1) ↔ acc < pp_G A b (A (pl m)) (pl m + 1) + 1 + 1 := nI_ltI (by omega) (by omega)
          have vv : (if nI acc < nI (pp_G A b (A (pl m)) (pl m + 1) + 1) + 1 then nI (pp_G A b (A (pl m)) (pl m + 1) + 1) + 1 else nI acc) = nI (max acc (pp_G A b (A (pl m)) (pl m + 1) + 1 + 1)) := by
            rw [nI_1]
            by_cases y : acc < pp_G A b (A (pl m)) (pl m + 1) + 1 + 1
            · rw [if_pos (lt.mpr y)]
              congr 1
              omega
            · rw [if_neg (fun z => y (lt.mp z))]
              congr 1
              omega
          rw [vv]
          refine ⟨pp_in (by omega) (by decide), Or.inl ⟨by omega, by rw [nI_1], by omega, ⟨max acc (pp_G A b (A (pl m)) (pl m + 1) + 1 + 1), by omega, ?_, by omega⟩, fun i i1 i2 => ?_, fun x hx => ?_⟩⟩
          · simp only [yy_upx, if_true]
          · simp only [yy_upx, if_true]
            rw [if_neg (by omega)]
            exact m4 i i1 i2
          · rw [← m5 x hx]
            funext l
            simp [yy_upx, hx]
    · rw [pp_pl_gap hp (by omega)]
      omega
    · simp only [yy_upx, if_true]
      rw [if_neg (by omega)]
      exact q1 i i1 i2
    · rw [← q2 x hx]
      funext l
      simp [yy_upx, hx]
