/-! THE CLASS'S KEEPER: ends, anchors, runs -/
def pp_i (x : Nat) : Int32 := if x = 0 then -1 else nI (x - 1)
theorem pp_i_0 {x : Nat} (h : x ≤ 14) : pp_i x = -1 ↔ x = 0 := by
  unfold pp_i
  by_cases e : x = 0
  · rw [if_pos e]
    exact ⟨fun _ => e, fun _ => rfl⟩
  · rw [if_neg e]
    exact ⟨fun q => absurd q (pp_neg1 (by omega)), fun q => absurd q e⟩
theorem pp_i_s (x : Nat) : pp_i (x + 1) = nI x := by
  unfold pp_i
  rw [if_neg (by omega), Nat.add_sub_cancel]
/-- a loop without a state of its own -/
theorem tt_un {R : Type} {b : Unit → yy_M (Unit ⊕ R)} {Q : R → yy_T → Prop} (I : Nat → yy_T → Prop) (step : ∀ n τ, I n τ → tt (b ()) τ (fun y τ1 => (∃ m, m < n ∧ y = .inl () ∧ I m τ1) ∨ ∃ r, y = .inr r ∧ Q r τ1)) : ∀ n τ, I n τ → tt (yy_lp b ()) τ Q := by
  have key : ∀ (N n : Nat) (τ : yy_T), n < N → I n τ → tt (yy_lp b ()) τ Q := by
    intro N
    induction N with
    | zero => intro n τ h; omega
    | succ N ih =>
      intro n τ hn hI
      obtain ⟨y, τ1, hb, hq⟩ := step n τ hI
      rcases hq with ⟨m, hm, rfl, hI1⟩ | ⟨r, rfl, hr⟩
      · obtain ⟨r, τ2, h1, h2⟩ := ih m τ1 (by omega) hI1
        exact ⟨r, τ2, by rw [yy_lp_eq, hb]; exact h1, h2⟩
      · exact ⟨r, τ1, by rw [yy_lp_eq, hb], hr⟩
  exact fun n τ h => key (n + 1) n τ (Nat.lt_succ_self _) h
theorem pp_areAlikeC {τ : yy_T} {o n : pp_Ed} (h : pp_KN τ o n) (ho : o.1 ≤ 14) (hn : n.1 ≤ 14) {i j : Nat} (hi : i < 2 ^ 31) (hj : j < 2 ^ 31) : mm_X4_areAlike (nI i) (nI j) τ = some (pp_b (i < o.1 ∧ j < n.1 ∧ pp_EL o n i j = true), τ) := by
  obtain ⟨h1, h2, h3, -⟩ := h
  apply tt_of
  simp only [mm_X4_areAlike, tt_br, tt_rF, tt_rA, tt_rt, h1, h2]
  rw [nI_leI (by omega) hi, nI_leI (by omega) hj, nI_clamp hi, nI_clamp hj]
  refine ⟨fun q => absurd q (nI_pos hi), fun _ => ⟨fun q => ⟨(pp_b_f (fun z => by omega)).symm, by trivial⟩, fun q => ⟨fun q2 => absurd q2 (nI_pos hj), fun _ => ⟨fun q2 => ⟨(pp_b_f (fun z => by omega)).symm, by trivial⟩, fun q2 => ⟨pp_in (by omega) (by decide), pp_in (by omega) (by decide), ?_⟩⟩⟩⟩⟩
  rw [h3 i j (by omega) (by omega)]
  exact ⟨fun z => ⟨(pp_b_t ⟨by omega, by omega, z⟩).symm, by trivial⟩, fun z => ⟨(pp_b_f (fun y => z y.2.2)).symm, by trivial⟩⟩
theorem pp_onlyPlace {τ : yy_T} {a1 c d : Nat} {x0 : Int32} {p : Nat → Bool} (hlen : yy_len a1 = 14) (hd : d ≤ 14) (hc : c ≤ 14) (hp : ∀ l, c ≤ l → l < d → (τ a1 l = x0 ↔ p l = true)) : mm_X3_onlyPlace x0 a1 (nI c) (nI d) τ = some (pp_i (pp_on p c d 0), τ) := by
  apply tt_of
  simp only [mm_X3_onlyPlace, mm_X3_onlyPlace_6, tt_cl]
  refine tt_upx 14 (fun k (acc : Nat) => (pp_i acc, nI k)) (fun k acc τ1 => τ1 = τ ∧ c ≤ k ∧ acc ≤ 14 ∧ pp_on p k d acc = pp_on p c d 0) (fun k acc τ1 hk hI => ?_) c 0 τ hc ⟨rfl, Nat.le_refl _, by omega, rfl⟩
  obtain ⟨rfl, i1, i2, i3⟩ := hI
  simp only [mm_X3_onlyPlace_6b, tt_br, tt_rt, tt_rA, hlen]
  rw [nI_leI (by omega) (by omega), nI_clamp (by omega), pp_i_0 i2]
  refine ⟨fun q => Or.inr ⟨.inl (pp_i acc), by trivial, ?_⟩, fun q => ⟨pp_in (by omega) (by decide), ?_⟩⟩
  · simp only [Sum.elim, mm_X3_onlyPlace_38, tt_rt]
    rw [pp_on_e (by omega)] at i3
    exact ⟨by rw [i3], by trivial⟩
  · rw [hp k i1 (by omega)]
    refine ⟨fun z => ⟨fun z2 => ?_, fun z2 => Or.inr ⟨.inr (), by trivial, ?_⟩⟩, fun z => ?_⟩
    · simp only [mm_X3_onlyPlace_32, tt_rt]
      refine Or.inl ⟨by omega, k + 1, by rw [pp_i_s, nI_1], by trivial, by omega, by omega, ?_⟩
      rw [z2, pp_on_1 (by omega) z] at i3
      exact i3
    · simp only [Sum.elim, mm_X3_onlyPlace_26, tt_rt]
      rw [pp_on_2 (by omega) z z2] at i3
      rw [← i3]
      exact ⟨rfl, by trivial⟩
    · simp only [mm_X3_onlyPlace_32, tt_rt]
      refine Or.inl ⟨by omega, acc, by rw [nI_1], by trivial, by omega, i2, ?_⟩
      rw [pp_on_n (by omega) z] at i3
      exact i3
/-- a range as the keeper's rows hold it -/
def pp_R (τ : yy_T) (r a b c d : Nat) : Prop := τ 54 r = nI a ∧ τ 55 r = nI b ∧ τ 56 r = nI c ∧ τ 57 r = nI d
def pp_Fr (K : List (Nat × Nat)) (a b c d : Nat) : Prop := ∀ p ∈ K, ¬ (a ≤ p.1 ∧ p.1 < b) ∧ ¬ (c ≤ p.2 ∧ p.2 < d)
theorem pp_Fr.sub {K : List (Nat × Nat)} {a b c d a1 b1 c1 d1 : Nat} (h : pp_Fr K a b c d) (h1 : a ≤ a1) (h2 : b1 ≤ b) (h3 : c ≤ c1) (h4 : d1 ≤ d) : pp_Fr K a1 b1 c1 d1 := fun p hp => ⟨fun q => (h p hp).1 (by omega), fun q => (h p hp).2 (by omega)⟩
theorem pp_Fr.cons {K : List (Nat × Nat)} {a b c d i j : Nat} (h : pp_Fr K a b c d) (h1 : ¬ (a ≤ i ∧ i < b)) (h2 : ¬ (c ≤ j ∧ j < d)) : pp_Fr ((i, j) :: K) a b c d := by
  intro p hp
  rcases List.mem_cons.mp hp with rfl | hp
  · exact ⟨h1, h2⟩
  · exact h p hp
theorem pp_Fr.ne {K : List (Nat × Nat)} {a b c d i j : Nat} (h : pp_Fr K a b c d) (h1 : a ≤ i ∧ i < b) (h2 : c ≤ j ∧ j < d) : ∀ p ∈ K, p.1 ≠ i ∧ p.2 ≠ j := fun p hp => ⟨fun q => (h p hp).1 (by rw [q]; exact h1), fun q => (h p hp).2 (by rw [q]; exact h2)⟩
def pp_KS (τ : yy_T) (k0 : Nat) (o n : pp_Ed) (D : pp_D) (K : List (Nat × Nat)) : Prop := pp_KN τ o n ∧ pp_DC τ k0 D ∧ pp_CP τ k0 D ∧ pp_RK D K
theorem pp_CP.of {τ τ1 : yy_T} {k0 : Nat} {D : pp_D} (h : pp_CP τ k0 D) (e : τ1 (k0 + 10) = τ (k0 + 10)) : pp_CP τ1 k0 D := by
  unfold pp_CP
  rw [e]
  exact h
theorem pp_KS.of {τ τ1 : yy_T} {k0 : Nat} {o n : pp_Ed} {D : pp_D} {K : List (Nat × Nat)} (h : pp_KS τ k0 o n D K) (e : ∀ a, (a < 53 ∨ 61 ≤ a) → τ1 a = τ a) (hk : 61 ≤ k0) : pp_KS τ1 k0 o n D K := ⟨h.1.of (e _ (by omega)) (e _ (by omega)) (e _ (by omega)), h.2.1.of (fun a _ _ => e a (by omega)), h.2.2.1.of (e _ (by omega)), h.2.2.2⟩
/-- a couple more is kept -/
theorem pp_KS.join {τ : yy_T} {k0 i j : Nat} {o n : pp_Ed} {D : pp_D} {K : List (Nat × Nat)} (h : pp_KS τ k0 o n D K) (hk : 61 ≤ k0) (hi : i < 14) (hj : j < 14) (hf : ∀ p ∈ K, p.1 ≠ i ∧ p.2 ≠ j) : tt (mm_X8_join k0 0 (nI i) (nI j) (-1)) τ (fun _ τ1 => pp_KS τ1 k0 o n (pp_jn D 0 i j (-1)) ((i, j) :: K) ∧ ∀ a, (a < k0 + 2 ∨ k0 + 11 ≤ a) → τ1 a = τ a) := by
  obtain ⟨h1, h2, h3, h4⟩ := h
  obtain ⟨l0, l1⟩ := h4.lo hi hj hf
  refine tt_mono (pp_join (as := 0) h2 h3 (by decide) hi hj l0 l1) (fun _ τ1 q => ?_)
  exact ⟨⟨h1.of (q.2.2 _ (by omega)) (q.2.2 _ (by omega)) (q.2.2 _ (by omega)), q.1, q.2.1, h4.jn hf⟩, q.2.2⟩
/-- a range whose ends are being kept -/
def pp_KE (τ τ1 : yy_T) (k0 : Nat) (o n : pp_Ed) (K : List (Nat × Nat)) (r a b c d : Nat) (D1 : pp_D) (K1 : List (Nat × Nat)) (a1 b1 c1 d1 : Nat) : Prop :=
  pp_KS τ1 k0 o n D1 K1 ∧ pp_R τ1 r a1 b1 c1 d1 ∧ (a ≤ a1 ∧ a1 ≤ b1 ∧ b1 ≤ b ∧ c ≤ c1 ∧ c1 ≤ d1 ∧ d1 ≤ d) ∧ pp_Fr K1 a1 b1 c1 d1 ∧ (∀ p, (p ∈ K1 ∨ p ∈ pp_KK (pp_EL o n) (pp_EL o o) a1 b1 c1 d1) ↔ (p ∈ K ∨ p ∈ pp_KK (pp_EL o n) (pp_EL o o) a b c d)) ∧ (∀ p ∈ K1, p ∈ K ∨ pp_inR a b c d p) ∧ pp_tr (pp_EL o n) a1 b1 c1 d1 = pp_tr (pp_EL o n) a b c d ∧ (∀ q, q ≠ r → τ1 54 q = τ 54 q ∧ τ1 55 q = τ 55 q ∧ τ1 56 q = τ 56 q ∧ τ1 57 q = τ 57 q) ∧ ∀ x, (x < 54 ∨ (58 ≤ x ∧ x < k0 + 2) ∨ k0 + 11 ≤ x) → τ1 x = τ x
theorem pp_keepEnds {τ : yy_T} {k0 r a b c d : Nat} {o n : pp_Ed} {D : pp_D} {K : List (Nat × Nat)} (hk : 61 ≤ k0) (S : pp_KS τ k0 o n D K) (hr : r < 14) (hR : pp_R τ r a b c d) (o14 : o.1 ≤ 14) (n14 : n.1 ≤ 14) (hb : b ≤ o.1) (hd : d ≤ n.1) (hab : a ≤ b) (hcd : c ≤ d) (hF : pp_Fr K a b c d) : tt (mm_X3_keepEnds (nI r) k0) τ (fun _ τ1 => ∃ D1 K1 a1 b1 c1 d1, pp_KE τ τ1 k0 o n K r a b c d D1 K1 a1 b1 c1 d1 ∧ (¬ (a1 < b1 ∧ c1 < d1) ∨ (¬ pp_EL o n a1 c1 = true ∧ ¬ pp_EL o n (b1 - 1) (d1 - 1) = true))) := by
  have rr : (nI r).toNatClampNeg = r := nI_clamp (by omega)
  have ir : yy_in (nI r) 14 = true := pp_in hr (by decide)
  simp only [mm_X3_keepEnds, mm_X3_keepEnds_0, tt_cl]
  refine tt_un (fun m τ1 => ∃ D1 K1 a1 c1, m = b - a1 ∧ pp_KE τ τ1 k0 o n K r a b c d D1 K1 a1 b c1 d) (fun m τ1 hI => ?_) (b - a) τ ⟨D, K, a, c, rfl, S, hR, by omega, hF, fun p => Iff.rfl, fun p hp => Or.inl hp, rfl, fun q _ => ⟨rfl, rfl, rfl, rfl⟩, fun x _ => rfl⟩
  obtain ⟨D1, K1, a1, c1, rfl, i1, ⟨r1, r2, r3, r4⟩, i3, i4, i5, i6, i7, i8, i9⟩ := hI
  simp only [mm_X3_keepEnds_0b, tt_rA, tt_br, tt_rt, rr, r1, r2, r3, r4, ir, true_and]
  rw [nI_leI (by omega) (by omega), nI_leI (by omega) (by omega), tt_cle (pp_areAlikeC i1.1 o14 n14 (by omega) (by omega)), tt_br, tt_rt, pp_b_0]
  have next : (¬ (a1 < b ∧ c1 < d) ∨ ¬ pp_EL o n a1 c1 = true) → tt (mm_X3_keepEnds_90 (nI r) k0) τ1 (fun _ τ2 => ∃ D1 K1 a1 b1 c1 d1, pp_KE τ τ2 k0 o n K r a b c d D1 K1 a1 b1 c1 d1 ∧ (¬ (a1 < b1 ∧ c1 < d1) ∨ (¬ pp_EL o n a1 c1 = true ∧ ¬ pp_EL o n (b1 - 1) (d1 - 1) = true))) := by
    intro hend
    simp only [mm_X3_keepEnds_90, tt_cl]
    refine tt_un (fun m τ2 => ∃ D2 K2 b2 d2, m = b2 - a1 ∧ pp_KE τ τ2 k0 o n K r a b c d D2 K2 a1 b2 c1 d2 ∧ (¬ (a1 < b2 ∧ c1 < d2) ∨ ¬ pp_EL o n a1 c1 = true)) (fun m τ2 hI => ?_) (b - a1) τ1 ⟨D1, K1, b, d, rfl, ⟨i1, ⟨r1, r2, r3, r4⟩, i3, i4, i5, i6, i7, i8, i9⟩, hend⟩
    obtain ⟨D2, K2, b2, d2, rfl, ⟨j1, ⟨s1, s2, s3, s4⟩, j3, j4, j5, j6, j7, j8, j9⟩, hend2⟩ := hI
    simp only [mm_X3_keepEnds_90b, tt_rA, tt_br, tt_rt, rr, s1, s2, s3, s4, ir, true_and]
    rw [nI_leI (by omega) (by omega), nI_leI (by omega) (by omega)]
    have stop : (¬ (a1 < b2 ∧ c1 < d2) ∨ (¬ pp_EL o n a1 c1 = true ∧ ¬ pp_EL o n (b2 - 1) (d2 - 1) = true)) → tt mm_X3_keepEnds_184 τ2 (fun _ τ2 => ∃ D1 K1 a1 b1 c1 d1, pp_KE τ τ2 k0 o n K r a b c d D1 K1 a1 b1 c1 d1 ∧ (¬ (a1 < b1 ∧ c1 < d1) ∨ (¬ pp_EL o n a1 c1 = true ∧ ¬ pp_EL o n (b1 - 1) (d1 - 1) = true))) := by
      intro hs
      simp only [mm_X3_keepEnds_184, tt_rt]
      exact ⟨D2, K2, a1, b2, c1, d2, ⟨j1, ⟨s1, s2, s3, s4⟩, j3, j4, j5, j6, j7, j8, j9⟩, hs⟩
    refine ⟨fun q => Or.inr ⟨(), stop (Or.inl (by omega))⟩, fun q => ⟨fun q2 => Or.inr ⟨(), stop (Or.inl (by omega))⟩, fun q2 => ?_⟩⟩
    have hE1 : ¬ pp_EL o n a1 c1 = true := by
      rcases hend2 with z | z
      · exact absurd (by omega) z
      · exact z
    rw [show (1 : Int32) = nI 1 by rfl, nI_sub (by omega), nI_sub (by omega), tt_cle (pp_areAlikeC j1.1 o14 n14 (by omega) (by omega)), tt_br, tt_rt, pp_b_0]
    refine ⟨fun q3 => Or.inr ⟨(), by trivial, stop (Or.inr ⟨hE1, fun z => q3 ⟨by omega, by omega, z⟩⟩)⟩, fun q3 => ?_⟩
    have hE2 : pp_EL o n (b2 - 1) (d2 - 1) = true := (Classical.not_not.mp q3).2.2
    simp only [tt_rA, tt_wA, rr, ir, true_and, tt_cl]
    have y1 : yy_up (yy_up τ2 55 r (nI (b2 - 1))) 57 r (yy_up τ2 55 r (nI (b2 - 1)) 57 r - nI 1) 55 r = nI (b2 - 1) := by simp [yy_upx]
    have y0 : yy_up τ2 55 r (nI (b2 - 1)) 57 r - nI 1 = nI (d2 - 1) := by
      have : yy_up τ2 55 r (nI (b2 - 1)) 57 r = nI d2 := by simp [yy_upx, s4]
      rw [this, nI_sub (by omega)]
    rw [s2, nI_sub (by omega), y1, y0]
    have y2 : yy_up (yy_up τ2 55 r (nI (b2 - 1))) 57 r (nI (d2 - 1)) 57 r = nI (d2 - 1) := by simp [yy_upx]
    rw [y2]
    generalize hτ3 : yy_up (yy_up τ2 55 r (nI (b2 - 1))) 57 r (nI (d2 - 1)) = τ3
    have f3 : ∀ x, x ≠ 55 → x ≠ 57 → τ3 x = τ2 x := fun x x1 x2 => by
      rw [← hτ3]
      funext l
      simp [yy_upx, x1, x2]
    have g55 : τ3 55 r = nI (b2 - 1) := by rw [← hτ3]; simp [yy_upx]
    have g57 : τ3 57 r = nI (d2 - 1) := by rw [← hτ3]; simp [yy_upx]
    have h55 : ∀ q, q ≠ r → τ3 55 q = τ2 55 q ∧ τ3 57 q = τ2 57 q := fun q hq => by rw [← hτ3]; simp [yy_upx, hq]
    have S3 : pp_KS τ3 k0 o n D2 K2 := j1.of (fun x hx => f3 x (by omega) (by omega)) hk
    refine tt_mono (S3.join hk (i := b2 - 1) (j := d2 - 1) (by omega) (by omega) (j4.ne (by omega) (by omega))) (fun _ τ4 z => ?_)
    obtain ⟨z1, z2⟩ := z
    rw [tt_rt]
    refine Or.inl ⟨b2 - 1 - a1, by omega, by trivial, _, (b2 - 1, d2 - 1) :: K2, b2 - 1, d2 - 1, rfl, ⟨z1, ⟨?_, ?_, ?_, ?_⟩, by omega, (j4.sub (Nat.le_refl _) (by omega) (Nat.le_refl _) (by omega)).cons (by omega) (by omega), fun p => ?_, fun p hp => ?_, ?_, fun q hq => ?_, fun x hx => ?_⟩, Or.inr hE1⟩
    · rw [z2 54 (by omega), f3 54 (by decide) (by decide)]
      exact s1
    · rw [z2 55 (by omega)]
      exact g55
    · rw [z2 56 (by omega), f3 56 (by decide) (by decide)]
      exact s3
    · rw [z2 57 (by omega)]
      exact g57
    · rw [← j5 p, pp_KK_t (a := a1) (b := b2) (c := c1) (d := d2) (by omega) (by omega) hE1 hE2, List.mem_cons, List.mem_cons]
      exact ⟨fun y => y.elim (fun y => y.elim (fun y => Or.inr (Or.inl y)) Or.inl) (fun y => Or.inr (Or.inr y)), fun y => y.elim (fun y => Or.inl (Or.inr y)) (fun y => y.elim (fun y => Or.inl (Or.inl y)) Or.inr)⟩
    · rcases List.mem_cons.mp hp with rfl | hp
      · refine Or.inr ?_
        show a ≤ b2 - 1 ∧ b2 - 1 < b ∧ c ≤ d2 - 1 ∧ d2 - 1 < d
        omega
      · exact j6 p hp
    · rw [← j7, pp_tr_t (a := a1) (b := b2) (c := c1) (d := d2) (by omega) hE1 hE2]
    · rw [z2 54 (by omega), z2 55 (by omega), z2 56 (by omega), z2 57 (by omega), f3 54 (by decide) (by decide), f3 56 (by decide) (by decide), (h55 q hq).1, (h55 q hq).2]
      exact j8 q hq
    · rw [z2 x (by omega), f3 x (by omega) (by omega)]
      exact j9 x hx
  refine ⟨fun q => Or.inr ⟨(), next (Or.inl (by omega))⟩, fun q => ⟨fun q2 => Or.inr ⟨(), next (Or.inl (by omega))⟩, fun q2 => ⟨fun q3 => Or.inr ⟨(), by trivial, next (Or.inr (fun z => q3 ⟨by omega, by omega, z⟩))⟩, fun q3 => ?_⟩⟩⟩
  have hE : pp_EL o n a1 c1 = true := (Classical.not_not.mp q3).2.2
  simp only [tt_rA, rr, ir, true_and, tt_cl, r1, r3]
  refine tt_mono (i1.join hk (i := a1) (j := c1) (by omega) (by omega) (i4.ne (by omega) (by omega))) (fun _ τ2 z => ?_)
  obtain ⟨z1, z2⟩ := z
  simp only [tt_wA, tt_rA, tt_rt, rr, ir, true_and]
  have y0 : τ2 54 r = nI a1 := by rw [z2 54 (by omega)]; exact r1
  have y1 : yy_up τ2 54 r (nI (a1 + 1)) 56 r = nI c1 := by
    have : τ2 56 r = nI c1 := by rw [z2 56 (by omega)]; exact r3
    simp [yy_upx, this]
  rw [y0, nI_1, y1, nI_1]
  generalize hτ3 : yy_up (yy_up τ2 54 r (nI (a1 + 1))) 56 r (nI (c1 + 1)) = τ3
  have f3 : ∀ x, x ≠ 54 → x ≠ 56 → τ3 x = τ2 x := fun x x1 x2 => by
    rw [← hτ3]
    funext l
    simp [yy_upx, x1, x2]
  have g54 : τ3 54 r = nI (a1 + 1) := by rw [← hτ3]; simp [yy_upx]
  have g56 : τ3 56 r = nI (c1 + 1) := by rw [← hτ3]; simp [yy_upx]
  have h54 : ∀ q, q ≠ r → τ3 54 q = τ2 54 q ∧ τ3 56 q = τ2 56 q := fun q hq => by rw [← hτ3]; simp [yy_upx, hq]
  refine Or.inl ⟨b - (a1 + 1), by omega, _, (a1, c1) :: K1, a1 + 1, c1 + 1, rfl, z1.of (fun x hx => f3 x (by omega) (by omega)) hk, ⟨g54, ?_, g56, ?_⟩, by omega, (i4.sub (by omega) (Nat.le_refl _) (by omega) (Nat.le_refl _)).cons (by omega) (by omega), fun p => ?_, fun p hp => ?_, ?_, fun q hq => ?_, fun x hx => ?_⟩
  · rw [f3 55 (by decide) (by decide), z2 55 (by omega)]
    exact r2
  · rw [f3 57 (by decide) (by decide), z2 57 (by omega)]
    exact r4
  · rw [← i5 p, pp_KK_h (a := a1) (b := b) (c := c1) (d := d) (by omega) (by omega) hE, List.mem_cons, List.mem_cons]
    exact ⟨fun y => y.elim (fun y => y.elim (fun y => Or.inr (Or.inl y)) Or.inl) (fun y => Or.inr (Or.inr y)), fun y => y.elim (fun y => Or.inl (Or.inr y)) (fun y => y.elim (fun y => Or.inl (Or.inl y)) Or.inr)⟩
  · rcases List.mem_cons.mp hp with rfl | hp
    · refine Or.inr ?_
      show a ≤ a1 ∧ a1 < b ∧ c ≤ c1 ∧ c1 < d
      omega
    · exact i6 p hp
  · rw [← i7, pp_tr_h (a := a1) (b := b) (c := c1) (d := d) (by omega) hE]
  · rw [f3 55 (by decide) (by decide), f3 57 (by decide) (by decide), (h54 q hq).1, (h54 q hq).2, z2 54 (by omega), z2 55 (by omega), z2 56 (by omega), z2 57 (by omega)]
    exact i8 q hq
  · rw [f3 x (by omega) (by omega), z2 x (by omega)]
    exact i9 x hx
