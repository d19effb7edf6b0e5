/-! THE CLASS'S KEEPER: the run is kept -/
def pp_AA (o n : pp_Ed) (a b c d : Nat) : Nat → Nat := pp_A (pp_EL o n) (pp_EL o o) a b c d
def pp_PP (o n : pp_Ed) (a b c d k x f : Nat) : List (Nat × Nat) := pp_P (pp_KK (pp_EL o n) (pp_EL o o)) (pp_AA o n a b c d) b c d k x f
theorem pp_keepRun {τ : yy_T} {k0 r a b c d fd : Nat} {o n : pp_Ed} {D : pp_D} {K : List (Nat × Nat)} {L : List pp_N4} {pl : Nat → Nat} (hk : 61 ≤ k0) (S : pp_KS τ k0 o n D K) (hr : r < 14) (hR : pp_R τ r a b c d) (o14 : o.1 ≤ 14) (n14 : n.1 ≤ 14) (hb : b ≤ o.1) (hd : d ≤ n.1) (hab : a ≤ b) (hcd : c ≤ d) (hF : pp_Fr K a b c d) (h8 : τ 53 8 = nI fd) (f14 : fd ≤ 14) (hp : pp_pl (pp_AA o n a b c d) a b fd pl) (hN : pp_AN τ (pp_AA o n a b c d) fd pl) (hI : pp_RI τ (pp_AA o n a b c d) b 0 fd pl) (hg : pp_G (pp_AA o n a b c d) b 0 a ≠ 0) (hQ : pp_QS τ o n K (r + 1) L) (hdj : ∀ R ∈ L, pp_dj R (a, b, c, d)) (hs : r + pp_sm L + (b - a) ≤ 14) : tt (mm_X3_keepRun (nI r) (nI (pp_G (pp_AA o n a b c d) b 0 a)) k0) τ (fun _ τ1 => ∃ D1 K1 L1, pp_KS τ1 k0 o n D1 K1 ∧ pp_QS τ1 o n K1 (r + 1) L1 ∧ r + 1 + pp_sm L1 ≤ 14 ∧ (∀ p, (p ∈ K1 ∨ ∃ R ∈ L1, p ∈ pp_KR o n R) ↔ (p ∈ K ∨ (∃ R ∈ L, p ∈ pp_KR o n R) ∨ p ∈ pp_PP o n a b c d a 0 a)) ∧ ∀ x, (x < 53 ∨ (58 ≤ x ∧ x < k0 + 2) ∨ k0 + 11 ≤ x) → τ1 x = τ x) := by
  have rr : (nI r).toNatClampNeg = r := nI_clamp (by omega)
  have ir : yy_in (nI r) 14 = true := pp_in hr (by decide)
  have hA : ∀ k, pp_AA o n a b c d k ≠ 0 → c < pp_AA o n a b c d k ∧ pp_AA o n a b c d k ≤ d := fun k hk => pp_A_in hk
  unfold pp_PP
  generalize pp_AA o n a b c d = A at *
  have pl0 := pp_pl_le hp _ 0 (Nat.le_refl _) (by omega)
  have ga : pp_G A b 0 a = pp_G A b 0 (pl 0) := pp_G_gap _ _ _ (Nat.le_refl _) hp.2.1 (by omega) hp.2.2.1
  have gP : pp_P (pp_KK (pp_EL o n) (pp_EL o o)) A b c d a 0 a = pp_P (pp_KK (pp_EL o n) (pp_EL o o)) A b c d (pl 0) 0 a := pp_P_gap _ _ _ (Nat.le_refl _) hp.2.1 (by omega) hp.2.2.1
  simp only [mm_X3_keepRun, tt_rA, rr, ir, hR.1, hR.2.2.1, true_and, mm_X3_keepRun_22, tt_cl]
  suffices h : tt (yy_lp (fun (w : Int32 × Int32 × Int32 × Int32) => mm_X3_keepRun_22b (nI r) k0 w.1 w.2.1 w.2.2.1 w.2.2.2) (nI (pp_G A b 0 (pl 0)), nI a, nI (max c 0), nI 0)) τ (fun w τ1 => tt (mm_X3_keepRun_128 (nI r) w.1 w.2) τ1 (fun _ τ1 => ∃ D1 K1 L1, pp_KS τ1 k0 o n D1 K1 ∧ pp_QS τ1 o n K1 (r + 1) L1 ∧ r + 1 + pp_sm L1 ≤ 14 ∧ (∀ p, (p ∈ K1 ∨ ∃ R ∈ L1, p ∈ pp_KR o n R) ↔ (p ∈ K ∨ (∃ R ∈ L, p ∈ pp_KR o n R) ∨ p ∈ pp_P (pp_KK (pp_EL o n) (pp_EL o o)) A b c d a 0 a)) ∧ ∀ x, (x < 53 ∨ (58 ≤ x ∧ x < k0 + 2) ∨ k0 + 11 ≤ x) → τ1 x = τ x)) by
    rw [← ga, Nat.max_eq_left (Nat.zero_le c)] at h
    exact h
  refine tt_upx fd (fun k (s : Nat × Nat) => (nI (pp_G A b s.1 (pl k)), nI s.2, nI (max c s.1), nI k)) (fun k s τ1 => a ≤ s.2 ∧ s.2 ≤ pl k ∧ max c s.1 ≤ d ∧ ∃ D1 K1 L1, pp_KS τ1 k0 o n D1 K1 ∧ pp_R τ1 r a b c d ∧ pp_QS τ1 o n K1 (r + 1) L1 ∧ (∀ R ∈ L1, pp_dj R (s.2, b, max c s.1, d)) ∧ pp_Fr K1 s.2 b (max c s.1) d ∧ (∀ p, (p ∈ K1 ∨ (∃ R ∈ L1, p ∈ pp_KR o n R) ∨ p ∈ pp_P (pp_KK (pp_EL o n) (pp_EL o o)) A b c d (pl k) s.1 s.2) ↔ (p ∈ K ∨ (∃ R ∈ L, p ∈ pp_KR o n R) ∨ p ∈ pp_P (pp_KK (pp_EL o n) (pp_EL o o)) A b c d a 0 a)) ∧ (r + 1 + pp_sm L1 + (b - s.2) ≤ 14 ∨ (r + 1 + pp_sm L1 + (b - s.2) ≤ 15 ∧ pp_G A b s.1 (pl k) ≠ 0)) ∧ (∀ q, q ≠ 4 → τ1 53 q = τ 53 q) ∧ ∀ x, (x < 53 ∨ (58 ≤ x ∧ x < k0 + 2) ∨ k0 + 11 ≤ x) → τ1 x = τ x) (fun k s τ1 hk2 hJ => ?_) 0 (0, a) τ (Nat.zero_le _) ⟨Nat.le_refl _, hp.2.1, by rw [Nat.max_eq_left (Nat.zero_le c)]; exact hcd, D, K, L, S, hR, hQ, by rw [Nat.max_eq_left (Nat.zero_le c)]; exact hdj, by rw [Nat.max_eq_left (Nat.zero_le c)]; exact hF, fun p => by rw [gP], Or.inr ⟨by show r + 1 + pp_sm L + (b - a) ≤ 15; omega, by rw [← ga]; exact hg⟩, fun q _ => rfl, fun x _ => rfl⟩
  obtain ⟨x, f⟩ := s
  obtain ⟨j1, j2, j3, D1, K1, L1, s1, s2, s3, s4, s5, s6, s7, s8, s9⟩ := hJ
  have j1 : a ≤ f := j1
  have j2 : f ≤ pl k := j2
  have j3 : max c x ≤ d := j3
  have s4 : ∀ R ∈ L1, pp_dj R (f, b, max c x, d) := s4
  have s5 : pp_Fr K1 f b (max c x) d := s5
  have s6 : ∀ p, (p ∈ K1 ∨ (∃ R ∈ L1, p ∈ pp_KR o n R) ∨ p ∈ pp_P (pp_KK (pp_EL o n) (pp_EL o o)) A b c d (pl k) x f) ↔ (p ∈ K ∨ (∃ R ∈ L, p ∈ pp_KR o n R) ∨ p ∈ pp_P (pp_KK (pp_EL o n) (pp_EL o o)) A b c d a 0 a) := s6
  have s7 : r + 1 + pp_sm L1 + (b - f) ≤ 14 ∨ (r + 1 + pp_sm L1 + (b - f) ≤ 15 ∧ pp_G A b x (pl k) ≠ 0) := s7
  show tt (mm_X3_keepRun_22b (nI r) k0 (nI (pp_G A b x (pl k))) (nI f) (nI (max c x)) (nI k)) τ1 _
  have e8 : τ1 53 8 = nI fd := by rw [s8 8 (by decide)]; exact h8
  have lk := pp_pl_le hp _ k (Nat.le_refl _) hk2
  have kk : (nI k).toNatClampNeg = k := nI_clamp (by omega)
  have len1 := pp_sm_len L1 (fun R hR => (s3.2.2.1 R hR).1.1)
  simp only [mm_X3_keepRun_22b, tt_rF, tt_br, tt_rt, tt_rA, e8, kk]
  rw [nI_leI (by omega) (by omega)]
  refine ⟨fun q => Or.inr ⟨(nI f, nI (max c x)), by trivial, ?_⟩, fun q => ?_⟩
  · have ek : k = fd := by omega
    rw [ek, hp.1] at s6 s7
    rw [pp_G_e (Nat.lt_irrefl b)] at s7
    have s7 : r + 1 + pp_sm L1 + (b - f) ≤ 14 := by omega
    simp only [mm_X3_keepRun_128, tt_rA, rr, ir, s2.2.1, s2.2.2.2, true_and, tt_cl]
    refine tt_mono (pp_addQ hk s1 s3 o14 n14 (by omega) (by omega) hb hd s5 s4 (fun z => by omega) (by omega)) (fun _ τ2 z => ?_)
    obtain ⟨L2, t1, t2, t3, t4, t5, t6, t7, t8⟩ := z
    rw [tt_rt]
    refine ⟨D1, K1, L2, t1, t2, by omega, fun p => ?_, fun y hy => by rw [t8 y (by omega)]; exact s9 y hy⟩
    rw [← s6 p, t4 p, pp_P_e (Nat.lt_irrefl b)]
  · obtain ⟨g1, g2, g3, g4⟩ := hp.2.2.2 k (by omega)
    have lk1 := pp_pl_le hp _ (k + 1) (Nat.le_refl _) (by omega)
    have hAk := hA (pl k) g3
    have v4 : τ1 60 k = nI (pp_G A b (A (pl k)) (pl k + 1) + 1) := by rw [s9 60 (by omega)]; exact hI k (Nat.zero_le _) (by omega)
    have v5 : τ1 59 k = nI (A (pl k) - 1) := by rw [s9 59 (by omega)]; exact (hN k (by omega)).2
    have v6 : τ1 58 k = nI (pl k) := by rw [s9 58 (by omega)]; exact (hN k (by omega)).1
    have gb1 := pp_G_b (A := A) (b := b) (x := A (pl k)) (i := pl k + 1)
    have gb2 := pp_G_b (A := A) (b := b) (x := x) (i := pl k)
    have ik : yy_in (nI k) 14 = true := pp_in (by omega) (by decide)
    rw [v4, v5, v6, nI_eq (by omega) (by omega), nI_ltI (by omega) (by omega)]
    have gapP : ∀ x1 f1, pp_P (pp_KK (pp_EL o n) (pp_EL o o)) A b c d (pl k + 1) x1 f1 = pp_P (pp_KK (pp_EL o n) (pp_EL o o)) A b c d (pl (k + 1)) x1 f1 := fun x1 f1 => pp_P_gap _ _ _ (Nat.le_refl _) (by omega) (by omega) (fun z z1 z2 => g4 z (by omega) z2)
    -- not taken
    have skip : ¬ (x < A (pl k) ∧ pp_G A b (A (pl k)) (pl k + 1) + 1 = pp_G A b x (pl k)) → tt (mm_X3_keepRun_122 (nI r) k0 (nI (pp_G A b x (pl k))) (nI f) (nI (max c x)) (nI k)) τ1 (fun y τ2 => (k < fd ∧ ∃ s : Nat × Nat, y = .inl (nI (pp_G A b s.1 (pl (k + 1))), nI s.2, nI (max c s.1), nI (k + 1)) ∧ a ≤ s.2 ∧ s.2 ≤ pl (k + 1) ∧ max c s.1 ≤ d ∧ ∃ D1 K1 L1, pp_KS τ2 k0 o n D1 K1 ∧ pp_R τ2 r a b c d ∧ pp_QS τ2 o n K1 (r + 1) L1 ∧ (∀ R ∈ L1, pp_dj R (s.2, b, max c s.1, d)) ∧ pp_Fr K1 s.2 b (max c s.1) d ∧ (∀ p, (p ∈ K1 ∨ (∃ R ∈ L1, p ∈ pp_KR o n R) ∨ p ∈ pp_P (pp_KK (pp_EL o n) (pp_EL o o)) A b c d (pl (k + 1)) s.1 s.2) ↔ (p ∈ K ∨ (∃ R ∈ L, p ∈ pp_KR o n R) ∨ p ∈ pp_P (pp_KK (pp_EL o n) (pp_EL o o)) A b c d a 0 a)) ∧ (r + 1 + pp_sm L1 + (b - s.2) ≤ 14 ∨ (r + 1 + pp_sm L1 + (b - s.2) ≤ 15 ∧ pp_G A b s.1 (pl (k + 1)) ≠ 0)) ∧ (∀ q, q ≠ 4 → τ2 53 q = τ 53 q) ∧ ∀ x, (x < 53 ∨ (58 ≤ x ∧ x < k0 + 2) ∨ k0 + 11 ≤ x) → τ2 x = τ x) ∨ ∃ w : Int32 × Int32, y = .inr w ∧ tt (mm_X3_keepRun_128 (nI r) w.1 w.2) τ2 (fun _ τ1 => ∃ D1 K1 L1, pp_KS τ1 k0 o n D1 K1 ∧ pp_QS τ1 o n K1 (r + 1) L1 ∧ r + 1 + pp_sm L1 ≤ 14 ∧ (∀ p, (p ∈ K1 ∨ ∃ R ∈ L1, p ∈ pp_KR o n R) ↔ (p ∈ K ∨ (∃ R ∈ L, p ∈ pp_KR o n R) ∨ p ∈ pp_P (pp_KK (pp_EL o n) (pp_EL o o)) A b c d a 0 a)) ∧ ∀ x, (x < 53 ∨ (58 ≤ x ∧ x < k0 + 2) ∨ k0 + 11 ≤ x) → τ1 x = τ x)) := by
      intro hn
      have eG : pp_G A b x (pl (k + 1)) = pp_G A b x (pl k) := by
        rw [← pp_pl_gap hp (by omega)]
        exact pp_G_skip (by omega) hn
      have eP : pp_P (pp_KK (pp_EL o n) (pp_EL o o)) A b c d (pl (k + 1)) x f = pp_P (pp_KK (pp_EL o n) (pp_EL o o)) A b c d (pl k) x f := by
        rw [← gapP]
        exact (pp_P_n (by omega) hn).symm
      simp only [mm_X3_keepRun_122, tt_rt]
      refine Or.inl ⟨by omega, (x, f), ?_, j1, by show f ≤ pl (k + 1); omega, j3, D1, K1, L1, s1, s2, s3, s4, s5, ?_, ?_, s8, s9⟩
      · show _ = Sum.inl (nI (pp_G A b x (pl (k + 1))), nI f, nI (max c x), nI (k + 1))
        rw [eG, nI_1]
      · show ∀ p, (p ∈ K1 ∨ (∃ R ∈ L1, p ∈ pp_KR o n R) ∨ p ∈ pp_P (pp_KK (pp_EL o n) (pp_EL o o)) A b c d (pl (k + 1)) x f) ↔ _
        rw [eP]
        exact s6
      · show r + 1 + pp_sm L1 + (b - f) ≤ 14 ∨ (r + 1 + pp_sm L1 + (b - f) ≤ 15 ∧ pp_G A b x (pl (k + 1)) ≠ 0)
        rw [eG]
        exact s7
    refine ⟨ik, fun z => ⟨ik, fun z2 => skip (by omega), fun z2 => ⟨ik, ik, ?_⟩⟩, fun z => skip (fun y => z y.2)⟩
    have hsel : x < A (pl k) ∧ pp_G A b (A (pl k)) (pl k + 1) + 1 = pp_G A b x (pl k) := ⟨by omega, z⟩
    rw [tt_cl]
    refine tt_mono (pp_addQ (a := f) (b := pl k) (c := max c x) (d := A (pl k) - 1) hk s1 s3 o14 n14 (by omega) (by omega) (by omega) (by omega) (s5.sub (Nat.le_refl _) (by omega) (Nat.le_refl _) (by omega)) (fun R hR => ?_) (fun y => by omega) (by omega)) (fun _ τ2 y => ?_)
    · have := s4 R hR
      unfold pp_dj at this ⊢
      show (R.2.1 ≤ f ∨ pl k ≤ R.1) ∧ (R.2.2.2 ≤ max c x ∨ A (pl k) - 1 ≤ R.2.2.1)
      have t1 : (R.2.1 ≤ f ∨ b ≤ R.1) ∧ (R.2.2.2 ≤ max c x ∨ d ≤ R.2.2.1) := this
      omega
    obtain ⟨L2, t1, t2, t3, t4, t5, t6, t7, t8⟩ := y
    have w5 : τ2 59 k = nI (A (pl k) - 1) := by rw [t8 59 (by omega)]; exact v5
    have w6 : τ2 58 k = nI (pl k) := by rw [t8 58 (by omega)]; exact v6
    simp only [tt_rA, kk, ik, w5, w6, true_and, tt_cl]
    refine tt_mono (t1.join hk (i := pl k) (j := A (pl k) - 1) (by omega) (by omega) (s5.ne (by omega) (by omega))) (fun _ τ3 y => ?_)
    obtain ⟨y1, y2⟩ := y
    have u5 : τ3 59 k = nI (A (pl k) - 1) := by rw [y2 59 (by omega)]; exact w5
    have u6 : τ3 58 k = nI (pl k) := by rw [y2 58 (by omega)]; exact w6
    simp only [tt_rA, kk, ik, u5, u6, true_and, mm_X3_keepRun_122, tt_rt]
    have newdj : ∀ R ∈ L2, pp_dj R (pl k, b, A (pl k) - 1, d) := by
      refine t5 _ (fun R hR => ?_) ?_
      · have t1 : (R.2.1 ≤ f ∨ b ≤ R.1) ∧ (R.2.2.2 ≤ max c x ∨ d ≤ R.2.2.1) := s4 R hR
        show (R.2.1 ≤ pl k ∨ b ≤ R.1) ∧ (R.2.2.2 ≤ A (pl k) - 1 ∨ d ≤ R.2.2.1)
        omega
      · show (pl k ≤ pl k ∨ b ≤ f) ∧ (A (pl k) - 1 ≤ A (pl k) - 1 ∨ d ≤ max c x)
        exact ⟨Or.inl (Nat.le_refl _), Or.inl (Nat.le_refl _)⟩
    have mx : max c (A (pl k)) = A (pl k) := by omega
    refine Or.inl ⟨by omega, (A (pl k), pl k + 1), ?_, by show a ≤ pl k + 1; omega, by show pl k + 1 ≤ pl (k + 1); omega, by show max c (A (pl k)) ≤ d; omega, _, (pl k, A (pl k) - 1) :: K1, L2, y1, ⟨?_, ?_, ?_, ?_⟩, ⟨?_, fun i R hi => ?_, fun R hR => ⟨(t2.2.2.1 R hR).1, ?_⟩, t2.2.2.2⟩, fun R hR => ?_, ?_, fun p => ?_, Or.inl ?_, fun q hq => ?_, fun x hx => ?_⟩
    · show _ = Sum.inl (nI (pp_G A b (A (pl k)) (pl (k + 1))), nI (pl k + 1), nI (max c (A (pl k))), nI (k + 1))
      rw [mx, ← pp_pl_gap hp (by omega), ← hsel.2, nI_1, nI_1, nI_1, show A (pl k) - 1 + 1 = A (pl k) by omega, show (-1 : Int32) = -nI 1 by rfl, nI_neg1]
    · rw [y2 54 (by omega), (t6 r (by omega)).1]
      exact s2.1
    · rw [y2 55 (by omega), (t6 r (by omega)).2.1]
      exact s2.2.1
    · rw [y2 56 (by omega), (t6 r (by omega)).2.2.1]
      exact s2.2.2.1
    · rw [y2 57 (by omega), (t6 r (by omega)).2.2.2]
      exact s2.2.2.2
    · rw [y2 53 (by omega)]
      exact t2.1
    · obtain ⟨h1, h2, h3, h4⟩ := t2.2.1 i R hi
      exact ⟨by rw [y2 54 (by omega)]; exact h1, by rw [y2 55 (by omega)]; exact h2, by rw [y2 56 (by omega)]; exact h3, by rw [y2 57 (by omega)]; exact h4⟩
    · have t1 : (R.2.1 ≤ pl k ∨ b ≤ R.1) ∧ (R.2.2.2 ≤ A (pl k) - 1 ∨ d ≤ R.2.2.1) := newdj R hR
      exact (t2.2.2.1 R hR).2.cons (by omega) (by omega)
    · have t1 : (R.2.1 ≤ pl k ∨ b ≤ R.1) ∧ (R.2.2.2 ≤ A (pl k) - 1 ∨ d ≤ R.2.2.1) := newdj R hR
      show (R.2.1 ≤ pl k + 1 ∨ b ≤ R.1) ∧ (R.2.2.2 ≤ max c (A (pl k)) ∨ d ≤ R.2.2.1)
      omega
    · show pp_Fr ((pl k, A (pl k) - 1) :: K1) (pl k + 1) b (max c (A (pl k))) d
      exact (s5.sub (by omega) (Nat.le_refl _) (by omega) (Nat.le_refl _)).cons (by omega) (by omega)
    · show ((p ∈ (pl k, A (pl k) - 1) :: K1) ∨ (∃ R ∈ L2, p ∈ pp_KR o n R) ∨ p ∈ pp_P (pp_KK (pp_EL o n) (pp_EL o o)) A b c d (pl (k + 1)) (A (pl k)) (pl k + 1)) ↔ _
      rw [← s6 p, t4 p, pp_P_s (show pl k < b by omega) hsel, gapP, List.mem_cons, List.mem_append, List.mem_cons]
      constructor
      · rintro ((h | h) | (h | h) | h)
        · exact Or.inr (Or.inr (Or.inr (Or.inl h)))
        · exact Or.inl h
        · exact Or.inr (Or.inl h)
        · exact Or.inr (Or.inr (Or.inl h))
        · exact Or.inr (Or.inr (Or.inr (Or.inr h)))
      · rintro (h | h | h | h | h)
        · exact Or.inl (Or.inr h)
        · exact Or.inr (Or.inl (Or.inl h))
        · exact Or.inr (Or.inl (Or.inr h))
        · exact Or.inl (Or.inl h)
        · exact Or.inr (Or.inr h)
    · show r + 1 + pp_sm L2 + (b - (pl k + 1)) ≤ 14
      omega
    · rw [y2 53 (by omega), t7 q hq]
      exact s8 q hq
    · rw [y2 x (by omega), t8 x (by omega)]
      exact s9 x hx
