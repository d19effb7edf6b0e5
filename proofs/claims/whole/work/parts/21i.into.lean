/-! THE REFERENCE GOES INTO A RANGE: the run, and ranges again -/
theorem pp_P_0 {Kr : Nat → Nat → Nat → Nat → List (Nat × Nat)} {A : Nat → Nat} {b c d x f : Nat} : ∀ (n k : Nat), b - k ≤ n → pp_G A b x k = 0 → pp_P Kr A b c d k x f = Kr f b (max c x) d
  | 0, k, h, hg => pp_P_e (by omega)
  | n + 1, k, h, hg => by
    by_cases hk : k < b
    · have hs : ¬ (x < A k ∧ pp_G A b (A k) (k + 1) + 1 = pp_G A b x k) := fun y => by omega
      rw [pp_P_n hk hs]
      exact pp_P_0 n (k + 1) (by omega) (by rw [pp_G_skip hk hs]; exact hg)
    · exact pp_P_e hk
theorem pp_gN {a b c d : Nat} (ha : a < 2 ^ 31) (hb : b < 2 ^ 31) (hc : c < 2 ^ 31) (hd : d < 2 ^ 31) : yy_gN (nI a) (nI b) (nI c) (nI d) = 4 * min (b - a) (d - c) + 2 := by
  unfold yy_gN
  rw [nI_toInt ha, nI_toInt hb, nI_toInt hc, nI_toInt hd]
  omega
/-- what a goer into ranges promises -/
def pp_go (o n : pp_Ed) (rec : Int32 → Int32 → Int32 → Int32 → Int32 → yy_M Unit) (w : Nat) : Prop := ∀ (a b c d : Nat) (τ : yy_T) (D : pp_D) (K : List (Nat × Nat)), b - a < w → b ≤ o.1 → d ≤ n.1 → a ≤ b → c ≤ d → pp_MS τ o n D K → pp_Fr K a b c d → tt (rec (nI a) (nI b) (nI c) (nI d) 0) τ (fun _ τ1 => ∃ D1 K1, pp_MS τ1 o n D1 K1 ∧ (∀ p, p ∈ K1 ↔ (p ∈ K ∨ p ∈ pp_KK (pp_EL o n) (pp_EL o o) a b c d)) ∧ ∀ x, x ≠ 117 → x ≠ 118 → τ1 x = τ x)
theorem pp_mRun {τ : yy_T} {a b c d N w : Nat} {o n : pp_Ed} {D : pp_D} {K : List (Nat × Nat)} {rec : Int32 → Int32 → Int32 → Int32 → Int32 → yy_M Unit} {g10 g11 : Nat → Int32} (wo : pp_wfE o) (wn : pp_wfE n) (hrec : pp_go o n rec w) (hw : b - a ≤ w) (hN : 4 * min (b - a) (d - c) + 2 ≤ N) (S : pp_MS τ o n D K) (hb : b ≤ o.1) (hd : d ≤ n.1) (hab : a ≤ b) (hcd : c ≤ d) (hF : pp_Fr K a b c d) (hGL : pp_GL (pp_AA o n a b c d) b a g10 g11) (hg : pp_G (pp_AA o n a b c d) b 0 a ≠ 0) : tt (mm_X10_goesInto_317 rec N (nI b) (nI d) (nI (pp_G (pp_AA o n a b c d) b 0 a)) (-1) (nI a) (nI c) (nI a) g10 g11 2) τ (fun _ τ1 => ∃ D1 K1, pp_MS τ1 o n D1 K1 ∧ (∀ p, p ∈ K1 ↔ (p ∈ K ∨ p ∈ pp_PP o n a b c d a 0 a)) ∧ ∀ x, x ≠ 117 → x ≠ 118 → τ1 x = τ x) := by
  have o14 := wo.1
  have n14 := wn.1
  have hA : ∀ k, pp_AA o n a b c d k ≠ 0 → c < pp_AA o n a b c d k ∧ pp_AA o n a b c d k ≤ d := fun k hk => pp_A_in hk
  unfold pp_PP
  generalize pp_AA o n a b c d = A at *
  have hA14 : ∀ k, A k ≤ 14 := fun k => by
    by_cases e : A k = 0
    · omega
    · have := hA k e
      omega
  generalize hKr : pp_KK (pp_EL o n) (pp_EL o o) = Kr
  unfold pp_go at hrec
  rw [hKr] at hrec
  simp only [mm_X10_goesInto_317, tt_cl]
  suffices h : tt (yy_lp (fun (w : Int32 × Int32 × Int32 × Int32 × Int32 × Nat) => mm_X10_goesInto_317b rec N (nI b) (nI d) w.1 w.2.1 w.2.2.1 w.2.2.2.1 w.2.2.2.2.1 g10 g11 w.2.2.2.2.2) (nI (pp_G A b 0 a), pp_i 0, nI a, nI (max c 0), nI a, 2)) τ (fun w τ1 => tt (mm_X10_goesInto_411 rec N (nI b) (nI d) w.1 w.2.1 w.2.2) τ1 (fun _ τ1 => ∃ D1 K1, pp_MS τ1 o n D1 K1 ∧ (∀ p, p ∈ K1 ↔ (p ∈ K ∨ p ∈ pp_P Kr A b c d a 0 a)) ∧ ∀ x, x ≠ 117 → x ≠ 118 → τ1 x = τ x)) by
    rw [Nat.max_eq_left (Nat.zero_le c)] at h
    exact h
  refine tt_upx b (fun k (s : Nat × Nat × Nat) => (nI (pp_G A b s.1 k), pp_i s.1, nI s.2.1, nI (max c s.1), nI k, s.2.2)) (fun k s τ1 => a ≤ s.2.1 ∧ s.2.1 ≤ k ∧ max c s.1 ≤ d ∧ s.1 ≤ 14 ∧ ((a < s.2.1 ∧ s.2.2 + 4 * min (b - s.2.1) (d - max c s.1) + 2 ≤ N) ∨ (s.2.2 + 4 * min (b - s.2.1) (d - max c s.1) ≤ N ∧ pp_G A b s.1 k ≠ 0)) ∧ ∃ D1 K1, pp_MS τ1 o n D1 K1 ∧ pp_Fr K1 s.2.1 b (max c s.1) d ∧ (∀ p, (p ∈ K1 ∨ p ∈ pp_P Kr A b c d k s.1 s.2.1) ↔ (p ∈ K ∨ p ∈ pp_P Kr A b c d a 0 a)) ∧ ∀ x, x ≠ 117 → x ≠ 118 → τ1 x = τ x) (fun k s τ1 hk hJ => ?_) a (0, a, 2) τ hab ⟨Nat.le_refl _, Nat.le_refl _, by rw [Nat.max_eq_left (Nat.zero_le c)]; exact hcd, by show 0 ≤ 14; omega, Or.inr ⟨by show 2 + 4 * min (b - a) (d - max c 0) ≤ N; rw [Nat.max_eq_left (Nat.zero_le c)]; omega, hg⟩, D, K, S, by rw [Nat.max_eq_left (Nat.zero_le c)]; exact hF, fun p => Iff.rfl, fun x _ _ => rfl⟩
  obtain ⟨x, f, m⟩ := s
  obtain ⟨j1, j2, j3, j4, j5, D1, K1, s1, s2, s3, s4⟩ := hJ
  have j1 : a ≤ f := j1
  have j2 : f ≤ k := j2
  have j3 : max c x ≤ d := j3
  have j4 : x ≤ 14 := j4
  have j5 : (a < f ∧ m + 4 * min (b - f) (d - max c x) + 2 ≤ N) ∨ (m + 4 * min (b - f) (d - max c x) ≤ N ∧ pp_G A b x k ≠ 0) := j5
  have s2 : pp_Fr K1 f b (max c x) d := s2
  have s3 : ∀ p, (p ∈ K1 ∨ p ∈ pp_P Kr A b c d k x f) ↔ (p ∈ K ∨ p ∈ pp_P Kr A b c d a 0 a) := s3
  show tt (mm_X10_goesInto_317b rec N (nI b) (nI d) (nI (pp_G A b x k)) (pp_i x) (nI f) (nI (max c x)) (nI k) g10 g11 m) τ1 _
  have gb := pp_G_b (A := A) (b := b) (x := x) (i := k)
  -- the end
  have stop : pp_G A b x k = 0 → tt (mm_X10_goesInto_411 rec N (nI b) (nI d) (nI f) (nI (max c x)) m) τ1 (fun _ τ1 => ∃ D1 K1, pp_MS τ1 o n D1 K1 ∧ (∀ p, p ∈ K1 ↔ (p ∈ K ∨ p ∈ pp_P Kr A b c d a 0 a)) ∧ ∀ x, x ≠ 117 → x ≠ 118 → τ1 x = τ x) := by
    intro hz
    have j6 : a < f ∧ m + 4 * min (b - f) (d - max c x) + 2 ≤ N := by
      rcases j5 with h | h
      · exact h
      · exact absurd hz h.2
    simp only [mm_X10_goesInto_411, tt_ck, tt_cl]
    rw [pp_gN (by omega) (by omega) (by omega) (by omega)]
    refine ⟨by omega, tt_mono (hrec f b (max c x) d τ1 D1 K1 (by omega) hb hd (by omega) j3 s1 s2) (fun _ τ2 z => ?_)⟩
    obtain ⟨D2, K2, z1, z2, z3⟩ := z
    rw [tt_rt]
    refine ⟨D2, K2, z1, fun p => ?_, fun y y1 y2 => by rw [z3 y y1 y2]; exact s4 y y1 y2⟩
    rw [z2 p, ← s3 p, pp_P_0 _ k (Nat.le_refl _) hz]
  simp only [mm_X10_goesInto_317b, tt_br, tt_rt]
  rw [nI_leI (by omega) (by omega), show (0 : Int32) = nI 0 by rfl, nI_leI (by omega) (by omega)]
  refine ⟨fun q => Or.inr ⟨(nI f, nI (max c x), m), by trivial, stop (pp_G_e (by omega))⟩, fun q => ⟨fun q2 => Or.inr ⟨(nI f, nI (max c x), m), by trivial, stop (by omega)⟩, fun q2 => ?_⟩⟩
  have kk : (nI k).toNatClampNeg = k := nI_clamp (by omega)
  have ik : yy_in (nI k) 14 = true := pp_in (by omega) (by decide)
  obtain ⟨v10, v11⟩ := hGL k (by omega) (by omega)
  have rb := pp_rl_b (A := A) (b := b) (k := k)
  have hAk := hA14 k
  simp only [tt_rL, tt_br, kk, ik, true_and, v10, v11]
  rw [nI_eq (by omega) (by omega), pp_i_lt j4 hAk]
  have skip : ¬ (x < A k ∧ pp_G A b (A k) (k + 1) + 1 = pp_G A b x k) → tt (mm_X10_goesInto_405 rec N (nI b) (nI d) (nI (pp_G A b x k)) (pp_i x) (nI f) (nI (max c x)) (nI k) g10 g11 m) τ1 (fun y τ2 => (k < b ∧ ∃ s : Nat × Nat × Nat, y = .inl (nI (pp_G A b s.1 (k + 1)), pp_i s.1, nI s.2.1, nI (max c s.1), nI (k + 1), s.2.2) ∧ a ≤ s.2.1 ∧ s.2.1 ≤ k + 1 ∧ max c s.1 ≤ d ∧ s.1 ≤ 14 ∧ ((a < s.2.1 ∧ s.2.2 + 4 * min (b - s.2.1) (d - max c s.1) + 2 ≤ N) ∨ (s.2.2 + 4 * min (b - s.2.1) (d - max c s.1) ≤ N ∧ pp_G A b s.1 (k + 1) ≠ 0)) ∧ ∃ D1 K1, pp_MS τ2 o n D1 K1 ∧ pp_Fr K1 s.2.1 b (max c s.1) d ∧ (∀ p, (p ∈ K1 ∨ p ∈ pp_P Kr A b c d (k + 1) s.1 s.2.1) ↔ (p ∈ K ∨ p ∈ pp_P Kr A b c d a 0 a)) ∧ ∀ x, x ≠ 117 → x ≠ 118 → τ2 x = τ x) ∨ ∃ w : Int32 × Int32 × Nat, y = .inr w ∧ tt (mm_X10_goesInto_411 rec N (nI b) (nI d) w.1 w.2.1 w.2.2) τ2 (fun _ τ1 => ∃ D1 K1, pp_MS τ1 o n D1 K1 ∧ (∀ p, p ∈ K1 ↔ (p ∈ K ∨ p ∈ pp_P Kr A b c d a 0 a)) ∧ ∀ x, x ≠ 117 → x ≠ 118 → τ1 x = τ x)) := by
    intro hn
    have eG : pp_G A b x (k + 1) = pp_G A b x k := pp_G_skip (by omega) hn
    have eP : pp_P Kr A b c d (k + 1) x f = pp_P Kr A b c d k x f := (pp_P_n (by omega) hn).symm
    simp only [mm_X10_goesInto_405, tt_rt]
    refine Or.inl ⟨by omega, (x, f, m), ?_, j1, by show f ≤ k + 1; omega, j3, j4, ?_, D1, K1, s1, s2, ?_, s4⟩
    · show _ = Sum.inl (nI (pp_G A b x (k + 1)), pp_i x, nI f, nI (max c x), nI (k + 1), m)
      rw [eG, nI_1]
    · show (a < f ∧ m + 4 * min (b - f) (d - max c x) + 2 ≤ N) ∨ (m + 4 * min (b - f) (d - max c x) ≤ N ∧ pp_G A b x (k + 1) ≠ 0)
      rw [eG]
      exact j5
    · show ∀ p, (p ∈ K1 ∨ p ∈ pp_P Kr A b c d (k + 1) x f) ↔ _
      rw [eP]
      exact s3
  refine ⟨fun z => ⟨fun z2 => ?_, fun z2 => skip (fun y => z2 y.1)⟩, fun z => skip (fun y => z ?_)⟩
  · have n0 : A k ≠ 0 := by omega
    obtain ⟨c1, c2⟩ := hA k n0
    have rl1 : pp_rl A b k = pp_G A b (A k) (k + 1) + 1 := by unfold pp_rl; rw [if_neg n0]
    have hsel : x < A k ∧ pp_G A b (A k) (k + 1) + 1 = pp_G A b x k := ⟨z2, by omega⟩
    have ei : pp_i (A k) = nI (A k - 1) := by unfold pp_i; rw [if_neg n0]
    have j6 : m + 4 * min (b - f) (d - max c x) ≤ N := by
      rcases j5 with h | h
      · omega
      · exact h.1
    have eN : yy_gN (nI f) (nI k) (nI (max c x)) (nI (A k - 1)) = 4 * min (k - f) (A k - 1 - max c x) + 2 := pp_gN (by omega) (by omega) (by omega) (by omega)
    simp only [tt_ck, tt_cl]
    simp only [kk, v10, ei, eN]
    refine ⟨by omega, tt_mono (hrec f k (max c x) (A k - 1) τ1 D1 K1 (by omega) (by omega) (by omega) j2 (by omega) s1 (s2.sub (Nat.le_refl _) (by omega) (Nat.le_refl _) (by omega))) (fun _ τ2 y => ?_)⟩
    obtain ⟨D2, K2, y1, y2, y3⟩ := y
    have F2 : pp_Fr K2 k b (A k - 1) d := fun p hp => by
      rcases (y2 p).mp hp with h | h
      · have := s2 p h
        exact ⟨fun q => this.1 (by omega), fun q => this.2 (by omega)⟩
      · rw [← hKr] at h
        have h : f ≤ p.1 ∧ p.1 < k ∧ max c x ≤ p.2 ∧ p.2 < A k - 1 := pp_KK_in h
        exact ⟨fun q => by omega, fun q => by omega⟩
    simp only [tt_rL, kk, ik, true_and, v10, ei]
    rw [tt_cl]
    refine tt_mono (y1.couple (i := k) (j := A k - 1) (by omega) (by omega) (F2.ne (by omega) (by omega))) (fun _ τ3 u => ?_)
    obtain ⟨u1, u2⟩ := u
    simp only [tt_rL, kk, ik, true_and, v10, ei, mm_X10_goesInto_405, tt_rt]
    have mx : max c (A k) = A k := by omega
    refine Or.inl ⟨by omega, (A k, k + 1, m + (4 * min (k - f) (A k - 1 - max c x) + 2)), ?_, by show a ≤ k + 1; omega, Nat.le_refl _, by show max c (A k) ≤ d; omega, hAk, Or.inl ⟨by show a < k + 1; omega, ?_⟩, _, (k, A k - 1) :: K2, u1, ?_, fun p => ?_, fun y g1 g2 => by rw [u2 y g1 g2, y3 y g1 g2]; exact s4 y g1 g2⟩
    · show _ = Sum.inl (nI (pp_G A b (A k) (k + 1)), pp_i (A k), nI (k + 1), nI (max c (A k)), nI (k + 1), m + (4 * min (k - f) (A k - 1 - max c x) + 2))
      rw [mx, ei, ← hsel.2, nI_1, nI_1, show A k - 1 + 1 = A k by omega, show (-1 : Int32) = -nI 1 by rfl, nI_neg1]
    · show m + (4 * min (k - f) (A k - 1 - max c x) + 2) + 4 * min (b - (k + 1)) (d - max c (A k)) + 2 ≤ N
      rw [mx]
      omega
    · show pp_Fr ((k, A k - 1) :: K2) (k + 1) b (max c (A k)) d
      exact (F2.sub (by omega) (Nat.le_refl _) (by omega) (Nat.le_refl _)).cons (by omega) (by omega)
    · show ((p ∈ (k, A k - 1) :: K2) ∨ p ∈ pp_P Kr A b c d (k + 1) (A k) (k + 1)) ↔ _
      rw [← s3 p, List.mem_cons, y2 p, pp_P_s (show k < b by omega) hsel, List.mem_append, List.mem_cons]
      constructor
      · rintro ((h | h | h) | h)
        · exact Or.inr (Or.inr (Or.inl h))
        · exact Or.inl h
        · exact Or.inr (Or.inl h)
        · exact Or.inr (Or.inr (Or.inr h))
      · rintro (h | h | h | h)
        · exact Or.inl (Or.inr (Or.inl h))
        · exact Or.inl (Or.inr (Or.inr h))
        · exact Or.inl (Or.inl h)
        · exact Or.inr h
  · unfold pp_rl
    rw [if_neg (by omega)]
    exact y.2
/-- the goer as a whole -/
def pp_gQ (τ : yy_T) (o n : pp_Ed) (K : List (Nat × Nat)) (a b c d : Nat) (x5 : Int32) (τ1 : yy_T) : Prop := ∃ D1 K1, pp_MS τ1 o n D1 K1 ∧ (∀ p, p ∈ K1 ↔ (p ∈ K ∨ p ∈ pp_KK (pp_EL o n) (pp_EL o o) a b c d)) ∧ (x5 = 0 → ∀ x, x ≠ 117 → x ≠ 118 → τ1 x = τ x) ∧ (x5 ≠ 0 → τ1 112 17 = nI (pp_an4 o n (pp_tr (pp_EL o n) a b c d)) ∧ τ1 112 18 = nI (pp_ru4 o n (pp_tr (pp_EL o n) a b c d)) ∧ (∀ q, q ≠ 17 → q ≠ 18 → τ1 112 q = τ 112 q) ∧ ∀ x, x ≠ 112 → x ≠ 117 → x ≠ 118 → τ1 x = τ x)
theorem pp_goF {o n : pp_Ed} {rec : Int32 → Int32 → Int32 → Int32 → Int32 → yy_M Unit} {w : Nat} (wo : pp_wfE o) (wn : pp_wfE n) (hrec : pp_go o n rec w) {a b c d : Nat} {τ : yy_T} {D : pp_D} {K : List (Nat × Nat)} {x5 : Int32} (hw : b - a ≤ w) (hb : b ≤ o.1) (hd : d ≤ n.1) (hab : a ≤ b) (hcd : c ≤ d) (S : pp_MS τ o n D K) (hF : pp_Fr K a b c d) : tt (mm_X10_goesInto_F rec (yy_gN (nI a) (nI b) (nI c) (nI d)) (nI a) (nI b) (nI c) (nI d) x5) τ (fun _ τ1 => pp_gQ τ o n K a b c d x5 τ1) := by
  have o14 := wo.1
  have n14 := wn.1
  rw [pp_gN (by omega) (by omega) (by omega) (by omega), mm_X10_goesInto_F]
  refine pp_mHead wo wn S hb hd hab hcd hF (fun τ1 D1 K1 a1 c1 h1 h2 => ?_)
  refine pp_mTail wo wn hb hd h1 h2 (fun τ2 D2 K2 b1 d1 h3 h4 => ?_)
  obtain ⟨i1, i3, i4, i5, i7, i9⟩ := h3
  refine pp_mRuns i1.1 wo i1.2.1 wn (by omega) (by omega) (by omega) (by omega) (fun g10 g11 hGL => ?_)
  have tr : pp_tr (pp_EL o n) a b c d = (a1, b1, c1, d1) := by rw [← i7]; exact pp_tr_o h4
  have hKK : pp_KK (pp_EL o n) (pp_EL o o) a1 b1 c1 d1 = if pp_G (pp_AA o n a1 b1 c1 d1) b1 0 a1 = 0 then [] else pp_PP o n a1 b1 c1 d1 a1 0 a1 := pp_KK_m (by omega) h4
  have gb := pp_G_b (A := pp_AA o n a1 b1 c1 d1) (b := b1) (x := 0) (i := a1)
  have rest : ∀ τ3 : yy_T, (∀ x, x ≠ 112 → τ3 x = τ2 x) → tt (mm_X10_goesInto_292 rec (4 * min (b - a) (d - c) + 2) (nI a1) (nI b1) (nI c1) (nI d1) (nI (pp_G (pp_AA o n a1 b1 c1 d1) b1 0 a1)) g10 g11) τ3 (fun _ τ4 => ∃ D1 K1, pp_MS τ4 o n D1 K1 ∧ (∀ p, p ∈ K1 ↔ (p ∈ K ∨ p ∈ pp_KK (pp_EL o n) (pp_EL o o) a b c d)) ∧ ∀ x, x ≠ 117 → x ≠ 118 → τ4 x = τ3 x) := by
    intro τ3 f3
    have S3 : pp_MS τ3 o n D2 K2 := i1.of f3
    simp only [mm_X10_goesInto_292, tt_br, tt_rt]
    rw [show (0 : Int32) = nI 0 by rfl, nI_eq (by omega) (by omega)]
    refine ⟨fun z => ⟨D2, K2, S3, fun p => ?_, fun x _ _ => by trivial⟩, fun z => ?_⟩
    · rw [← i5 p, hKK, if_pos z]
      exact ⟨Or.inl, fun h => h.elim id (fun h => absurd h List.not_mem_nil)⟩
    · refine tt_mono (pp_mRun wo wn hrec (by omega) (by omega) S3 (by omega) (by omega) (by omega) (by omega) i4 hGL z) (fun _ τ4 y => ?_)
      obtain ⟨D3, K3, y1, y2, y3⟩ := y
      refine ⟨D3, K3, y1, fun p => ?_, y3⟩
      rw [y2 p, ← i5 p, hKK, if_neg z]
  simp only [mm_X10_goesInto_275, tt_br, tt_wF]
  refine ⟨fun z => ?_, fun z => ?_⟩
  · refine tt_mono (rest τ2 (fun x _ => rfl)) (fun _ τ4 y => ?_)
    obtain ⟨D3, K3, y1, y2, y3⟩ := y
    exact ⟨D3, K3, y1, y2, fun _ x x1 x2 => by rw [y3 x x1 x2]; exact i9 x x1 x2, fun z2 => absurd z z2⟩
  · refine tt_mono (rest _ (fun x hx => by funext l; simp [yy_upx, hx])) (fun _ τ4 y => ?_)
    obtain ⟨D3, K3, y1, y2, y3⟩ := y
    refine ⟨D3, K3, y1, y2, fun z2 => absurd z2 z, fun _ => ⟨?_, ?_, fun q h1 h2 => ?_, fun x x0 x1 x2 => ?_⟩⟩
    · rw [tr, y3 112 (by decide) (by decide)]
      simp [yy_upx]
      rfl
    · rw [tr, y3 112 (by decide) (by decide)]
      simp [yy_upx]
      rfl
    · rw [y3 112 (by decide) (by decide), ← i9 112 (by decide) (by decide)]
      simp [yy_upx, h1, h2]
    · rw [y3 x x1 x2, ← i9 x x1 x2]
      funext l
      simp [yy_upx, x0]
theorem pp_goesInto {o n : pp_Ed} (wo : pp_wfE o) (wn : pp_wfE n) : ∀ (w : Nat), pp_go o n (mm_X10_goesInto w) w
  | 0 => fun a b c d τ D K h => absurd h (Nat.not_lt_zero _)
  | w + 1 => fun a b c d τ D K h hb hd hab hcd S hF => by
    rw [mm_X10_goesInto]
    refine tt_mono (pp_goF wo wn (pp_goesInto wo wn w) (by omega) hb hd hab hcd S hF) (fun _ τ1 z => ?_)
    obtain ⟨D1, K1, z1, z2, z3, -⟩ := z
    exact ⟨D1, K1, z1, z2, z3 rfl⟩
theorem pp_goesAll {o n : pp_Ed} (wo : pp_wfE o) (wn : pp_wfE n) {τ : yy_T} (S : pp_MS τ o n pp_De []) : tt (mm_X10_goesInto 16 0 (nI o.1) 0 (nI n.1) 1) τ (fun _ τ1 => ∃ D1 K1, pp_MS τ1 o n D1 K1 ∧ (∀ p, p ∈ K1 ↔ p ∈ pp_KA o n) ∧ τ1 112 17 = nI (pp_an o n) ∧ τ1 112 18 = nI (pp_ru o n) ∧ (∀ q, q ≠ 17 → q ≠ 18 → τ1 112 q = τ 112 q) ∧ ∀ x, x ≠ 112 → x ≠ 117 → x ≠ 118 → τ1 x = τ x) := by
  have o14 := wo.1
  have := pp_goF (x5 := 1) (a := 0) (c := 0) wo wn (pp_goesInto wo wn 15) (by omega) (Nat.le_refl _) (Nat.le_refl _) (Nat.zero_le _) (Nat.zero_le _) S (fun p hp => absurd hp List.not_mem_nil)
  refine tt_mono (show tt (mm_X10_goesInto (15 + 1) (nI 0) (nI o.1) (nI 0) (nI n.1) 1) τ _ from this) (fun _ τ1 z => ?_)
  obtain ⟨D1, K1, z1, z2, -, z3⟩ := z
  obtain ⟨y1, y2, y3, y4⟩ := z3 (by decide)
  refine ⟨D1, K1, z1, fun p => ?_, y1, y2, y3, y4⟩
  rw [z2 p]
  exact ⟨fun h => h.elim (fun h => absurd h List.not_mem_nil) id, Or.inr⟩
