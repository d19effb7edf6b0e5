/-! THE CLASS'S KEEPER: all ranges -/
def pp_TR (o n : pp_Ed) : pp_N4 := pp_tr (pp_EL o n) 0 o.1 0 n.1
def pp_an4 (o n : pp_Ed) (R : pp_N4) : Nat := pp_ct (pp_AA o n R.1 R.2.1 R.2.2.1 R.2.2.2) R.2.1 R.1
def pp_ru4 (o n : pp_Ed) (R : pp_N4) : Nat := pp_G (pp_AA o n R.1 R.2.1 R.2.2.1 R.2.2.2) R.2.1 0 R.1
def pp_an (o n : pp_Ed) : Nat := pp_an4 o n (pp_TR o n)
def pp_ru (o n : pp_Ed) : Nat := pp_ru4 o n (pp_TR o n)
def pp_KA (o n : pp_Ed) : List (Nat × Nat) := pp_KK (pp_EL o n) (pp_EL o o) 0 o.1 0 n.1
theorem pp_ct_0 {A : Nat → Nat} {b : Nat} : ∀ (n i : Nat), b - i ≤ n → (∀ k, i ≤ k → k < b → A k = 0) → pp_ct A b i = 0
  | 0, i, h, _ => pp_ct_e (by omega)
  | n + 1, i, h, hA => by
    by_cases hi : i < b
    · rw [pp_ct_i hi, if_pos (hA i (Nat.le_refl _) hi), pp_ct_0 n (i + 1) (by omega) (fun k k1 k2 => hA k (by omega) k2)]
    · exact pp_ct_e hi
theorem pp_an_0 {o n : pp_Ed} (h : ¬ (0 < o.1 ∧ 0 < n.1)) : pp_an o n = 0 ∧ pp_ru o n = 0 := by
  have e : pp_TR o n = (0, o.1, 0, n.1) := pp_tr_o (Or.inl h)
  unfold pp_an pp_ru
  rw [e]
  show pp_ct (pp_AA o n 0 o.1 0 n.1) o.1 0 = 0 ∧ pp_G (pp_AA o n 0 o.1 0 n.1) o.1 0 0 = 0
  have hA : ∀ k, 0 ≤ k → k < o.1 → pp_AA o n 0 o.1 0 n.1 k = 0 := fun k _ hk => pp_A_out (by omega)
  exact ⟨pp_ct_0 _ 0 (Nat.le_refl _) hA, by rw [pp_G_gap _ 0 o.1 (Nat.le_refl _) (Nat.zero_le _) (Nat.le_refl _) hA, pp_G_e (Nat.lt_irrefl _)]⟩
theorem pp_KS.of2 {τ τ1 : yy_T} {k0 : Nat} {o n : pp_Ed} {D : pp_D} {K : List (Nat × Nat)} (h : pp_KS τ k0 o n D K) (e : ∀ a, (50 ≤ a ∧ a < 53) ∨ (k0 + 2 ≤ a ∧ a < k0 + 11) → τ1 a = τ a) : pp_KS τ1 k0 o n D K := ⟨h.1.of (e _ (by omega)) (e _ (by omega)) (e _ (by omega)), h.2.1.of (fun a _ _ => e a (by omega)), h.2.2.1.of (e _ (by omega)), h.2.2.2⟩
theorem pp_add0 {τ : yy_T} {b d : Nat} (b14 : b ≤ 14) (d14 : d ≤ 14) (h : τ 53 4 = nI 0) : tt (mm_X3_addRange 0 (nI b) 0 (nI d)) τ (fun _ τ1 => ((¬ (0 < b ∧ 0 < d) ∧ τ1 = τ) ∨ ((0 < b ∧ 0 < d) ∧ τ1 53 4 = nI 1 ∧ pp_R τ1 0 0 b 0 d)) ∧ ∀ x, (x < 53 ∨ 58 ≤ x) → τ1 x = τ x) := by
  have c0 : ∀ z, z ≤ 14 → (nI z ≤ 0 ↔ z ≤ 0) := fun z hz => by rw [show (0 : Int32) = nI 0 by rfl, nI_leI (by omega) (by omega)]
  simp only [mm_X3_addRange, tt_br]
  rw [c0 b b14, c0 d d14, tt_rt]
  refine ⟨fun z => ⟨Or.inl ⟨by omega, rfl⟩, fun x _ => rfl⟩, fun z => ⟨fun z2 => ⟨Or.inl ⟨by omega, rfl⟩, fun x _ => rfl⟩, fun z2 => ?_⟩⟩
  have lt : nI 0 < 14 := by decide
  have gg : (nI 0).toNatClampNeg = 0 := nI_clamp (by omega)
  have ig : yy_in (nI 0) 14 = true := pp_in (by decide) (by decide)
  have e1 : yy_up τ 54 0 0 53 4 = nI 0 := by simp [yy_upx, h]
  have e2 : yy_up (yy_up τ 54 0 0) 55 0 (nI b) 53 4 = nI 0 := by simp [yy_upx, h]
  have e3 : yy_up (yy_up (yy_up τ 54 0 0) 55 0 (nI b)) 56 0 0 53 4 = nI 0 := by simp [yy_upx, h]
  have e4 : yy_up (yy_up (yy_up (yy_up τ 54 0 0) 55 0 (nI b)) 56 0 0) 57 0 (nI d) 53 4 = nI 0 := by simp [yy_upx, h]
  simp only [tt_rF, tt_wA, tt_wF, tt_rt, tt_br, h, gg, e1, e2, e3, e4, ig, true_and]
  refine ⟨fun _ => ⟨Or.inr ⟨by omega, by simp [yy_upx]; rfl, ?_⟩, fun x hx => ?_⟩, fun q => absurd lt q⟩
  · unfold pp_R
    simp [yy_upx]
    rfl
  · funext l
    simp only [yy_upx]
    repeat rw [if_neg (by omega)]
def pp_KJ (τ : yy_T) (k0 : Nat) (o n : pp_Ed) (r : Nat) (τ1 : yy_T) : Prop := ∃ D K L, pp_KS τ1 k0 o n D K ∧ pp_QS τ1 o n K r L ∧ r + pp_sm L ≤ 14 ∧ (∀ p, (p ∈ K ∨ ∃ R ∈ L, p ∈ pp_KR o n R) ↔ p ∈ pp_KA o n) ∧ ((r = 0 ∧ τ1 k0 8 = 0 ∧ τ1 k0 9 = 0 ∧ ((L = [] ∧ ¬ (0 < o.1 ∧ 0 < n.1)) ∨ L = [(0, o.1, 0, n.1)])) ∨ (0 < r ∧ τ1 k0 8 = nI (pp_an o n) ∧ τ1 k0 9 = nI (pp_ru o n))) ∧ (∀ q, q ≠ 8 → q ≠ 9 → τ1 k0 q = τ k0 q) ∧ ∀ x, (x < 53 ∨ (61 ≤ x ∧ x ≠ k0 ∧ (x < k0 + 2 ∨ k0 + 11 ≤ x))) → τ1 x = τ x
def pp_KQ (τ : yy_T) (k0 : Nat) (o n : pp_Ed) (τ1 : yy_T) : Prop := ∃ D K, pp_KS τ1 k0 o n D K ∧ (∀ p, p ∈ K ↔ p ∈ pp_KA o n) ∧ τ1 k0 8 = nI (pp_an o n) ∧ τ1 k0 9 = nI (pp_ru o n) ∧ (∀ q, q ≠ 8 → q ≠ 9 → τ1 k0 q = τ k0 q) ∧ ∀ x, (x < 53 ∨ (61 ≤ x ∧ x ≠ k0 ∧ (x < k0 + 2 ∨ k0 + 11 ≤ x))) → τ1 x = τ x
/-- one range -/
theorem pp_keepStep {τ τ1 : yy_T} {k0 r : Nat} {o n : pp_Ed} {D : pp_D} {K : List (Nat × Nat)} {a b c d : Nat} {L : List pp_N4} (hk : 61 ≤ k0) (o14 : o.1 ≤ 14) (n14 : n.1 ≤ 14) (S : pp_KS τ1 k0 o n D K) (hQ : pp_QS τ1 o n K r ((a, b, c, d) :: L)) (hs : r + pp_sm ((a, b, c, d) :: L) ≤ 14) (hK : ∀ p, (p ∈ K ∨ ∃ R ∈ (a, b, c, d) :: L, p ∈ pp_KR o n R) ↔ p ∈ pp_KA o n) (h0 : (r = 0 ∧ a = 0 ∧ b = o.1 ∧ c = 0 ∧ d = n.1) ∨ (0 < r ∧ τ1 k0 8 = nI (pp_an o n) ∧ τ1 k0 9 = nI (pp_ru o n))) (hf : ∀ q, q ≠ 8 → q ≠ 9 → τ1 k0 q = τ k0 q) (hfr : ∀ x, (x < 53 ∨ (61 ≤ x ∧ x ≠ k0 ∧ (x < k0 + 2 ∨ k0 + 11 ≤ x))) → τ1 x = τ x) : tt (yy_cl (mm_X3_keepEnds (nI r) k0) (fun _ => yy_cl (mm_X3_findAnchors (nI r)) (fun _ => yy_cl (mm_X3_measureRuns ) (fun r4 => yy_br (nI r = 0) (yy_rF 53 8 fun v5 => yy_wF k0 8 v5 (yy_wF k0 9 r4 (mm_X3_keep_72 k0 (nI r) r4))) (mm_X3_keep_72 k0 (nI r) r4))))) τ1 (fun y τ2 => y = .inl (nI (r + 1)) ∧ pp_KJ τ k0 o n (r + 1) τ2) := by
  obtain ⟨q1, q2, q3, q4⟩ := hQ
  obtain ⟨⟨hab, hbo, hcd, hdn⟩, hF⟩ := q3 (a, b, c, d) List.mem_cons_self
  have hab : a < b := hab
  have hbo : b ≤ o.1 := hbo
  have hcd : c < d := hcd
  have hdn : d ≤ n.1 := hdn
  have hF : pp_Fr K a b c d := hF
  have hs : r + ((b - a) + pp_sm L) ≤ 14 := hs
  have r14 : r < 14 := by omega
  have hR : pp_R τ1 r a b c d := q2 0 (a, b, c, d) rfl
  rw [tt_cl]
  refine tt_mono (pp_keepEnds hk S r14 hR o14 n14 hbo hdn (by omega) (by omega) hF) (fun _ τ2 z => ?_)
  obtain ⟨D1, K1, a1, b1, c1, d1, ⟨k1, k2, k3, k4, k5, k6, k7, k8, k9⟩, kst⟩ := z
  rw [tt_cl]
  refine tt_mono (pp_findAnchors k1.1 r14 k2 o14 n14 (by omega) (by omega) (by omega) (by omega)) (fun _ τ3 z => ?_)
  obtain ⟨fd, pl, u1, u2, u3, u4, u5, u6, u7⟩ := z
  rw [tt_cl]
  refine tt_mono (pp_measureRuns (a := a1) (b := b1) (d := d1) (by omega) (by omega) (fun k => ?_) u1 u2 u3 u4) (fun rn τ4 z => ?_)
  · by_cases e : pp_A (pp_EL o n) (pp_EL o o) a1 b1 c1 d1 k = 0
    · omega
    · exact (pp_A_in e).2
  obtain ⟨rfl, v1, v2⟩ := z
  have w53 : ∀ q, q ≠ 8 → τ4 53 q = τ1 53 q := fun q hq => by rw [v2 53 (by decide), u6 q hq, k9 53 (by omega)]
  have w538 : τ4 53 8 = nI fd := by rw [v2 53 (by decide)]; exact u2
  have wx : ∀ x, x ≠ 53 → x ≠ 58 → x ≠ 59 → x ≠ 60 → τ4 x = τ2 x := fun x x1 x2 x3 x4 => by rw [v2 x x4, u7 x x1 x2 x3]
  have u4' : pp_AN τ4 (pp_AA o n a1 b1 c1 d1) fd pl := fun i hi => by
    rw [v2 58 (by decide), v2 59 (by decide)]
    exact u4 i hi
  have hdj : ∀ R ∈ L, pp_dj R (a1, b1, c1, d1) := fun R hR => by
    have t : (b ≤ R.1 ∨ R.2.1 ≤ a) ∧ (d ≤ R.2.2.1 ∨ R.2.2.2 ≤ c) := (List.pairwise_cons.mp q4).1 R hR
    show (R.2.1 ≤ a1 ∨ b1 ≤ R.1) ∧ (R.2.2.2 ≤ c1 ∨ d1 ≤ R.2.2.1)
    omega
  have hKK : pp_KK (pp_EL o n) (pp_EL o o) a1 b1 c1 d1 = if pp_G (pp_AA o n a1 b1 c1 d1) b1 0 a1 = 0 then [] else pp_PP o n a1 b1 c1 d1 a1 0 a1 := pp_KK_m (by omega) kst
  have hall : ∀ p, (p ∈ K1 ∨ (∃ R ∈ L, p ∈ pp_KR o n R) ∨ p ∈ pp_KK (pp_EL o n) (pp_EL o o) a1 b1 c1 d1) ↔ p ∈ pp_KA o n := fun p => by
    rw [← hK p]
    have y := k5 p
    constructor
    · rintro (h | ⟨R, h1, h2⟩ | h)
      · rcases y.mp (Or.inl h) with g | g
        · exact Or.inl g
        · exact Or.inr ⟨_, List.mem_cons_self, g⟩
      · exact Or.inr ⟨R, List.mem_cons_of_mem _ h1, h2⟩
      · rcases y.mp (Or.inr h) with g | g
        · exact Or.inl g
        · exact Or.inr ⟨_, List.mem_cons_self, g⟩
    · rintro (h | ⟨R, h1, h2⟩)
      · rcases y.mpr (Or.inl h) with g | g
        · exact Or.inl g
        · exact Or.inr (Or.inr g)
      · rcases List.mem_cons.mp h1 with g | g
        · rw [g] at h2
          rcases y.mpr (Or.inr h2) with g | g
          · exact Or.inl g
          · exact Or.inr (Or.inr g)
        · exact Or.inr (Or.inl ⟨R, g, h2⟩)
  have fin : ∀ τ5 : yy_T, (∀ x, x ≠ k0 → τ5 x = τ4 x) → τ5 k0 8 = nI (pp_an o n) → τ5 k0 9 = nI (pp_ru o n) → (∀ q, q ≠ 8 → q ≠ 9 → τ5 k0 q = τ k0 q) → tt (mm_X3_keep_72 k0 (nI r) (nI (pp_G (pp_AA o n a1 b1 c1 d1) b1 0 a1))) τ5 (fun y τ2 => y = .inl (nI (r + 1)) ∧ pp_KJ τ k0 o n (r + 1) τ2) := by
    intro τ5 g1 g2 g3 g4
    have S5 : pp_KS τ5 k0 o n D1 K1 := k1.of2 (fun x hx => by rw [g1 x (by omega), wx x (by omega) (by omega) (by omega) (by omega)])
    have Q5 : pp_QS τ5 o n K1 (r + 1) L := by
      refine ⟨?_, fun i R hi => ?_, fun R hR => ⟨(q3 R (List.mem_cons_of_mem _ hR)).1, fun p hp => ?_⟩, (List.pairwise_cons.mp q4).2⟩
      · rw [g1 53 (by omega), w53 4 (by decide), q1, List.length_cons]
        congr 1
        omega
      · obtain ⟨t1, t2, t3, t4⟩ := q2 (i + 1) R (by rw [List.getElem?_cons_succ]; exact hi)
        rw [show r + (i + 1) = r + 1 + i by omega] at t1 t2 t3 t4
        obtain ⟨s1, s2, s3, s4⟩ := k8 (r + 1 + i) (by omega)
        refine ⟨?_, ?_, ?_, ?_⟩
        · rw [g1 54 (by omega), wx 54 (by decide) (by decide) (by decide) (by decide), s1]; exact t1
        · rw [g1 55 (by omega), wx 55 (by decide) (by decide) (by decide) (by decide), s2]; exact t2
        · rw [g1 56 (by omega), wx 56 (by decide) (by decide) (by decide) (by decide), s3]; exact t3
        · rw [g1 57 (by omega), wx 57 (by decide) (by decide) (by decide) (by decide), s4]; exact t4
      · rcases k6 p hp with h | h
        · exact (q3 R (List.mem_cons_of_mem _ hR)).2 p h
        · have t : (b ≤ R.1 ∨ R.2.1 ≤ a) ∧ (d ≤ R.2.2.1 ∨ R.2.2.2 ≤ c) := (List.pairwise_cons.mp q4).1 R hR
          have h : a ≤ p.1 ∧ p.1 < b ∧ c ≤ p.2 ∧ p.2 < d := h
          exact ⟨fun y => by omega, fun y => by omega⟩
    have F5 : ∀ x, (x < 53 ∨ (61 ≤ x ∧ x ≠ k0 ∧ (x < k0 + 2 ∨ k0 + 11 ≤ x))) → τ5 x = τ x := fun x hx => by
      rw [g1 x (by omega), wx x (by omega) (by omega) (by omega) (by omega), k9 x (by omega)]
      exact hfr x hx
    have gb := pp_G_b (A := pp_AA o n a1 b1 c1 d1) (b := b1) (x := 0) (i := a1)
    simp only [mm_X3_keep_72, tt_br]
    rw [show (0 : Int32) = nI 0 by rfl, nI_leI (by omega) (by omega)]
    refine ⟨fun z => ?_, fun z => ?_⟩
    · simp only [mm_X3_keep_85, tt_rt]
      refine ⟨by rw [nI_1], D1, K1, L, S5, Q5, by omega, fun p => ?_, Or.inr ⟨by omega, g2, g3⟩, g4, F5⟩
      rw [← hall p, hKK, if_pos (by omega)]
      exact ⟨fun h => h.elim Or.inl (fun h => Or.inr (Or.inl h)), fun h => h.elim Or.inl (fun h => h.elim Or.inr (fun h => absurd h List.not_mem_nil))⟩
    · rw [tt_cl]
      have R5 : pp_R τ5 r a1 b1 c1 d1 := by
        obtain ⟨t1, t2, t3, t4⟩ := k2
        refine ⟨?_, ?_, ?_, ?_⟩
        · rw [g1 54 (by omega), wx 54 (by decide) (by decide) (by decide) (by decide)]; exact t1
        · rw [g1 55 (by omega), wx 55 (by decide) (by decide) (by decide) (by decide)]; exact t2
        · rw [g1 56 (by omega), wx 56 (by decide) (by decide) (by decide) (by decide)]; exact t3
        · rw [g1 57 (by omega), wx 57 (by decide) (by decide) (by decide) (by decide)]; exact t4
      refine tt_mono (pp_keepRun hk S5 r14 R5 o14 n14 (by omega) (by omega) (by omega) (by omega) k4 (by rw [g1 53 (by omega)]; exact w538) u1 u3 (fun i hi => by rw [g1 58 (by omega), g1 59 (by omega)]; exact u4' i hi) (fun i i1 i2 => by rw [g1 60 (by omega)]; exact v1 i i1 i2) (by omega) Q5 hdj (by omega)) (fun _ τ6 y => ?_)
      obtain ⟨D2, K2, L2, y1, y2, y3, y4, y5⟩ := y
      simp only [mm_X3_keep_85, tt_rt]
      refine ⟨by rw [nI_1], D2, K2, L2, y1, y2, y3, fun p => ?_, Or.inr ⟨by omega, by rw [y5 k0 (by omega)]; exact g2, by rw [y5 k0 (by omega)]; exact g3⟩, fun q h1 h2 => by rw [y5 k0 (by omega)]; exact g4 q h1 h2, fun x hx => by rw [y5 x (by omega)]; exact F5 x hx⟩
      rw [y4 p, ← hall p, hKK, if_neg (by omega)]
  have t8 : ∀ q, τ4 k0 q = τ1 k0 q := fun q => by rw [wx k0 (by omega) (by omega) (by omega) (by omega), k9 k0 (by omega)]
  rw [tt_br, show (0 : Int32) = nI 0 by rfl, nI_eq (by omega) (by omega)]
  refine ⟨fun z => ?_, fun z => ?_⟩
  · simp only [tt_rF, tt_wF, w538]
    have hT : pp_TR o n = (a1, b1, c1, d1) := by
      rcases h0 with ⟨-, e1, e2, e3, e4⟩ | h0
      · unfold pp_TR
        rw [e1, e2, e3, e4] at k7
        rw [← k7]
        exact pp_tr_o kst
      · omega
    refine fin _ (fun x hx => by funext l; simp [yy_upx, hx]) ?_ ?_ (fun q h1 h2 => ?_)
    · unfold pp_an
      rw [hT]
      show _ = nI (pp_ct (pp_AA o n a1 b1 c1 d1) b1 a1)
      simp [yy_upx]
      rw [u5]
      rfl
    · unfold pp_ru
      rw [hT]
      simp [yy_upx]
      rfl
    · simp [yy_upx, h1, h2]
      rw [t8]
      exact hf q h1 h2
  · rcases h0 with h0 | ⟨-, e1, e2⟩
    · omega
    · exact fin τ4 (fun x _ => rfl) (by rw [t8]; exact e1) (by rw [t8]; exact e2) (fun q h1 h2 => by rw [t8]; exact hf q h1 h2)
theorem pp_keepAll {τ : yy_T} {k0 : Nat} {o n : pp_Ed} (hk : 61 ≤ k0) (S : pp_KS τ k0 o n pp_De []) (o14 : o.1 ≤ 14) (n14 : n.1 ≤ 14) (h8 : τ k0 8 = 0) (h9 : τ k0 9 = 0) : tt (mm_X3_keep k0) τ (fun _ τ1 => pp_KQ τ k0 o n τ1) := by
  simp only [mm_X3_keep, tt_wF, tt_rF]
  have e2 : yy_up τ 53 4 0 50 2 = nI o.1 := by simp [yy_upx]; exact S.1.1
  have e3 : yy_up τ 53 4 0 50 3 = nI n.1 := by simp [yy_upx]; exact S.1.2.1
  rw [e2, e3, tt_cl]
  generalize hτ0 : yy_up τ 53 4 0 = τ0
  have f0 : ∀ x, x ≠ 53 → τ0 x = τ x := fun x hx => by
    rw [← hτ0]
    funext l
    simp [yy_upx, hx]
  refine tt_mono (pp_add0 o14 n14 (by rw [← hτ0]; simp [yy_upx]; rfl)) (fun _ τ1 z => ?_)
  obtain ⟨z1, z2⟩ := z
  have F1 : ∀ x, (x < 53 ∨ 58 ≤ x) → τ1 x = τ x := fun x hx => by rw [z2 x hx, f0 x (by omega)]
  have S1 : pp_KS τ1 k0 o n pp_De [] := S.of2 (fun x hx => F1 x (by omega))
  simp only [mm_X3_keep_21, tt_cl]
  have start : pp_KJ τ k0 o n 0 τ1 := by
    have g8 : τ1 k0 8 = 0 := by rw [F1 k0 (by omega)]; exact h8
    have g9 : τ1 k0 9 = 0 := by rw [F1 k0 (by omega)]; exact h9
    rcases z1 with ⟨y1, y2⟩ | ⟨y1, y2, y3⟩
    · refine ⟨pp_De, [], [], S1, ⟨?_, fun i R hi => ?_, fun R hR => absurd hR List.not_mem_nil, List.Pairwise.nil⟩, by show 0 + 0 ≤ 14; omega, fun p => ?_, Or.inl ⟨rfl, g8, g9, Or.inl ⟨rfl, y1⟩⟩, fun q _ _ => by rw [F1 k0 (by omega)], fun x hx => F1 x (by omega)⟩
      · rw [y2, ← hτ0]
        simp [yy_upx]
        rfl
      · simp at hi
      · unfold pp_KA
        rw [pp_KK_out y1]
        exact ⟨fun h => h.elim id (fun ⟨R, h, _⟩ => absurd h List.not_mem_nil), fun h => absurd h List.not_mem_nil⟩
    · refine ⟨pp_De, [], [(0, o.1, 0, n.1)], S1, ⟨y2, fun i R hi => ?_, fun R hR => ?_, List.pairwise_singleton _ _⟩, by show 0 + (o.1 - 0 + 0) ≤ 14; omega, fun p => ?_, Or.inl ⟨rfl, g8, g9, Or.inr rfl⟩, fun q _ _ => by rw [F1 k0 (by omega)], fun x hx => F1 x (by omega)⟩
      · have e0 : i = 0 := by
          have := (List.getElem?_eq_some_iff.mp hi).1
          simp only [List.length_singleton] at this
          omega
        rw [e0] at hi
        rw [e0, ← Option.some.inj hi]
        exact y3
      · rw [List.mem_singleton.mp hR]
        exact ⟨⟨y1.1, Nat.le_refl _, y1.2, Nat.le_refl _⟩, fun p hp => absurd hp List.not_mem_nil⟩
      · constructor
        · rintro (h | ⟨R, h1, h2⟩)
          · exact absurd h List.not_mem_nil
          · rw [List.mem_singleton.mp h1] at h2
            exact h2
        · exact fun h => Or.inr ⟨_, List.mem_cons_self, h⟩
  refine tt_up 14 (fun r τ2 => pp_KJ τ k0 o n r τ2) (fun r τ2 hr hI => ?_) 0 τ1 (Nat.zero_le _) start
  obtain ⟨D, K, L, i1, i2, i3, i4, i5, i6, i7⟩ := hI
  have c14 : (14 : Int32) ≤ nI r ↔ 14 ≤ r := by rw [show (14 : Int32) = nI 14 by rfl, nI_leI (by omega) (by omega)]
  have ll := pp_sm_len L (fun R hR => (i2.2.2.1 R hR).1.1)
  simp only [mm_X3_keep_21b, tt_rF, tt_br, tt_rt, c14]
  rw [i2.1, nI_leI (by omega) (by omega)]
  cases L with
  | nil =>
    refine ⟨fun q => Or.inr ⟨(), by trivial, ?_⟩, fun q => absurd (by show r + 0 ≤ r; omega) q⟩
    simp only [mm_X3_keep_91, tt_rt]
    refine ⟨D, K, i1, fun p => ?_, ?_, ?_, i6, i7⟩
    · rw [← i4 p]
      exact ⟨Or.inl, fun h => h.elim id (fun ⟨R, h, _⟩ => absurd h List.not_mem_nil)⟩
    · rcases i5 with ⟨-, y1, y2, ⟨-, y3⟩ | y3⟩ | ⟨-, y1, y2⟩
      · rw [(pp_an_0 y3).1]; exact y1
      · cases y3
      · exact y1
    · rcases i5 with ⟨-, y1, y2, ⟨-, y3⟩ | y3⟩ | ⟨-, y1, y2⟩
      · rw [(pp_an_0 y3).2]; exact y2
      · cases y3
      · exact y2
  | cons R L =>
    obtain ⟨a, b, c, d⟩ := R
    rw [List.length_cons] at ll ⊢
    refine ⟨fun q => by omega, fun q => ⟨fun q2 => by omega, fun q2 => ?_⟩⟩
    refine tt_mono (pp_keepStep (τ := τ) hk o14 n14 i1 i2 i3 i4 ?_ i6 i7) (fun y τ3 h => Or.inl ⟨by omega, h⟩)
    rcases i5 with ⟨y0, y1, y2, ⟨y3, -⟩ | y3⟩ | y
    · cases y3
    · cases y3
      exact Or.inl ⟨y0, rfl, rfl, rfl, rfl⟩
    · exact Or.inr y
