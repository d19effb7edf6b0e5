/-! WHAT IS KEPT, without a machine -/
/-- the one place from c up to d, told as one more than it is; 0: none, or more than one -/
def pp_on (p : Nat → Bool) (c d acc : Nat) : Nat :=
  if c < d then (if p c = true then (if acc = 0 then pp_on p (c + 1) d (c + 1) else 0) else pp_on p (c + 1) d acc) else acc
termination_by d - c
decreasing_by all_goals omega
theorem pp_on_e {p : Nat → Bool} {c d acc : Nat} (h : ¬ c < d) : pp_on p c d acc = acc := by
  rw [pp_on, if_neg h]
theorem pp_on_n {p : Nat → Bool} {c d acc : Nat} (h : c < d) (hp : ¬ p c = true) : pp_on p c d acc = pp_on p (c + 1) d acc := by
  rw [pp_on, if_pos h, if_neg hp]
theorem pp_on_1 {p : Nat → Bool} {c d : Nat} (h : c < d) (hp : p c = true) : pp_on p c d 0 = pp_on p (c + 1) d (c + 1) := by
  rw [pp_on, if_pos h, if_pos hp, if_pos rfl]
theorem pp_on_2 {p : Nat → Bool} {c d acc : Nat} (h : c < d) (hp : p c = true) (ha : acc ≠ 0) : pp_on p c d acc = 0 := by
  rw [pp_on, if_pos h, if_pos hp, if_neg ha]
theorem pp_on_p {p : Nat → Bool} {d : Nat} : ∀ (n c acc : Nat), d - c ≤ n → (acc ≠ 0 → ((∀ i, c ≤ i → i < d → ¬ p i = true) ∧ pp_on p c d acc = acc) ∨ ((∃ i, c ≤ i ∧ i < d ∧ p i = true) ∧ pp_on p c d acc = 0)) ∧ (acc = 0 → ((∀ i, c ≤ i → i < d → ¬ p i = true) ∧ pp_on p c d 0 = 0) ∨ (∃ i, c ≤ i ∧ i < d ∧ p i = true ∧ pp_on p c d 0 = i + 1 ∧ ∀ i1, c ≤ i1 → i1 < d → p i1 = true → i1 = i) ∨ (∃ i i1, c ≤ i ∧ i < i1 ∧ i1 < d ∧ p i = true ∧ p i1 = true ∧ pp_on p c d 0 = 0))
  | 0, c, acc, h => ⟨fun _ => Or.inl ⟨fun i a1 a2 => by omega, pp_on_e (by omega)⟩, fun _ => Or.inl ⟨fun i a1 a2 => by omega, pp_on_e (by omega)⟩⟩
  | n + 1, c, acc, h => by
    by_cases hc : c < d
    · by_cases hp : p c = true
      · refine ⟨fun ha => Or.inr ⟨⟨c, Nat.le_refl _, hc, hp⟩, pp_on_2 hc hp ha⟩, fun _ => Or.inr ?_⟩
        rw [pp_on_1 hc hp]
        rcases (pp_on_p (p := p) (d := d) n (c + 1) (c + 1) (by omega)).1 (by omega) with ⟨z1, z2⟩ | ⟨⟨i, z1, z2, z3⟩, z4⟩
        · refine Or.inl ⟨c, Nat.le_refl _, hc, hp, z2, fun i1 a1 a2 a3 => ?_⟩
          by_cases e : i1 = c
          · exact e
          · exact absurd a3 (z1 i1 (by omega) a2)
        · exact Or.inr ⟨c, i, Nat.le_refl _, by omega, z2, hp, z3, z4⟩
      · have nn : ∀ i, c ≤ i → p i = true → c + 1 ≤ i := fun i a1 a2 => by
          by_cases e : i = c
          · rw [e] at a2
            exact absurd a2 hp
          · omega
        obtain ⟨u1, u2⟩ := pp_on_p (p := p) (d := d) n (c + 1) acc (by omega)
        refine ⟨fun ha => ?_, fun ha => ?_⟩
        · rw [pp_on_n hc hp]
          rcases u1 ha with ⟨z1, z2⟩ | ⟨⟨i, z1, z2, z3⟩, z4⟩
          · exact Or.inl ⟨fun i a1 a2 a3 => z1 i (nn i a1 a3) a2 a3, z2⟩
          · exact Or.inr ⟨⟨i, by omega, z2, z3⟩, z4⟩
        · rw [pp_on_n hc hp]
          rcases u2 ha with ⟨z1, z2⟩ | ⟨i, z1, z2, z3, z4, z5⟩ | ⟨i, i1, z1, z2, z3, z4, z5, z6⟩
          · exact Or.inl ⟨fun i a1 a2 a3 => z1 i (nn i a1 a3) a2 a3, z2⟩
          · exact Or.inr (Or.inl ⟨i, by omega, z2, z3, z4, fun i1 a1 a2 a3 => z5 i1 (nn i1 a1 a3) a2 a3⟩)
          · exact Or.inr (Or.inr ⟨i, i1, by omega, z2, z3, z4, z5, z6⟩)
    · exact ⟨fun _ => Or.inl ⟨fun i a1 a2 => by omega, pp_on_e hc⟩, fun _ => Or.inl ⟨fun i a1 a2 => by omega, pp_on_e hc⟩⟩
theorem pp_on_in {p : Nat → Bool} {c d : Nat} (h : pp_on p c d 0 ≠ 0) : c < pp_on p c d 0 ∧ pp_on p c d 0 ≤ d ∧ p (pp_on p c d 0 - 1) = true := by
  rcases (pp_on_p (p := p) (d := d) _ c 0 (Nat.le_refl _)).2 rfl with ⟨-, z⟩ | ⟨i, z1, z2, z3, z4, -⟩ | ⟨i, i1, -, -, -, -, -, z⟩
  · exact absurd z h
  · rw [z4]
    exact ⟨by omega, by omega, z3⟩
  · exact absurd z h
/-- there once: no other one is there -/
theorem pp_on_once {p : Nat → Bool} {a b k : Nat} (h1 : a ≤ k) (h2 : k < b) (hk : p k = true) : pp_on p a b 0 = 0 ↔ ∃ i, a ≤ i ∧ i < b ∧ i ≠ k ∧ p i = true := by
  rcases (pp_on_p (p := p) (d := b) _ a 0 (Nat.le_refl _)).2 rfl with ⟨z, -⟩ | ⟨i, z1, z2, z3, z4, z5⟩ | ⟨i, i1, z1, z2, z3, z4, z5, z⟩
  · exact absurd hk (z k h1 h2)
  · rw [z4]
    have e := z5 k h1 h2 hk
    exact ⟨fun q => by omega, fun ⟨j, j1, j2, j3, j4⟩ => absurd ((z5 j j1 j2 j4).trans e.symm) j3⟩
  · rw [z]
    refine ⟨fun _ => ?_, fun _ => rfl⟩
    by_cases e : i = k
    · exact ⟨i1, by omega, z3, by omega, z5⟩
    · exact ⟨i, z1, by omega, e, z4⟩
/-- the anchor of a line, told as one more -/
def pp_A (E F : Nat → Nat → Bool) (a b c d k : Nat) : Nat := if pp_on (E k) c d 0 = 0 then 0 else if pp_on (F k) a b 0 = 0 then 0 else pp_on (E k) c d 0
theorem pp_A_in {E F : Nat → Nat → Bool} {a b c d k : Nat} (h : pp_A E F a b c d k ≠ 0) : c < pp_A E F a b c d k ∧ pp_A E F a b c d k ≤ d := by
  unfold pp_A at h ⊢
  by_cases h1 : pp_on (E k) c d 0 = 0
  · rw [if_pos h1] at h
    exact absurd rfl h
  · rw [if_neg h1] at h ⊢
    by_cases h2 : pp_on (F k) a b 0 = 0
    · rw [if_pos h2] at h
      exact absurd rfl h
    · rw [if_neg h2]
      exact ⟨(pp_on_in h1).1, (pp_on_in h1).2.1⟩
/-- the longest rising run of anchors from i on, above x -/
def pp_G (A : Nat → Nat) (b x i : Nat) : Nat :=
  if i < b then (if x < A i then max (pp_G A b (A i) (i + 1) + 1) (pp_G A b x (i + 1)) else pp_G A b x (i + 1)) else 0
termination_by b - i
decreasing_by all_goals omega
section
variable {A : Nat → Nat} {b : Nat}
theorem pp_G_e {x i : Nat} (h : ¬ i < b) : pp_G A b x i = 0 := by
  rw [pp_G, if_neg h]
theorem pp_G_n {x i : Nat} (h : i < b) (hx : ¬ x < A i) : pp_G A b x i = pp_G A b x (i + 1) := by
  rw [pp_G, if_pos h, if_neg hx]
theorem pp_G_s {x i : Nat} (h : i < b) (hx : x < A i) : pp_G A b x i = max (pp_G A b (A i) (i + 1) + 1) (pp_G A b x (i + 1)) := by
  rw [pp_G, if_pos h, if_pos hx]
theorem pp_G_skip {x i : Nat} (h : i < b) (hn : ¬ (x < A i ∧ pp_G A b (A i) (i + 1) + 1 = pp_G A b x i)) : pp_G A b x (i + 1) = pp_G A b x i := by
  by_cases hx : x < A i
  · have h1 := pp_G_s (A := A) h hx
    have h2 : pp_G A b (A i) (i + 1) + 1 ≠ pp_G A b x i := fun q => hn ⟨hx, q⟩
    omega
  · exact (pp_G_n h hx).symm
theorem pp_G_gap {x : Nat} : ∀ (n i j : Nat), j - i ≤ n → i ≤ j → j ≤ b → (∀ k, i ≤ k → k < j → A k = 0) → pp_G A b x i = pp_G A b x j
  | 0, i, j, h, h1, h2, h3 => by rw [show i = j by omega]
  | n + 1, i, j, h, h1, h2, h3 => by
    by_cases e : i = j
    · rw [e]
    · rw [pp_G_n (by omega) (by have := h3 i (Nat.le_refl _) (by omega); omega)]
      exact pp_G_gap n (i + 1) j (by omega) (by omega) h2 (fun k a1 a2 => h3 k (by omega) a2)
theorem pp_G_le : ∀ (n x i : Nat), b - i ≤ n → pp_G A b x i ≤ b - i
  | 0, x, i, h => by rw [pp_G_e (by omega)]; omega
  | n + 1, x, i, h => by
    by_cases hi : i < b
    · have h1 := pp_G_le n x (i + 1) (by omega)
      by_cases hx : x < A i
      · have h2 := pp_G_le n (A i) (i + 1) (by omega)
        rw [pp_G_s hi hx]
        omega
      · rw [pp_G_n hi hx]
        omega
    · rw [pp_G_e hi]
      omega
theorem pp_G_b {x i : Nat} : pp_G A b x i ≤ b := by
  have := pp_G_le (A := A) (b := b) _ x i (Nat.le_refl _)
  omega
end
/-- how many anchors from i on -/
def pp_ct (A : Nat → Nat) (b i : Nat) : Nat :=
  if i < b then (if A i = 0 then 0 else 1) + pp_ct A b (i + 1) else 0
termination_by b - i
decreasing_by all_goals omega
theorem pp_ct_e {A : Nat → Nat} {b i : Nat} (h : ¬ i < b) : pp_ct A b i = 0 := by
  rw [pp_ct, if_neg h]
theorem pp_ct_i {A : Nat → Nat} {b i : Nat} (h : i < b) : pp_ct A b i = (if A i = 0 then 0 else 1) + pp_ct A b (i + 1) := by
  rw [pp_ct, if_pos h]
theorem pp_ct_le {A : Nat → Nat} {b : Nat} : ∀ (n i : Nat), b - i ≤ n → pp_ct A b i ≤ b - i
  | 0, i, h => by rw [pp_ct_e (by omega)]; omega
  | n + 1, i, h => by
    by_cases hi : i < b
    · have h1 := pp_ct_le (A := A) (b := b) n (i + 1) (by omega)
      rw [pp_ct_i hi]
      split <;> omega
    · rw [pp_ct_e hi]
      omega
/-- a range without its head and its tail -/
def pp_tr (E : Nat → Nat → Bool) (a b c d : Nat) : Nat × Nat × Nat × Nat :=
  if a < b ∧ c < d then (if E a c = true then pp_tr E (a + 1) b (c + 1) d else if E (b - 1) (d - 1) = true then pp_tr E a (b - 1) c (d - 1) else (a, b, c, d)) else (a, b, c, d)
termination_by b - a
decreasing_by all_goals omega
/-- the run, and the ranges around it -/
def pp_P (Kr : Nat → Nat → Nat → Nat → List (Nat × Nat)) (A : Nat → Nat) (b c d k x f : Nat) : List (Nat × Nat) :=
  if k < b then (if x < A k ∧ pp_G A b (A k) (k + 1) + 1 = pp_G A b x k then Kr f k (max c x) (A k - 1) ++ ((k, A k - 1) :: pp_P Kr A b c d (k + 1) (A k) (k + 1)) else pp_P Kr A b c d (k + 1) x f) else Kr f b (max c x) d
termination_by b - k
decreasing_by all_goals omega
def pp_K (E F : Nat → Nat → Bool) : Nat → Nat → Nat → Nat → Nat → List (Nat × Nat)
  | 0, _, _, _, _ => []
  | f + 1, a, b, c, d => if a < b ∧ c < d then (if E a c = true then (a, c) :: pp_K E F f (a + 1) b (c + 1) d else if E (b - 1) (d - 1) = true then (b - 1, d - 1) :: pp_K E F f a (b - 1) c (d - 1) else if pp_G (pp_A E F a b c d) b 0 a = 0 then [] else pp_P (pp_K E F f) (pp_A E F a b c d) b c d a 0 a) else []
section
variable {E F : Nat → Nat → Bool} {A : Nat → Nat} {b c d : Nat} {Kr Ks : Nat → Nat → Nat → Nat → List (Nat × Nat)}
theorem pp_P_e {k x f : Nat} (h : ¬ k < b) : pp_P Kr A b c d k x f = Kr f b (max c x) d := by
  rw [pp_P, if_neg h]
theorem pp_P_s {k x f : Nat} (h : k < b) (hs : x < A k ∧ pp_G A b (A k) (k + 1) + 1 = pp_G A b x k) : pp_P Kr A b c d k x f = Kr f k (max c x) (A k - 1) ++ ((k, A k - 1) :: pp_P Kr A b c d (k + 1) (A k) (k + 1)) := by
  rw [pp_P, if_pos h, if_pos hs]
theorem pp_P_n {k x f : Nat} (h : k < b) (hs : ¬ (x < A k ∧ pp_G A b (A k) (k + 1) + 1 = pp_G A b x k)) : pp_P Kr A b c d k x f = pp_P Kr A b c d (k + 1) x f := by
  rw [pp_P, if_pos h, if_neg hs]
theorem pp_P_cg {N : Nat} (hK : ∀ a1 b1 c1 d1, b1 - a1 < N → Kr a1 b1 c1 d1 = Ks a1 b1 c1 d1) : ∀ (n k x f : Nat), b - k ≤ n → f ≤ k → b - f ≤ N → (b - f < N ∨ pp_G A b x k ≠ 0) → pp_P Kr A b c d k x f = pp_P Ks A b c d k x f
  | 0, k, x, f, h, h1, h2, h3 => by
    rw [pp_P_e (by omega), pp_P_e (by omega)]
    rw [pp_G_e (by omega)] at h3
    exact hK _ _ _ _ (by omega)
  | n + 1, k, x, f, h, h1, h2, h3 => by
    by_cases hk : k < b
    · by_cases hs : x < A k ∧ pp_G A b (A k) (k + 1) + 1 = pp_G A b x k
      · rw [pp_P_s hk hs, pp_P_s hk hs, hK f k _ _ (by omega), pp_P_cg hK n (k + 1) (A k) (k + 1) (by omega) (Nat.le_refl _) (by omega) (Or.inl (by omega))]
      · rw [pp_P_n hk hs, pp_P_n hk hs]
        exact pp_P_cg hK n (k + 1) x f (by omega) (by omega) h2 (by rw [pp_G_skip hk hs]; exact h3)
    · rw [pp_P_e (by omega), pp_P_e (by omega)]
      rw [pp_G_e (by omega)] at h3
      exact hK _ _ _ _ (by omega)
theorem pp_K_fuel : ∀ (f g a b c d : Nat), b - a ≤ f → b - a ≤ g → pp_K E F f a b c d = pp_K E F g a b c d
  | 0, 0, a, b, c, d, _, _ => rfl
  | 0, g + 1, a, b, c, d, h1, h2 => by
    rw [pp_K, pp_K, if_neg (by omega)]
  | f + 1, 0, a, b, c, d, h1, h2 => by
    rw [pp_K, pp_K, if_neg (by omega)]
  | f + 1, g + 1, a, b, c, d, h1, h2 => by
    rw [pp_K, pp_K]
    by_cases hin : a < b ∧ c < d
    · rw [if_pos hin, if_pos hin]
      by_cases e1 : E a c = true
      · rw [if_pos e1, if_pos e1, pp_K_fuel f g (a + 1) b (c + 1) d (by omega) (by omega)]
      · rw [if_neg e1, if_neg e1]
        by_cases e2 : E (b - 1) (d - 1) = true
        · rw [if_pos e2, if_pos e2, pp_K_fuel f g a (b - 1) c (d - 1) (by omega) (by omega)]
        · rw [if_neg e2, if_neg e2]
          by_cases e3 : pp_G (pp_A E F a b c d) b 0 a = 0
          · rw [if_pos e3, if_pos e3]
          · rw [if_neg e3, if_neg e3]
            exact pp_P_cg (N := b - a) (fun a1 b1 c1 d1 h => pp_K_fuel f g a1 b1 c1 d1 (by omega) (by omega)) _ a 0 a (Nat.le_refl _) (Nat.le_refl _) (Nat.le_refl _) (Or.inr e3)
    · rw [if_neg hin, if_neg hin]
/-- what of a range is kept -/
def pp_KK (E F : Nat → Nat → Bool) (a b c d : Nat) : List (Nat × Nat) := pp_K E F 14 a b c d
theorem pp_KK_out {a b c d : Nat} (h : ¬ (a < b ∧ c < d)) : pp_KK E F a b c d = [] := by
  unfold pp_KK
  rw [pp_K, if_neg h]
theorem pp_KK_h {a b c d : Nat} (h14 : b - a ≤ 14) (h : a < b ∧ c < d) (e : E a c = true) : pp_KK E F a b c d = (a, c) :: pp_KK E F (a + 1) b (c + 1) d := by
  unfold pp_KK
  rw [pp_K, if_pos h, if_pos e, pp_K_fuel 13 14 (a + 1) b (c + 1) d (by omega) (by omega)]
theorem pp_KK_t {a b c d : Nat} (h14 : b - a ≤ 14) (h : a < b ∧ c < d) (e1 : ¬ E a c = true) (e : E (b - 1) (d - 1) = true) : pp_KK E F a b c d = (b - 1, d - 1) :: pp_KK E F a (b - 1) c (d - 1) := by
  unfold pp_KK
  rw [pp_K, if_pos h, if_neg e1, if_pos e, pp_K_fuel 13 14 a (b - 1) c (d - 1) (by omega) (by omega)]
theorem pp_A_out {a k : Nat} (h : ¬ c < d) : pp_A E F a b c d k = 0 := by
  unfold pp_A
  rw [pp_on_e h, if_pos rfl]
theorem pp_KK_m {a b c d : Nat} (h14 : b - a ≤ 14) (h : ¬ (a < b ∧ c < d) ∨ (¬ E a c = true ∧ ¬ E (b - 1) (d - 1) = true)) : pp_KK E F a b c d = if pp_G (pp_A E F a b c d) b 0 a = 0 then [] else pp_P (pp_KK E F) (pp_A E F a b c d) b c d a 0 a := by
  by_cases hin : a < b ∧ c < d
  · have h2 : ¬ E a c = true ∧ ¬ E (b - 1) (d - 1) = true := by
      rcases h with h | h
      · exact absurd hin h
      · exact h
    show pp_K E F 14 a b c d = _
    rw [pp_K, if_pos hin, if_neg h2.1, if_neg h2.2]
    by_cases e3 : pp_G (pp_A E F a b c d) b 0 a = 0
    · rw [if_pos e3, if_pos e3]
    · rw [if_neg e3, if_neg e3]
      exact pp_P_cg (N := b - a) (fun a1 b1 c1 d1 h => pp_K_fuel 13 14 a1 b1 c1 d1 (by omega) (by omega)) _ a 0 a (Nat.le_refl _) (Nat.le_refl _) (Nat.le_refl _) (Or.inr e3)
  · rw [pp_KK_out hin, if_pos]
    by_cases hab : a < b
    · rw [pp_G_gap (b - a) a b (by omega) (by omega) (Nat.le_refl _) (fun k _ _ => pp_A_out (by omega)), pp_G_e (by omega)]
    · exact pp_G_e hab
/-- all that is kept of a range lies in it -/
def pp_inR (a b c d : Nat) (p : Nat × Nat) : Prop := a ≤ p.1 ∧ p.1 < b ∧ c ≤ p.2 ∧ p.2 < d
theorem pp_P_in (hA : ∀ k, A k ≠ 0 → c < A k ∧ A k ≤ d) (hK : ∀ a1 b1 c1 d1 p, p ∈ Kr a1 b1 c1 d1 → pp_inR a1 b1 c1 d1 p) : ∀ (n k x f : Nat), b - k ≤ n → f ≤ k → k ≤ b → max c x ≤ d → ∀ p ∈ pp_P Kr A b c d k x f, pp_inR f b (max c x) d p
  | 0, k, x, f, h, h1, h2, h3, p, hp => by
    rw [pp_P_e (by omega)] at hp
    exact hK _ _ _ _ _ hp
  | n + 1, k, x, f, h, h1, h2, h3, p, hp => by
    by_cases hk : k < b
    · by_cases hs : x < A k ∧ pp_G A b (A k) (k + 1) + 1 = pp_G A b x k
      · rw [pp_P_s hk hs] at hp
        have hAk := hA k (by omega)
        rcases List.mem_append.mp hp with q | q
        · have := hK _ _ _ _ _ q
          unfold pp_inR at this ⊢
          omega
        · rcases List.mem_cons.mp q with q | q
          · rw [q]
            unfold pp_inR
            show f ≤ k ∧ k < b ∧ max c x ≤ A k - 1 ∧ A k - 1 < d
            omega
          · have := pp_P_in hA hK n (k + 1) (A k) (k + 1) (by omega) (Nat.le_refl _) (by omega) (by omega) p q
            unfold pp_inR at this ⊢
            omega
      · rw [pp_P_n hk hs] at hp
        exact pp_P_in hA hK n (k + 1) x f (by omega) (by omega) (by omega) h3 p hp
    · rw [pp_P_e (by omega)] at hp
      exact hK _ _ _ _ _ hp
theorem pp_K_in : ∀ (f a b c d : Nat) (p : Nat × Nat), p ∈ pp_K E F f a b c d → pp_inR a b c d p
  | 0, a, b, c, d, p, hp => absurd hp (by rw [pp_K]; exact List.not_mem_nil)
  | f + 1, a, b, c, d, p, hp => by
    rw [pp_K] at hp
    by_cases hin : a < b ∧ c < d
    · rw [if_pos hin] at hp
      by_cases e1 : E a c = true
      · rw [if_pos e1] at hp
        rcases List.mem_cons.mp hp with q | q
        · rw [q]
          unfold pp_inR
          show a ≤ a ∧ a < b ∧ c ≤ c ∧ c < d
          omega
        · have := pp_K_in f _ _ _ _ p q
          unfold pp_inR at this ⊢
          omega
      · rw [if_neg e1] at hp
        by_cases e2 : E (b - 1) (d - 1) = true
        · rw [if_pos e2] at hp
          rcases List.mem_cons.mp hp with q | q
          · rw [q]
            unfold pp_inR
            show a ≤ b - 1 ∧ b - 1 < b ∧ c ≤ d - 1 ∧ d - 1 < d
            omega
          · have := pp_K_in f _ _ _ _ p q
            unfold pp_inR at this ⊢
            omega
        · rw [if_neg e2] at hp
          by_cases e3 : pp_G (pp_A E F a b c d) b 0 a = 0
          · rw [if_pos e3] at hp
            exact absurd hp List.not_mem_nil
          · rw [if_neg e3] at hp
            have := pp_P_in (fun k hk => pp_A_in hk) (pp_K_in f) _ a 0 a (Nat.le_refl _) (Nat.le_refl _) (by omega) (by omega) p hp
            unfold pp_inR at this ⊢
            omega
    · rw [if_neg hin] at hp
      exact absurd hp List.not_mem_nil
theorem pp_KK_in {a b c d : Nat} {p : Nat × Nat} (hp : p ∈ pp_KK E F a b c d) : pp_inR a b c d p := pp_K_in 14 a b c d p hp
theorem pp_tr_o {a b c d : Nat} (h : ¬ (a < b ∧ c < d) ∨ (¬ E a c = true ∧ ¬ E (b - 1) (d - 1) = true)) : pp_tr E a b c d = (a, b, c, d) := by
  rw [pp_tr]
  by_cases hin : a < b ∧ c < d
  · rcases h with h | h
    · exact absurd hin h
    · rw [if_pos hin, if_neg h.1, if_neg h.2]
  · rw [if_neg hin]
theorem pp_tr_h {a b c d : Nat} (h : a < b ∧ c < d) (e : E a c = true) : pp_tr E a b c d = pp_tr E (a + 1) b (c + 1) d := by
  rw [pp_tr, if_pos h, if_pos e]
theorem pp_tr_t {a b c d : Nat} (h : a < b ∧ c < d) (e1 : ¬ E a c = true) (e : E (b - 1) (d - 1) = true) : pp_tr E a b c d = pp_tr E a (b - 1) c (d - 1) := by
  rw [pp_tr, if_pos h, if_neg e1, if_pos e]
end
