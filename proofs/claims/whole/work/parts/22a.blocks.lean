/-! BLOCKS: what both sides look for -/
def pp_WD (o n : pp_Ed) (D : pp_D) : Prop := ∀ l, l < 14 → (D 0 l = 0 ∨ D 0 l = nI 1 ∨ D 0 l = nI 2 ∨ D 0 l = 3) ∧ (D 1 l = 0 ∨ D 1 l = nI 1 ∨ D 1 l = nI 2 ∨ D 1 l = 3) ∧ (o.1 ≤ l → D 0 l = 3) ∧ (n.1 ≤ l → D 1 l = 3) ∧ (D 0 l = 3 → D 4 l = -1) ∧ (D 1 l = 3 → D 5 l = -1) ∧ (D 0 l = nI 2 → ∃ j, j < n.1 ∧ D 2 l = nI j)
theorem pp_WD0 {o n : pp_Ed} {K : List (Nat × Nat)} (h : ∀ p ∈ K, p.1 < o.1 ∧ p.2 < n.1) : pp_WD o n (pp_D0 K) := by
  intro l hl
  have a : (pp_D0 K 0 l = 0 ∧ ¬ o.1 ≤ l) ∨ pp_D0 K 0 l = 3 := by
    show ((match K.find? (fun p => p.1 == l) with | some _ => (0 : Int32) | none => 3) = 0 ∧ ¬ o.1 ≤ l) ∨ (match K.find? (fun p => p.1 == l) with | some _ => (0 : Int32) | none => 3) = 3
    cases hf : K.find? (fun p => p.1 == l) with
    | none => exact Or.inr rfl
    | some p =>
      have e : p.1 = l := by
        have := List.find?_some hf
        exact eq_of_beq this
      have := (h p (List.mem_of_find?_eq_some hf)).1
      exact Or.inl ⟨rfl, by omega⟩
  have b : (pp_D0 K 1 l = 0 ∧ ¬ n.1 ≤ l) ∨ pp_D0 K 1 l = 3 := by
    show ((match K.find? (fun p => p.2 == l) with | some _ => (0 : Int32) | none => 3) = 0 ∧ ¬ n.1 ≤ l) ∨ (match K.find? (fun p => p.2 == l) with | some _ => (0 : Int32) | none => 3) = 3
    cases hf : K.find? (fun p => p.2 == l) with
    | none => exact Or.inr rfl
    | some p =>
      have e : p.2 = l := by
        have := List.find?_some hf
        exact eq_of_beq this
      have := (h p (List.mem_of_find?_eq_some hf)).2
      exact Or.inl ⟨rfl, by omega⟩
  refine ⟨?_, ?_, fun q => ?_, fun q => ?_, fun _ => rfl, fun _ => rfl, fun q => ?_⟩
  · rcases a with a | a
    · exact Or.inl a.1
    · exact Or.inr (Or.inr (Or.inr a))
  · rcases b with b | b
    · exact Or.inl b.1
    · exact Or.inr (Or.inr (Or.inr b))
  · rcases a with a | a
    · exact absurd q a.2
    · exact a
  · rcases b with b | b
    · exact absurd q b.2
    · exact b
  · rcases a with a | a
    · rw [a.1] at q
      exact absurd q (by decide)
    · rw [a] at q
      exact absurd q (by decide)
theorem pp_WD.jn {o n : pp_Ed} {D : pp_D} {as i j : Nat} {v : Int32} (h : pp_WD o n D) (ha : as < 3) (hi : i < o.1) (hj : j < n.1) : pp_WD o n (pp_jn D (nI as) i j v) := by
  intro l hl
  obtain ⟨h1, h2, h3, h4, h5, h6, h7⟩ := h l hl
  have v4 : nI as = 0 ∨ nI as = nI 1 ∨ nI as = nI 2 ∨ nI as = 3 := by
    rcases (show as = 0 ∨ as = 1 ∨ as = 2 by omega) with rfl | rfl | rfl
    · exact Or.inl rfl
    · exact Or.inr (Or.inl rfl)
    · exact Or.inr (Or.inr (Or.inl rfl))
  have n3 : nI as ≠ 3 := fun z => pp_3as ha z.symm
  simp only [pp_jn0, pp_jn1, pp_jn2, pp_jn4, pp_jn5]
  refine ⟨?_, ?_, fun q => ?_, fun q => ?_, fun q => ?_, fun q => ?_, fun q => ?_⟩
  · by_cases e : l = i
    · rw [if_pos e]; exact v4
    · rw [if_neg e]; exact h1
  · by_cases e : l = j
    · rw [if_pos e]; exact v4
    · rw [if_neg e]; exact h2
  · rw [if_neg (by omega)]; exact h3 q
  · rw [if_neg (by omega)]; exact h4 q
  · by_cases e : l = i
    · rw [if_pos e] at q; exact absurd q n3
    · rw [if_neg e] at q ⊢; exact h5 q
  · by_cases e : l = j
    · rw [if_pos e] at q; exact absurd q n3
    · rw [if_neg e] at q ⊢; exact h6 q
  · by_cases e : l = i
    · rw [if_pos e]; exact ⟨j, hj, rfl⟩
    · rw [if_neg e] at q ⊢; exact h7 q
/-- the first of the greatest -/
def pp_sc (f : Nat → Nat) : Nat → Nat × Nat
  | 0 => (0, 0)
  | k + 1 => if (pp_sc f k).1 < f k then (f k, k) else pp_sc f k
section
variable {f : Nat → Nat}
theorem pp_sc_s {k : Nat} (h : (pp_sc f k).1 < f k) : pp_sc f (k + 1) = (f k, k) := by
  rw [pp_sc, if_pos h]
theorem pp_sc_n {k : Nat} (h : ¬ (pp_sc f k).1 < f k) : pp_sc f (k + 1) = pp_sc f k := by
  rw [pp_sc, if_neg h]
theorem pp_sc_z {k : Nat} : ∀ m, (∀ i, k ≤ i → i < k + m → f i = 0) → pp_sc f (k + m) = pp_sc f k
  | 0, _ => rfl
  | m + 1, h => by
    rw [← Nat.add_assoc, pp_sc_n (by have := h (k + m) (by omega) (by omega); omega)]
    exact pp_sc_z m (fun i i1 i2 => h i i1 (by omega))
theorem pp_sc_in : ∀ k, (pp_sc f k).1 ≠ 0 → (pp_sc f k).2 < k ∧ f (pp_sc f k).2 = (pp_sc f k).1
  | 0, h => absurd rfl h
  | k + 1, h => by
    by_cases e : (pp_sc f k).1 < f k
    · rw [pp_sc_s e]
      exact ⟨Nat.lt_succ_self k, rfl⟩
    · rw [pp_sc_n e] at h ⊢
      obtain ⟨h1, h2⟩ := pp_sc_in k h
      exact ⟨by omega, h2⟩
theorem pp_sc_2 : ∀ k, (pp_sc f k).2 ≤ k
  | 0 => Nat.le_refl _
  | k + 1 => by
    by_cases e : (pp_sc f k).1 < f k
    · rw [pp_sc_s e]
      exact Nat.le_succ k
    · rw [pp_sc_n e]
      have := pp_sc_2 k
      omega
theorem pp_sc_b {B : Nat} (hB : ∀ i, f i ≤ B) : ∀ k, (pp_sc f k).1 ≤ B
  | 0 => Nat.zero_le _
  | k + 1 => by
    by_cases e : (pp_sc f k).1 < f k
    · rw [pp_sc_s e]
      exact hB k
    · rw [pp_sc_n e]
      exact pp_sc_b hB k
end
/-- how many follow one another -/
def pp_row (p : Nat → Nat → Bool) (i j : Nat) : Nat :=
  if i < 14 ∧ p i j = true then pp_row p (i + 1) (j + 1) + 1 else 0
termination_by 14 - i
decreasing_by all_goals omega
theorem pp_row_e {p : Nat → Nat → Bool} {i j : Nat} (h : ¬ (i < 14 ∧ p i j = true)) : pp_row p i j = 0 := by
  rw [pp_row, if_neg h]
theorem pp_row_s {p : Nat → Nat → Bool} {i j : Nat} (h : i < 14 ∧ p i j = true) : pp_row p i j = pp_row p (i + 1) (j + 1) + 1 := by
  rw [pp_row, if_pos h]
theorem pp_row_le {p : Nat → Nat → Bool} : ∀ (m i j : Nat), 14 - i ≤ m → pp_row p i j ≤ 14 - i
  | 0, i, j, h => by rw [pp_row_e (fun z => by omega)]; omega
  | m + 1, i, j, h => by
    by_cases e : i < 14 ∧ p i j = true
    · rw [pp_row_s e]
      have := pp_row_le (p := p) m (i + 1) (j + 1) (by omega)
      omega
    · rw [pp_row_e e]
      omega
theorem pp_row_in {p : Nat → Nat → Bool} : ∀ (m i j q : Nat), 14 - i ≤ m → q < pp_row p i j → p (i + q) (j + q) = true
  | 0, i, j, q, h, hq => by rw [pp_row_e (fun z => by omega)] at hq; omega
  | m + 1, i, j, q, h, hq => by
    by_cases e : i < 14 ∧ p i j = true
    · rw [pp_row_s e] at hq
      by_cases e2 : q = 0
      · rw [e2]
        exact e.2
      · have := pp_row_in (p := p) m (i + 1) (j + 1) (q - 1) (by omega) (by omega)
        rw [show i + 1 + (q - 1) = i + q by omega, show j + 1 + (q - 1) = j + q by omega] at this
        exact this
    · rw [pp_row_e e] at hq
      omega
def pp_bp (o n : pp_Ed) (D : pp_D) (i j : Nat) : Bool := decide (i < o.1 ∧ j < n.1 ∧ pp_EL o n i j = true ∧ D 0 i = 3 ∧ D 1 j = 3)
theorem pp_bp_iff {o n : pp_Ed} {D : pp_D} {i j : Nat} : pp_bp o n D i j = true ↔ (i < o.1 ∧ j < n.1 ∧ pp_EL o n i j = true ∧ D 0 i = 3 ∧ D 1 j = 3) := decide_eq_true_iff
def pp_bf (o n : pp_Ed) (D : pp_D) (k : Nat) : Nat := pp_row (pp_bp o n D) (k / 14) (k % 14)
def pp_bs (o n : pp_Ed) (D : pp_D) : Nat × Nat := pp_sc (pp_bf o n D) 196
theorem pp_bf_b {o n : pp_Ed} {D : pp_D} (k : Nat) : pp_bf o n D k ≤ 14 := by
  have := pp_row_le (p := pp_bp o n D) _ (k / 14) (k % 14) (Nat.le_refl _)
  unfold pp_bf
  omega
theorem pp_looseRow {τ : yy_T} {k0 : Nat} {o n : pp_Ed} {D : pp_D} (hN : pp_KN τ o n) (hD : pp_DC τ k0 D) (o14 : o.1 ≤ 14) (n14 : n.1 ≤ 14) {i j : Nat} (hi : i < 14) (hj : j < 14) : mm_X1_looseRow (nI i) (nI j) k0 τ = some (nI (pp_row (pp_bp o n D) i j), τ) := by
  apply tt_of
  simp only [mm_X1_looseRow, mm_X1_looseRow_3, tt_cl]
  refine tt_up 14 (fun k τ1 => τ1 = τ ∧ i + k ≤ 14 ∧ pp_row (pp_bp o n D) i j = k + pp_row (pp_bp o n D) (i + k) (j + k)) (fun k τ1 hk hI => ?_) 0 τ (Nat.zero_le _) ⟨rfl, by omega, by simp⟩
  obtain ⟨rfl, i1, i2⟩ := hI
  have c14 : (14 : Int32) ≤ nI k ↔ 14 ≤ k := by rw [show (14 : Int32) = nI 14 by rfl, nI_leI (by omega) (by omega)]
  have l0 : mm_X8_isLoose k0 0 (nI (i + k)) τ1 = some (pp_b (i + k < 14 ∧ D 0 (i + k) = 3), τ1) := pp_isLoose (w := 0) hD (by decide) (by omega)
  have l1 : mm_X8_isLoose k0 1 (nI (j + k)) τ1 = some (pp_b (j + k < 14 ∧ D 1 (j + k) = 3), τ1) := pp_isLoose (w := 1) hD (by decide) (by omega)
  have stop : ¬ (i + k < 14 ∧ pp_bp o n D (i + k) (j + k) = true) → tt (mm_X1_looseRow_58 (nI k)) τ1 (fun r τ2 => r = nI (pp_row (pp_bp o n D) i j) ∧ τ2 = τ1) := by
    intro h
    simp only [mm_X1_looseRow_58, tt_rt]
    rw [pp_row_e h] at i2
    exact ⟨by rw [i2]; rfl, by trivial⟩
  simp only [mm_X1_looseRow_3b, tt_br, tt_rt, c14, nI_add]
  refine ⟨fun q => Or.inr ⟨_, by trivial, stop (fun z => by omega)⟩, fun q => ?_⟩
  rw [tt_cle (pp_areAlikeC hN o14 n14 (by omega) (by omega)), tt_br, tt_rt, pp_b_0]
  refine ⟨fun q1 => Or.inr ⟨_, by trivial, stop (fun z => q1 ?_)⟩, fun q1 => ?_⟩
  · have := pp_bp_iff.mp z.2
    exact ⟨this.1, this.2.1, this.2.2.1⟩
  have q1 := Classical.not_not.mp q1
  rw [tt_cle l0, tt_br, tt_rt, pp_b_0]
  refine ⟨fun q2 => Or.inr ⟨_, by trivial, stop (fun z => q2 ?_)⟩, fun q2 => ?_⟩
  · have := pp_bp_iff.mp z.2
    exact ⟨z.1, this.2.2.2.1⟩
  have q2 := Classical.not_not.mp q2
  rw [tt_cle l1, tt_br, tt_rt, tt_rt, pp_b_0]
  refine ⟨fun q3 => Or.inr ⟨_, by trivial, stop (fun z => q3 ?_)⟩, fun q3 => ?_⟩
  · have := pp_bp_iff.mp z.2
    exact ⟨by omega, this.2.2.2.2⟩
  have q3 := Classical.not_not.mp q3
  refine Or.inl ⟨by omega, by rw [nI_1], by trivial, by omega, ?_⟩
  rw [pp_row_s ⟨by omega, pp_bp_iff.mpr ⟨q1.1, q1.2.1, q1.2.2, q2.2, q3.2⟩⟩] at i2
  rw [i2, show i + (k + 1) = i + k + 1 by omega, show j + (k + 1) = j + k + 1 by omega]
  omega
theorem pp_mLoose0 {τ : yy_T} {o : pp_Ed} {D : pp_D} (ho : pp_RM τ 114 0 o) (o14 : o.1 ≤ 14) (hD : pp_DM τ D) {l : Nat} (hl : l < 2 ^ 31) : mm_X10_isLoose 0 (nI l) τ = some (pp_b (l < o.1 ∧ D 0 l = 3), τ) := by
  have eM : mm_X10_many 0 τ = some (nI o.1, τ) := pp_many (w := 0) (by decide) ho
  have e0 : (14 : Int32) * 0 + nI l = nI l := by rw [show (14 : Int32) * 0 = 0 by decide, Int32.zero_add]
  apply tt_of
  simp only [mm_X10_isLoose, tt_cle eM, tt_br, tt_rA, tt_rt, e0]
  rw [nI_leI (by omega) hl, nI_clamp hl]
  refine ⟨fun q => ⟨(pp_b_f (fun z => by omega)).symm, by trivial⟩, fun q => ⟨pp_in (by omega) (by decide), ?_⟩⟩
  rw [(hD l (by omega)).1]
  exact ⟨fun z => ⟨(pp_b_t ⟨by omega, z⟩).symm, by trivial⟩, fun z => ⟨(pp_b_f (fun y => z y.2)).symm, by trivial⟩⟩
theorem pp_mLoose1 {τ : yy_T} {n : pp_Ed} {D : pp_D} (hn : pp_RM τ 114 127 n) (n14 : n.1 ≤ 14) (hD : pp_DM τ D) {l : Nat} (hl : l < 2 ^ 31) : mm_X10_isLoose 1 (nI l) τ = some (pp_b (l < n.1 ∧ D 1 l = 3), τ) := by
  have eM : mm_X10_many 1 τ = some (nI n.1, τ) := pp_many (w := 1) (by decide) hn
  have e0 : (14 : Int32) * 1 + nI l = nI (14 + l) := by rw [show (14 : Int32) * 1 = nI 14 by decide, nI_add]
  apply tt_of
  simp only [mm_X10_isLoose, tt_cle eM, tt_br, tt_rA, tt_rt, e0]
  rw [nI_leI (by omega) hl]
  refine ⟨fun q => ⟨(pp_b_f (fun z => by omega)).symm, by trivial⟩, fun q => ⟨pp_in (by omega) (by decide), ?_⟩⟩
  rw [nI_clamp (by omega), (hD l (by omega)).2.1]
  exact ⟨fun z => ⟨(pp_b_t ⟨by omega, z⟩).symm, by trivial⟩, fun z => ⟨(pp_b_f (fun y => z y.2)).symm, by trivial⟩⟩
theorem pp_blockFrom {τ : yy_T} {o n : pp_Ed} {D : pp_D} (ho : pp_RM τ 114 0 o) (wo : pp_wfE o) (hn : pp_RM τ 114 127 n) (wn : pp_wfE n) (hD : pp_DM τ D) {i j : Nat} (hi : i < 14) (hj : j < 14) : mm_X10_blockFrom (nI i) (nI j) τ = some (nI (pp_row (pp_bp o n D) i j), τ) := by
  have o14 := wo.1
  have n14 := wn.1
  apply tt_of
  simp only [mm_X10_blockFrom, mm_X10_blockFrom_2, tt_cl]
  refine tt_up 14 (fun k τ1 => τ1 = τ ∧ i + k ≤ 14 ∧ pp_row (pp_bp o n D) i j = k + pp_row (pp_bp o n D) (i + k) (j + k)) (fun k τ1 hk hI => ?_) 0 τ (Nat.zero_le _) ⟨rfl, by omega, by simp⟩
  obtain ⟨rfl, i1, i2⟩ := hI
  have stop : ¬ (i + k < 14 ∧ pp_bp o n D (i + k) (j + k) = true) → tt (mm_X10_blockFrom_43 (nI k)) τ1 (fun r τ2 => r = nI (pp_row (pp_bp o n D) i j) ∧ τ2 = τ1) := by
    intro h
    simp only [mm_X10_blockFrom_43, tt_rt]
    rw [pp_row_e h] at i2
    exact ⟨by rw [i2]; rfl, by trivial⟩
  simp only [mm_X10_blockFrom_2b, nI_add]
  rw [tt_cle (pp_mLoose0 ho o14 hD (by omega)), tt_br, tt_rt, pp_b_0]
  refine ⟨fun q1 => Or.inr ⟨_, by trivial, stop (fun z => q1 ?_)⟩, fun q1 => ?_⟩
  · have := pp_bp_iff.mp z.2
    exact ⟨this.1, this.2.2.2.1⟩
  have q1 := Classical.not_not.mp q1
  rw [tt_cle (pp_mLoose1 hn n14 hD (by omega)), tt_br, tt_rt, pp_b_0]
  refine ⟨fun q2 => Or.inr ⟨_, by trivial, stop (fun z => q2 ?_)⟩, fun q2 => ?_⟩
  · have := pp_bp_iff.mp z.2
    exact ⟨this.2.1, this.2.2.2.2⟩
  have q2 := Classical.not_not.mp q2
  rw [tt_cle (pp_alike2 ho wo hn wn q1.1 q2.1), tt_br, tt_rt, tt_rt, pp_b_0]
  refine ⟨fun q3 => Or.inr ⟨_, by trivial, stop (fun z => q3 ?_)⟩, fun q3 => ?_⟩
  · exact (pp_bp_iff.mp z.2).2.2.1
  have q3 := Classical.not_not.mp q3
  refine Or.inl ⟨by omega, by rw [nI_1], by trivial, by omega, ?_⟩
  rw [pp_row_s ⟨by omega, pp_bp_iff.mpr ⟨q1.1, q2.1, q3, q1.2, q2.2⟩⟩] at i2
  rw [i2, show i + (k + 1) = i + k + 1 by omega, show j + (k + 1) = j + k + 1 by omega]
  omega
/-- a block is moved -/
def pp_mv (D : pp_D) (i j : Nat) (v : Int32) : Nat → pp_D
  | 0 => D
  | m + 1 => pp_jn (pp_mv D i j v m) (nI 1) (i + m) (j + m) v
theorem pp_mv0 {D : pp_D} {i j : Nat} {v : Int32} : ∀ (m l : Nat), i + m ≤ l → pp_mv D i j v m 0 l = D 0 l
  | 0, l, h => rfl
  | m + 1, l, h => by
    rw [pp_mv, pp_jn0, if_neg (by omega)]
    exact pp_mv0 m l (by omega)
theorem pp_mv1 {D : pp_D} {i j : Nat} {v : Int32} : ∀ (m l : Nat), j + m ≤ l → pp_mv D i j v m 1 l = D 1 l
  | 0, l, h => rfl
  | m + 1, l, h => by
    rw [pp_mv, pp_jn1, if_neg (by omega)]
    exact pp_mv1 m l (by omega)
theorem pp_mv_W {o n : pp_Ed} {D : pp_D} {i j : Nat} {v : Int32} (h : pp_WD o n D) : ∀ (m : Nat), (∀ q, q < m → i + q < o.1 ∧ j + q < n.1) → pp_WD o n (pp_mv D i j v m)
  | 0, _ => h
  | m + 1, hq => (pp_mv_W h m (fun q h1 => hq q (by omega))).jn (by decide) (hq m (by omega)).1 (hq m (by omega)).2
theorem pp_cnt_dn {h : Nat → Int32} {u v : Int32} {i : Nat} (hv : h i = v) (hu : u ≠ v) : ∀ n, i < n → pp_cnt (fun l => if l = i then u else h l) v n + 1 = pp_cnt h v n
  | 0, hi => by omega
  | n + 1, hi => by
    rw [pp_cnt, pp_cnt]
    by_cases e : n = i
    · subst e
      rw [if_neg (by rw [if_pos rfl]; exact hu), if_pos hv, pp_cnt_cg n (h := fun l => if l = n then u else h l) (g := h) (fun l hl => if_neg (by omega))]
    · have := pp_cnt_dn hv hu n (by omega)
      simp only [if_neg e]
      omega
theorem pp_mv_c {D : pp_D} {i j : Nat} {v : Int32} : ∀ (m : Nat), i + m ≤ 14 → (∀ q, q < m → D 0 (i + q) = 3) → pp_cnt (pp_mv D i j v m 0) 3 14 + m = pp_cnt (D 0) 3 14
  | 0, _, _ => rfl
  | m + 1, hi, hq => by
    have h1 := pp_mv_c (D := D) (j := j) (v := v) m (by omega) (fun q h1 => hq q (by omega))
    have e : pp_mv D i j v (m + 1) 0 = fun l => if l = i + m then nI 1 else pp_mv D i j v m 0 l := rfl
    have h2 := pp_cnt_dn (h := pp_mv D i j v m 0) (u := nI 1) (v := 3) (i := i + m) (by rw [pp_mv0 m _ (Nat.le_refl _)]; exact hq m (by omega)) (by decide) 14 (by omega)
    rw [e]
    omega
abbrev pp_Bs : Type := pp_D × Nat × (Nat → Nat × Nat × Nat)
def pp_b2 (s : pp_Bs) (i j len : Nat) : pp_Bs := (pp_mv s.1 i j (nI s.2.1) len, s.2.1 + 1, fun q => if q = s.2.1 then (i, j, len) else s.2.2 q)
def pp_b1 (o n : pp_Ed) (s : pp_Bs) : pp_Bs := pp_b2 s ((pp_bs o n s.1).2 / 14) ((pp_bs o n s.1).2 % 14) (pp_bs o n s.1).1
def pp_br (o n : pp_Ed) : Nat → pp_Bs → pp_Bs
  | 0, s => s
  | m + 1, s => if (pp_bs o n s.1).1 = 0 then s else pp_br o n m (pp_b1 o n s)
def pp_BC (τ : yy_T) (k0 : Nat) (s : pp_Bs) : Prop := pp_DC τ k0 s.1 ∧ pp_CP τ k0 s.1 ∧ τ k0 7 = nI s.2.1 ∧ ∀ q, q < s.2.1 → τ (k0 + 11) q = nI (s.2.2 q).1 ∧ τ (k0 + 12) q = nI (s.2.2 q).2.1 ∧ τ (k0 + 13) q = nI (s.2.2 q).2.2
def pp_BM (τ : yy_T) (s : pp_Bs) : Prop := pp_DM τ s.1 ∧ τ 112 16 = nI s.2.1 ∧ ∀ q, q < s.2.1 → τ 122 (3 * q) = nI (s.2.2 q).1 ∧ τ 122 (3 * q + 1) = nI (s.2.2 q).2.1 ∧ τ 122 (3 * q + 2) = nI (s.2.2 q).2.2
def pp_BW (o n : pp_Ed) (s : pp_Bs) : Prop := pp_WD o n s.1 ∧ s.2.1 + pp_cnt (s.1 0) 3 14 ≤ 14
/-- what a found block is -/
theorem pp_bs_in {o n : pp_Ed} {D : pp_D} (h : (pp_bs o n D).1 ≠ 0) (o14 : o.1 ≤ 14) (n14 : n.1 ≤ 14) : (pp_bs o n D).2 < 196 ∧ (pp_bs o n D).2 / 14 + (pp_bs o n D).1 ≤ 14 ∧ (pp_bs o n D).2 % 14 + (pp_bs o n D).1 ≤ 14 ∧ ∀ q, q < (pp_bs o n D).1 → (pp_bs o n D).2 / 14 + q < o.1 ∧ (pp_bs o n D).2 % 14 + q < n.1 ∧ D 0 ((pp_bs o n D).2 / 14 + q) = 3 ∧ D 1 ((pp_bs o n D).2 % 14 + q) = 3 := by
  unfold pp_bs at h ⊢
  obtain ⟨h1, h2⟩ := pp_sc_in 196 h
  generalize pp_sc (pp_bf o n D) 196 = r at *
  have h3 : ∀ q, q < r.1 → r.2 / 14 + q < o.1 ∧ r.2 % 14 + q < n.1 ∧ D 0 (r.2 / 14 + q) = 3 ∧ D 1 (r.2 % 14 + q) = 3 := fun q hq => by
    rw [← h2] at hq
    have := pp_bp_iff.mp (pp_row_in _ (r.2 / 14) (r.2 % 14) q (Nat.le_refl _) hq)
    exact ⟨this.1, this.2.1, this.2.2.2⟩
  have h4 := h3 (r.1 - 1) (by omega)
  exact ⟨h1, by omega, by omega, h3⟩
theorem pp_b1_W {o n : pp_Ed} {s : pp_Bs} (hW : pp_BW o n s) (h : (pp_bs o n s.1).1 ≠ 0) (o14 : o.1 ≤ 14) (n14 : n.1 ≤ 14) : pp_BW o n (pp_b1 o n s) ∧ pp_cnt ((pp_b1 o n s).1 0) 3 14 < pp_cnt (s.1 0) 3 14 ∧ s.2.1 < 14 := by
  obtain ⟨h1, h2, h3, h4⟩ := pp_bs_in h o14 n14
  have hc : pp_cnt (pp_mv s.1 ((pp_bs o n s.1).2 / 14) ((pp_bs o n s.1).2 % 14) (nI s.2.1) (pp_bs o n s.1).1 0) 3 14 + (pp_bs o n s.1).1 = pp_cnt (s.1 0) 3 14 := pp_mv_c _ h2 (fun q hq => (h4 q hq).2.2.1)
  have w2 := hW.2
  refine ⟨⟨pp_mv_W hW.1 _ (fun q hq => ⟨(h4 q hq).1, (h4 q hq).2.1⟩), ?_⟩, ?_, by omega⟩
  · show s.2.1 + 1 + pp_cnt (pp_mv s.1 ((pp_bs o n s.1).2 / 14) ((pp_bs o n s.1).2 % 14) (nI s.2.1) (pp_bs o n s.1).1 0) 3 14 ≤ 14
    omega
  · show pp_cnt (pp_mv s.1 ((pp_bs o n s.1).2 / 14) ((pp_bs o n s.1).2 % 14) (nI s.2.1) (pp_bs o n s.1).1 0) 3 14 < pp_cnt (s.1 0) 3 14
    omega
theorem pp_br_W {o n : pp_Ed} (o14 : o.1 ≤ 14) (n14 : n.1 ≤ 14) : ∀ (m : Nat) (s : pp_Bs), pp_BW o n s → pp_BW o n (pp_br o n m s)
  | 0, s, h => h
  | m + 1, s, h => by
    rw [pp_br]
    by_cases e : (pp_bs o n s.1).1 = 0
    · rw [if_pos e]
      exact h
    · rw [if_neg e]
      exact pp_br_W o14 n14 m _ (pp_b1_W h e o14 n14).1
