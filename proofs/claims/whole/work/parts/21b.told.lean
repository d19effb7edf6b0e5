/-! WHAT IS TOLD of each line: how (0 old, 1 new), with which (2, 3), in which block (4, 5) -/
abbrev pp_D : Type := Nat → Nat → Int32
def pp_jn (D : pp_D) (as : Int32) (i j : Nat) (v : Int32) : pp_D := fun q l => if q = 0 then (if l = i then as else D 0 l) else if q = 1 then (if l = j then as else D 1 l) else if q = 2 then (if l = i then nI j else D 2 l) else if q = 3 then (if l = j then nI i else D 3 l) else if q = 4 then (if l = i then v else D 4 l) else if q = 5 then (if l = j then v else D 5 l) else D q l
theorem pp_jn0 {D : pp_D} {as v : Int32} {i j l : Nat} : pp_jn D as i j v 0 l = if l = i then as else D 0 l := rfl
theorem pp_jn1 {D : pp_D} {as v : Int32} {i j l : Nat} : pp_jn D as i j v 1 l = if l = j then as else D 1 l := rfl
theorem pp_jn2 {D : pp_D} {as v : Int32} {i j l : Nat} : pp_jn D as i j v 2 l = if l = i then nI j else D 2 l := rfl
theorem pp_jn3 {D : pp_D} {as v : Int32} {i j l : Nat} : pp_jn D as i j v 3 l = if l = j then nI i else D 3 l := rfl
theorem pp_jn4 {D : pp_D} {as v : Int32} {i j l : Nat} : pp_jn D as i j v 4 l = if l = i then v else D 4 l := rfl
theorem pp_jn5 {D : pp_D} {as v : Int32} {i j l : Nat} : pp_jn D as i j v 5 l = if l = j then v else D 5 l := rfl
def pp_DC (τ : yy_T) (k0 : Nat) (D : pp_D) : Prop := ∀ l, l < 14 → τ (k0 + 2) l = D 0 l ∧ τ (k0 + 3) l = D 1 l ∧ τ (k0 + 5) l = D 2 l ∧ τ (k0 + 6) l = D 3 l ∧ τ (k0 + 8) l = D 4 l ∧ τ (k0 + 9) l = D 5 l
def pp_DM (τ : yy_T) (D : pp_D) : Prop := ∀ l, l < 14 → τ 117 l = D 0 l ∧ τ 117 (14 + l) = D 1 l ∧ τ 118 l = D 2 l ∧ τ 118 (14 + l) = D 3 l ∧ τ 119 l = D 4 l ∧ τ 119 (14 + l) = D 5 l
theorem pp_DC.of {τ τ1 : yy_T} {k0 : Nat} {D : pp_D} (h : pp_DC τ k0 D) (e : ∀ a, k0 + 2 ≤ a → a < k0 + 10 → τ1 a = τ a) : pp_DC τ1 k0 D := by
  intro l hl
  rw [e (k0 + 2) (by omega) (by omega), e (k0 + 3) (by omega) (by omega), e (k0 + 5) (by omega) (by omega), e (k0 + 6) (by omega) (by omega), e (k0 + 8) (by omega) (by omega), e (k0 + 9) (by omega) (by omega)]
  exact h l hl
theorem pp_DM.of {τ τ1 : yy_T} {D : pp_D} (h : pp_DM τ D) (e1 : τ1 117 = τ 117) (e2 : τ1 118 = τ 118) (e3 : τ1 119 = τ 119) : pp_DM τ1 D := by
  intro l hl
  rw [e1, e2, e3]
  exact h l hl
def pp_cnt (h : Nat → Int32) (v : Int32) : Nat → Nat
  | 0 => 0
  | n + 1 => pp_cnt h v n + if h n = v then 1 else 0
theorem pp_cnt_le (h : Nat → Int32) (v : Int32) : ∀ n, pp_cnt h v n ≤ n
  | 0 => Nat.le_refl _
  | n + 1 => by
    have := pp_cnt_le h v n
    rw [pp_cnt]
    split <;> omega
theorem pp_cnt_cg {h g : Nat → Int32} {v : Int32} : ∀ n, (∀ l, l < n → h l = g l) → pp_cnt h v n = pp_cnt g v n
  | 0, _ => rfl
  | n + 1, e => by rw [pp_cnt, pp_cnt, pp_cnt_cg n (fun l hl => e l (by omega)), e n (by omega)]
theorem pp_cnt_up {h : Nat → Int32} {v : Int32} {i : Nat} (hv : h i ≠ v) : ∀ n, i < n → pp_cnt (fun l => if l = i then v else h l) v n = pp_cnt h v n + 1
  | 0, hi => by omega
  | n + 1, hi => by
    rw [pp_cnt, pp_cnt]
    by_cases e : n = i
    · subst e
      rw [if_pos (if_pos rfl), if_neg hv, pp_cnt_cg n (h := fun l => if l = n then v else h l) (g := h) (fun l hl => if_neg (by omega))]
    · rw [pp_cnt_up hv n (by omega)]
      simp only [if_neg e]
      omega
theorem pp_cnt_no {h : Nat → Int32} {u v : Int32} {i : Nat} (hu : h i ≠ u) (hv : v ≠ u) : ∀ n, pp_cnt (fun l => if l = i then v else h l) u n = pp_cnt h u n
  | 0 => rfl
  | n + 1 => by
    rw [pp_cnt, pp_cnt, pp_cnt_no hu hv n]
    by_cases e : n = i
    · subst e
      rw [if_neg (by rw [if_pos rfl]; exact hv), if_neg hu]
    · simp only [if_neg e]
/-- couples are counted on both sides -/
def pp_CP (τ : yy_T) (k0 : Nat) (D : pp_D) : Prop := ∀ as, as < 3 → τ (k0 + 10) as = nI (pp_cnt (D 0) (nI as) 14) ∧ pp_cnt (D 1) (nI as) 14 = pp_cnt (D 0) (nI as) 14
theorem pp_3as {as : Nat} (h : as < 3) : (3 : Int32) ≠ nI as := by
  rw [show (3 : Int32) = nI 3 by rfl, Ne, nI_eq (by omega) (by omega)]
  omega
theorem pp_isLoose {τ : yy_T} {k0 w l : Nat} {D : pp_D} (h : pp_DC τ k0 D) (hw : w < 2) (hl : l < 2 ^ 31) : mm_X8_isLoose k0 (nI w) (nI l) τ = some (pp_b (l < 14 ∧ D w l = 3), τ) := by
  have n0 : ¬ nI l < 0 := nI_pos hl
  have c14 : (14 : Int32) ≤ nI l ↔ 14 ≤ l := by rw [show (14 : Int32) = nI 14 by rfl, nI_leI (by omega) (by omega)]
  apply tt_of
  simp only [mm_X8_isLoose, tt_br, tt_rt, tt_ck, tt_rA, c14]
  refine ⟨fun q => absurd q n0, fun _ => ⟨fun q => ⟨(pp_b_f (fun z => by omega)).symm, by trivial⟩, fun q => ⟨pp_in hw (by decide), pp_in (by omega) (by decide), ?_⟩⟩⟩
  rw [nI_clamp (show w < 2 ^ 31 by omega), nI_clamp hl]
  have e : τ (k0 + 1 + 1 + w) l = D w l := by
    have := h l (by omega)
    rcases (show w = 0 ∨ w = 1 by omega) with rfl | rfl
    · exact this.1
    · exact this.2.1
  rw [e]
  exact ⟨fun q2 => ⟨(pp_b_t ⟨by omega, q2⟩).symm, by trivial⟩, fun q2 => ⟨(pp_b_f (fun z => q2 z.2)).symm, by trivial⟩⟩
theorem pp_join {τ : yy_T} {k0 as i j : Nat} {D : pp_D} {v : Int32} (hD : pp_DC τ k0 D) (hc : pp_CP τ k0 D) (ha : as < 3) (hi : i < 14) (hj : j < 14) (h0 : D 0 i = 3) (h1 : D 1 j = 3) : tt (mm_X8_join k0 (nI as) (nI i) (nI j) v) τ (fun _ τ1 => pp_DC τ1 k0 (pp_jn D (nI as) i j v) ∧ pp_CP τ1 k0 (pp_jn D (nI as) i j v) ∧ ∀ a, (a < k0 + 2 ∨ k0 + 11 ≤ a) → τ1 a = τ a) := by
  have e0 : mm_X8_isLoose k0 0 (nI i) τ = some (1, τ) := by
    have := pp_isLoose (w := 0) (l := i) hD (by decide) (by omega)
    rw [pp_b_t ⟨hi, h0⟩] at this
    exact this
  have e1 : mm_X8_isLoose k0 1 (nI j) τ = some (1, τ) := by
    have := pp_isLoose (w := 1) (l := j) hD (by decide) (by omega)
    rw [pp_b_t ⟨hj, h1⟩] at this
    exact this
  have c0 : Int32.toNatClampNeg 0 = 0 := rfl
  have c1 : Int32.toNatClampNeg 1 = 1 := rfl
  have ii : (nI i).toNatClampNeg = i := nI_clamp (by omega)
  have jj : (nI j).toNatClampNeg = j := nI_clamp (by omega)
  have aa : (nI as).toNatClampNeg = as := nI_clamp (by omega)
  simp only [mm_X8_join, tt_cle e0, tt_cle e1, tt_br, tt_rt, tt_ck, tt_wA, tt_rA, c0, c1, ii, jj, aa]
  refine ⟨fun q => absurd q (by decide), fun _ => ⟨fun q => absurd q (by decide), fun _ => ⟨by decide, pp_in hi (by decide), by decide, pp_in hj (by decide), by decide, pp_in hi (by decide), by decide, pp_in hj (by decide), by decide, pp_in hi (by decide), by decide, pp_in hj (by decide), pp_in ha (by decide), pp_in ha (by decide), ?_, ?_, ?_⟩⟩⟩
  · intro l hl
    obtain ⟨d0, d1, d2, d3, d4, d5⟩ := hD l hl
    simp only [yy_upx, pp_jn0, pp_jn1, pp_jn2, pp_jn3, pp_jn4, pp_jn5, ← d0, ← d1, ← d2, ← d3, ← d4, ← d5]
    simp
  · intro b hb
    obtain ⟨k1, k2⟩ := hc b hb
    have k3 := hc as ha
    simp only [yy_upx]
    have x0 : pp_jn D (nI as) i j v 0 = fun l => if l = i then nI as else D 0 l := rfl
    have x1 : pp_jn D (nI as) i j v 1 = fun l => if l = j then nI as else D 1 l := rfl
    rw [x0, x1]
    by_cases e : b = as
    · subst e
      rw [pp_cnt_up (by rw [h0]; exact pp_3as hb) 14 hi, pp_cnt_up (by rw [h1]; exact pp_3as hb) 14 hj, k2]
      simp [k1, nI_1]
    · have ne : nI as ≠ nI b := by
        rw [Ne, nI_eq (by omega) (by omega)]
        omega
      rw [pp_cnt_no (by rw [h0]; exact pp_3as hb) ne, pp_cnt_no (by rw [h1]; exact pp_3as hb) ne, k2]
      simp [k1, e]
  · intro a ha2
    funext l
    simp only [yy_upx]
    repeat rw [if_neg (by omega)]
def pp_De : pp_D := fun q _ => if q < 2 then 3 else -1
theorem pp_clear {τ : yy_T} {k0 : Nat} : tt (mm_X8_clear k0) τ (fun _ τ1 => pp_DC τ1 k0 pp_De ∧ pp_CP τ1 k0 pp_De ∧ τ1 k0 7 = 0 ∧ τ1 k0 8 = 0 ∧ τ1 k0 9 = 0 ∧ τ1 k0 10 = 0 ∧ ∀ a, (a < k0 ∨ k0 + 11 ≤ a) → τ1 a = τ a) := by
  simp only [mm_X8_clear, mm_X8_clear_2, tt_cl]
  refine tt_up 2 (fun w τ1 => (∀ v l, v < w → l < 14 → τ1 (k0 + 2 + v) l = 3 ∧ τ1 (k0 + 5 + v) l = -1 ∧ τ1 (k0 + 8 + v) l = -1) ∧ ∀ a, (a < k0 ∨ k0 + 11 ≤ a) → τ1 a = τ a) (fun w τ1 hw hI => ?_) 0 τ (Nat.zero_le _) ⟨fun v l hv => absurd hv (Nat.not_lt_zero v), fun a _ => rfl⟩
  obtain ⟨i1, i2⟩ := hI
  have c1 : (1 : Int32) < nI w ↔ 1 < w := by rw [show (1 : Int32) = nI 1 by rfl, nI_ltI (by omega) (by omega)]
  simp only [mm_X8_clear_2b, tt_br, tt_rt, c1]
  refine ⟨fun q => Or.inr ⟨(), by trivial, ?_⟩, fun q => ?_⟩
  · simp only [mm_X8_clear_54, tt_wA, tt_wF, tt_rt]
    refine ⟨by decide, by decide, by decide, fun l hl => ?_, fun as ha => ?_, by simp [yy_upx], by simp [yy_upx], by simp [yy_upx], by simp [yy_upx], fun a ha => ?_⟩
    · have z0 := i1 0 l (by omega) hl
      have z1 := i1 1 l (by omega) hl
      simp only [yy_upx]
      rw [Nat.add_zero, Nat.add_zero, Nat.add_zero] at z0
      simp [pp_De]
      exact ⟨z0.1, z1.1, z0.2.1, z1.2.1, z0.2.2, z1.2.2⟩
    · rcases (show as = 0 ∨ as = 1 ∨ as = 2 by omega) with rfl | rfl | rfl
      · exact ⟨by simp [yy_upx]; decide, by decide⟩
      · exact ⟨by simp [yy_upx]; decide, by decide⟩
      · exact ⟨by simp [yy_upx]; decide, by decide⟩
    · rw [← i2 a ha]
      funext l
      simp only [yy_upx]
      repeat rw [if_neg (by omega)]
  · simp only [mm_X8_clear_9, tt_cl]
    refine tt_up 14 (fun k τ2 => (∀ l, l < k → τ2 (k0 + 2 + w) l = 3 ∧ τ2 (k0 + 5 + w) l = -1 ∧ τ2 (k0 + 8 + w) l = -1) ∧ (∀ v l, v < w → l < 14 → τ2 (k0 + 2 + v) l = 3 ∧ τ2 (k0 + 5 + v) l = -1 ∧ τ2 (k0 + 8 + v) l = -1) ∧ ∀ a, (a < k0 ∨ k0 + 11 ≤ a) → τ2 a = τ a) (fun k τ2 hk hI => ?_) 0 τ1 (Nat.zero_le _) ⟨fun l hl => absurd hl (Nat.not_lt_zero l), i1, i2⟩
    obtain ⟨j0, j1, j2⟩ := hI
    have c14 : (14 : Int32) ≤ nI k ↔ 14 ≤ k := by rw [show (14 : Int32) = nI 14 by rfl, nI_leI (by omega) (by omega)]
    simp only [mm_X8_clear_9b, tt_br, tt_rt, c14, tt_ck, tt_wA]
    refine ⟨fun q2 => Or.inr ⟨(), by trivial, ?_⟩, fun q2 => ?_⟩
    · simp only [mm_X8_clear_48, tt_rt]
      refine Or.inl ⟨by omega, by rw [nI_1], fun v l hv hl => ?_, j2⟩
      by_cases e : v = w
      · rw [e]
        exact j0 l (by omega)
      · exact j1 v l (by omega) hl
    · rw [nI_clamp (show w < 2 ^ 31 by omega), nI_clamp (show k < 2 ^ 31 by omega)]
      refine ⟨pp_in (by omega) (by decide), pp_in (by omega) (by decide), pp_in (by omega) (by decide), pp_in (by omega) (by decide), pp_in (by omega) (by decide), pp_in (by omega) (by decide), Or.inl ⟨by omega, by rw [nI_1], fun l hl => ?_, fun v l hv hl => ?_, fun a ha => ?_⟩⟩
      · simp only [yy_upx]
        by_cases e : l = k
        · subst e
          refine ⟨?_, ?_, ?_⟩
          · rw [if_neg (by omega), if_neg (by omega)]
            first | done | simp
          · rw [if_neg (by omega)]
            first | done | simp
          · simp
        · simp only [if_neg e]
          have := j0 l (by omega)
          simp only [ite_self]
          exact this
      · have := j1 v l hv hl
        simp only [yy_upx]
        refine ⟨?_, ?_, ?_⟩
        · rw [if_neg (by omega), if_neg (by omega), if_neg (by omega)]
          exact this.1
        · rw [if_neg (by omega), if_neg (by omega), if_neg (by omega)]
          exact this.2.1
        · rw [if_neg (by omega), if_neg (by omega), if_neg (by omega)]
          exact this.2.2
      · rw [← j2 a ha]
        funext l
        simp only [yy_upx]
        rw [if_neg (by omega), if_neg (by omega), if_neg (by omega)]
/-- kept couples, and nothing else, are told -/
def pp_RK (D : pp_D) (K : List (Nat × Nat)) : Prop := (∀ p ∈ K, D 0 p.1 = 0 ∧ D 1 p.2 = 0 ∧ D 2 p.1 = nI p.2 ∧ D 3 p.2 = nI p.1) ∧ (∀ i, i < 14 → (∀ p ∈ K, p.1 ≠ i) → D 0 i = 3 ∧ D 2 i = -1) ∧ (∀ j, j < 14 → (∀ p ∈ K, p.2 ≠ j) → D 1 j = 3 ∧ D 3 j = -1) ∧ ∀ l, l < 14 → D 4 l = -1 ∧ D 5 l = -1
theorem pp_RK_e : pp_RK pp_De [] := ⟨fun p hp => absurd hp List.not_mem_nil, fun i _ _ => ⟨rfl, rfl⟩, fun i _ _ => ⟨rfl, rfl⟩, fun l _ => ⟨rfl, rfl⟩⟩
theorem pp_RK.cg {D : pp_D} {K L : List (Nat × Nat)} (h : pp_RK D K) (e : ∀ p, p ∈ L ↔ p ∈ K) : pp_RK D L := ⟨fun p hp => h.1 p ((e p).mp hp), fun i hi hn => h.2.1 i hi (fun p hp => hn p ((e p).mpr hp)), fun i hi hn => h.2.2.1 i hi (fun p hp => hn p ((e p).mpr hp)), h.2.2.2⟩
theorem pp_RK.jn {D : pp_D} {K : List (Nat × Nat)} {i j : Nat} (h : pp_RK D K) (hf : ∀ p ∈ K, p.1 ≠ i ∧ p.2 ≠ j) : pp_RK (pp_jn D 0 i j (-1)) ((i, j) :: K) := by
  obtain ⟨h1, h2, h3, h4⟩ := h
  refine ⟨fun p hp => ?_, fun l hl hn => ?_, fun l hl hn => ?_, fun l hl => ?_⟩
  · rcases List.mem_cons.mp hp with rfl | hp
    · simp only [pp_jn0, pp_jn1, pp_jn2, pp_jn3, if_true]
      exact ⟨trivial, trivial, trivial, trivial⟩
    · obtain ⟨f1, f2⟩ := hf p hp
      simp only [pp_jn0, pp_jn1, pp_jn2, pp_jn3, if_neg f1, if_neg f2]
      exact h1 p hp
  · have := hn (i, j) List.mem_cons_self
    have e : ¬ l = i := fun q => this q.symm
    simp only [pp_jn0, pp_jn2, if_neg e]
    exact h2 l hl (fun p hp => hn p (List.mem_cons_of_mem _ hp))
  · have := hn (i, j) List.mem_cons_self
    have e : ¬ l = j := fun q => this q.symm
    simp only [pp_jn1, pp_jn3, if_neg e]
    exact h3 l hl (fun p hp => hn p (List.mem_cons_of_mem _ hp))
  · simp only [pp_jn4, pp_jn5]
    obtain ⟨a1, a2⟩ := h4 l hl
    rw [a1, a2]
    simp
theorem pp_RK.lo {D : pp_D} {K : List (Nat × Nat)} {i j : Nat} (h : pp_RK D K) (hi : i < 14) (hj : j < 14) (hf : ∀ p ∈ K, p.1 ≠ i ∧ p.2 ≠ j) : D 0 i = 3 ∧ D 1 j = 3 := ⟨(h.2.1 i hi (fun p hp => (hf p hp).1)).1, (h.2.2.1 j hj (fun p hp => (hf p hp).2)).1⟩
/-- told by the couples alone -/
def pp_D0 (K : List (Nat × Nat)) : pp_D := fun q l => if q = 0 then (match K.find? (fun p => p.1 == l) with | some _ => 0 | none => 3) else if q = 1 then (match K.find? (fun p => p.2 == l) with | some _ => 0 | none => 3) else if q = 2 then (match K.find? (fun p => p.1 == l) with | some p => nI p.2 | none => -1) else if q = 3 then (match K.find? (fun p => p.2 == l) with | some p => nI p.1 | none => -1) else -1
theorem pp_RK_D0 {D : pp_D} {K : List (Nat × Nat)} (h : pp_RK D K) : ∀ l, l < 14 → D 0 l = pp_D0 K 0 l ∧ D 1 l = pp_D0 K 1 l ∧ D 2 l = pp_D0 K 2 l ∧ D 3 l = pp_D0 K 3 l ∧ D 4 l = pp_D0 K 4 l ∧ D 5 l = pp_D0 K 5 l := by
  intro l hl
  obtain ⟨h1, h2, h3, h4⟩ := h
  have a : D 0 l = pp_D0 K 0 l ∧ D 2 l = pp_D0 K 2 l := by
    show D 0 l = (match K.find? (fun p => p.1 == l) with | some _ => (0 : Int32) | none => 3) ∧ D 2 l = (match K.find? (fun p => p.1 == l) with | some p => nI p.2 | none => -1)
    cases hf : K.find? (fun p => p.1 == l) with
    | none =>
      have hn := List.find?_eq_none.mp hf
      exact h2 l hl (fun p hp q => hn p hp (by rw [q]; exact beq_self_eq_true _))
    | some p =>
      have e : p.1 = l := by
        have := List.find?_some hf
        exact eq_of_beq this
      obtain ⟨z1, z2, z3, z4⟩ := h1 p (List.mem_of_find?_eq_some hf)
      rw [e] at z1 z3
      exact ⟨z1, z3⟩
  have b : D 1 l = pp_D0 K 1 l ∧ D 3 l = pp_D0 K 3 l := by
    show D 1 l = (match K.find? (fun p => p.2 == l) with | some _ => (0 : Int32) | none => 3) ∧ D 3 l = (match K.find? (fun p => p.2 == l) with | some p => nI p.1 | none => -1)
    cases hf : K.find? (fun p => p.2 == l) with
    | none =>
      have hn := List.find?_eq_none.mp hf
      exact h3 l hl (fun p hp q => hn p hp (by rw [q]; exact beq_self_eq_true _))
    | some p =>
      have e : p.2 = l := by
        have := List.find?_some hf
        exact eq_of_beq this
      obtain ⟨z1, z2, z3, z4⟩ := h1 p (List.mem_of_find?_eq_some hf)
      rw [e] at z2 z4
      exact ⟨z2, z4⟩
  exact ⟨a.1, b.1, a.2, b.2, (h4 l hl).1, (h4 l hl).2⟩
theorem pp_DC.D0 {τ : yy_T} {k0 : Nat} {D : pp_D} {K : List (Nat × Nat)} (h : pp_DC τ k0 D) (r : pp_RK D K) : pp_DC τ k0 (pp_D0 K) := by
  intro l hl
  obtain ⟨a0, a1, a2, a3, a4, a5⟩ := pp_RK_D0 r l hl
  rw [← a0, ← a1, ← a2, ← a3, ← a4, ← a5]
  exact h l hl
theorem pp_DM.D0 {τ : yy_T} {D : pp_D} {K : List (Nat × Nat)} (h : pp_DM τ D) (r : pp_RK D K) : pp_DM τ (pp_D0 K) := by
  intro l hl
  obtain ⟨a0, a1, a2, a3, a4, a5⟩ := pp_RK_D0 r l hl
  rw [← a0, ← a1, ← a2, ← a3, ← a4, ← a5]
  exact h l hl
theorem pp_CP.D0 {τ : yy_T} {k0 : Nat} {D : pp_D} {K : List (Nat × Nat)} (h : pp_CP τ k0 D) (r : pp_RK D K) : pp_CP τ k0 (pp_D0 K) := by
  intro as ha
  rw [← pp_cnt_cg (h := D 0) (g := pp_D0 K 0) 14 (fun l hl => (pp_RK_D0 r l hl).1), ← pp_cnt_cg (h := D 1) (g := pp_D0 K 1) 14 (fun l hl => (pp_RK_D0 r l hl).2.1)]
  exact h as ha
/-- the reference couples two lines -/
theorem pp_mCouple {τ : yy_T} {i j : Nat} {D : pp_D} {as v : Int32} (hD : pp_DM τ D) (hi : i < 14) (hj : j < 14) (h4 : D 4 i = v) (h5 : D 5 j = v) : tt (mm_X10_couples (nI i) (nI j) as) τ (fun _ τ1 => pp_DM τ1 (pp_jn D as i j v) ∧ ∀ a, a ≠ 117 → a ≠ 118 → τ1 a = τ a) := by
  have ii : (nI i).toNatClampNeg = i := nI_clamp (by omega)
  have jj : ((14 : Int32) + nI j).toNatClampNeg = 14 + j := by rw [show (14 : Int32) = nI 14 by rfl, nI_add, nI_clamp (by omega)]
  have j1 : yy_in ((14 : Int32) + nI j) 28 = true := by rw [show (14 : Int32) = nI 14 by rfl, nI_add]; exact pp_in (by omega) (by decide)
  simp only [mm_X10_couples, tt_wA, tt_rt, ii, jj]
  refine ⟨pp_in (by omega) (by decide), j1, pp_in (by omega) (by decide), j1, fun l hl => ?_, fun a a1 a2 => ?_⟩
  · obtain ⟨d0, d1, d2, d3, d4, d5⟩ := hD l hl
    have n1 : ¬ l = 14 + j := by omega
    have n2 : ¬ 14 + l = i := by omega
    have n3 : (14 + l = 14 + j) = (l = j) := propext (by omega)
    simp only [yy_upx, pp_jn0, pp_jn1, pp_jn2, pp_jn3, pp_jn4, pp_jn5, n1, n2, n3, ← d0, ← d1, ← d2, ← d3, if_false]
    refine ⟨by simp, by simp, by simp, by simp, ?_, ?_⟩
    · simp only [Nat.reduceEqDiff, if_false]
      rw [d4]
      by_cases e : l = i
      · rw [if_pos e, e, h4]
      · rw [if_neg e]
    · simp only [Nat.reduceEqDiff, if_false]
      rw [d5]
      by_cases e : l = j
      · rw [if_pos e, e, h5]
      · rw [if_neg e]
  · funext l
    simp [yy_upx, a1, a2]
