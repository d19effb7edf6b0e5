/-! THE CLASS'S KEEPER: ranges that wait -/
abbrev pp_N4 : Type := Nat × Nat × Nat × Nat
def pp_KR (o n : pp_Ed) (R : pp_N4) : List (Nat × Nat) := pp_KK (pp_EL o n) (pp_EL o o) R.1 R.2.1 R.2.2.1 R.2.2.2
def pp_Qu (τ : yy_T) (r0 : Nat) (L : List pp_N4) : Prop := ∀ i R, L[i]? = some R → pp_R τ (r0 + i) R.1 R.2.1 R.2.2.1 R.2.2.2
def pp_sm : List pp_N4 → Nat
  | [] => 0
  | R :: L => (R.2.1 - R.1) + pp_sm L
theorem pp_sm_app (R : pp_N4) : ∀ L, pp_sm (L ++ [R]) = pp_sm L + (R.2.1 - R.1)
  | [] => by simp [pp_sm]
  | S :: L => by
    simp only [List.cons_append, pp_sm, pp_sm_app R L]
    omega
theorem pp_sm_len : ∀ L : List pp_N4, (∀ R ∈ L, R.1 < R.2.1) → L.length ≤ pp_sm L
  | [], _ => Nat.le_refl _
  | S :: L, h => by
    have h1 := pp_sm_len L (fun R hR => h R (List.mem_cons_of_mem _ hR))
    have h2 := h S List.mem_cons_self
    simp only [List.length_cons, pp_sm]
    omega
def pp_dj (R S : pp_N4) : Prop := (R.2.1 ≤ S.1 ∨ S.2.1 ≤ R.1) ∧ (R.2.2.2 ≤ S.2.2.1 ∨ S.2.2.2 ≤ R.2.2.1)
def pp_ok (o n : pp_Ed) (R : pp_N4) : Prop := R.1 < R.2.1 ∧ R.2.1 ≤ o.1 ∧ R.2.2.1 < R.2.2.2 ∧ R.2.2.2 ≤ n.1
def pp_QS (τ : yy_T) (o n : pp_Ed) (K : List (Nat × Nat)) (r0 : Nat) (L : List pp_N4) : Prop := τ 53 4 = nI (r0 + L.length) ∧ pp_Qu τ r0 L ∧ (∀ R ∈ L, pp_ok o n R ∧ pp_Fr K R.1 R.2.1 R.2.2.1 R.2.2.2) ∧ L.Pairwise pp_dj
theorem pp_addQ {τ : yy_T} {k0 r0 a b c d : Nat} {o n : pp_Ed} {D : pp_D} {K : List (Nat × Nat)} {L : List pp_N4} (hk : 61 ≤ k0) (S : pp_KS τ k0 o n D K) (hQ : pp_QS τ o n K r0 L) (o14 : o.1 ≤ 14) (n14 : n.1 ≤ 14) (ha : a ≤ 14) (hc : c ≤ 14) (hb : b ≤ o.1) (hd : d ≤ n.1) (hF : pp_Fr K a b c d) (hdj : ∀ R ∈ L, pp_dj R (a, b, c, d)) (hroom : a < b → r0 + L.length < 14) (hr0 : r0 + L.length < 2 ^ 31) : tt (mm_X3_addRange (nI a) (nI b) (nI c) (nI d)) τ (fun _ τ1 => ∃ L1, pp_KS τ1 k0 o n D K ∧ pp_QS τ1 o n K r0 L1 ∧ pp_sm L1 ≤ pp_sm L + (b - a) ∧ (∀ p, (∃ R ∈ L1, p ∈ pp_KR o n R) ↔ ((∃ R ∈ L, p ∈ pp_KR o n R) ∨ p ∈ pp_KK (pp_EL o n) (pp_EL o o) a b c d)) ∧ (∀ S1, (∀ R ∈ L, pp_dj R S1) → pp_dj (a, b, c, d) S1 → ∀ R ∈ L1, pp_dj R S1) ∧ (∀ q, q < r0 → τ1 54 q = τ 54 q ∧ τ1 55 q = τ 55 q ∧ τ1 56 q = τ 56 q ∧ τ1 57 q = τ 57 q) ∧ (∀ q, q ≠ 4 → τ1 53 q = τ 53 q) ∧ ∀ x, (x < 53 ∨ 58 ≤ x) → τ1 x = τ x) := by
  obtain ⟨q1, q2, q3, q4⟩ := hQ
  simp only [mm_X3_addRange, tt_br]
  rw [nI_leI (by omega) (by omega), nI_leI (by omega) (by omega), tt_rt]
  have out : ¬ (a < b ∧ c < d) → ∃ L1, pp_KS τ k0 o n D K ∧ pp_QS τ o n K r0 L1 ∧ pp_sm L1 ≤ pp_sm L + (b - a) ∧ (∀ p, (∃ R ∈ L1, p ∈ pp_KR o n R) ↔ ((∃ R ∈ L, p ∈ pp_KR o n R) ∨ p ∈ pp_KK (pp_EL o n) (pp_EL o o) a b c d)) ∧ (∀ S1, (∀ R ∈ L, pp_dj R S1) → pp_dj (a, b, c, d) S1 → ∀ R ∈ L1, pp_dj R S1) ∧ (∀ q, q < r0 → τ 54 q = τ 54 q ∧ τ 55 q = τ 55 q ∧ τ 56 q = τ 56 q ∧ τ 57 q = τ 57 q) ∧ (∀ q, q ≠ 4 → τ 53 q = τ 53 q) ∧ ∀ x, (x < 53 ∨ 58 ≤ x) → τ x = τ x := by
    intro z
    refine ⟨L, S, ⟨q1, q2, q3, q4⟩, by omega, fun p => ?_, fun S1 h1 _ => h1, fun q _ => ⟨rfl, rfl, rfl, rfl⟩, fun q _ => rfl, fun x _ => rfl⟩
    rw [pp_KK_out z]
    exact ⟨fun y => Or.inl y, fun y => y.elim id (fun y => absurd y List.not_mem_nil)⟩
  refine ⟨fun z => out (by omega), fun z => ⟨fun z2 => out (by omega), fun z2 => ?_⟩⟩
  have hin : a < b ∧ c < d := by omega
  have rm := hroom hin.1
  generalize hg : r0 + L.length = g at *
  have gg : (nI g).toNatClampNeg = g := nI_clamp (by omega)
  have lt : nI g < 14 := by
    rw [show (14 : Int32) = nI 14 by rfl, nI_ltI (by omega) (by omega)]
    exact rm
  have ig : yy_in (nI g) 14 = true := pp_in rm (by decide)
  have e1 : yy_up τ 54 g (nI a) 53 4 = nI g := by simp [yy_upx, q1]
  have e2 : yy_up (yy_up τ 54 g (nI a)) 55 g (nI b) 53 4 = nI g := by simp [yy_upx, q1]
  have e3 : yy_up (yy_up (yy_up τ 54 g (nI a)) 55 g (nI b)) 56 g (nI c) 53 4 = nI g := by simp [yy_upx, q1]
  have e4 : yy_up (yy_up (yy_up (yy_up τ 54 g (nI a)) 55 g (nI b)) 56 g (nI c)) 57 g (nI d) 53 4 = nI g := by simp [yy_upx, q1]
  simp only [tt_rF, tt_wA, tt_wF, tt_rt, tt_br, q1, gg, e1, e2, e3, e4, ig, true_and]
  refine ⟨fun _ => ?_, fun q => absurd lt q⟩
  generalize hτ1 : yy_up (yy_up (yy_up (yy_up (yy_up τ 54 g (nI a)) 55 g (nI b)) 56 g (nI c)) 57 g (nI d)) 53 4 (nI g + 1) = τ1
  have f1 : ∀ x, (x < 53 ∨ 58 ≤ x) → τ1 x = τ x := fun x hx => by
    rw [← hτ1]
    funext l
    simp only [yy_upx]
    repeat rw [if_neg (by omega)]
  have f2 : ∀ q, q ≠ g → τ1 54 q = τ 54 q ∧ τ1 55 q = τ 55 q ∧ τ1 56 q = τ 56 q ∧ τ1 57 q = τ 57 q := fun q hq => by
    rw [← hτ1]
    simp [yy_upx, hq]
  have f3 : pp_R τ1 g a b c d := by
    rw [← hτ1]
    unfold pp_R
    simp [yy_upx]
  refine ⟨L ++ [(a, b, c, d)], S.of (fun x hx => f1 x (by omega)) hk, ⟨?_, fun i R hi => ?_, fun R hR => ?_, ?_⟩, by rw [pp_sm_app]; exact Nat.le_refl _, fun p => ?_, fun S1 h1 h2 R hR => ?_, fun q hq => f2 q (by omega), fun q hq => ?_, f1⟩
  · rw [List.length_append, ← Nat.add_assoc, hg, ← hτ1]
    simp [yy_upx, nI_1]
  · by_cases e : i < L.length
    · rw [List.getElem?_append_left e] at hi
      obtain ⟨u1, u2, u3, u4⟩ := q2 i R hi
      obtain ⟨v1, v2, v3, v4⟩ := f2 (r0 + i) (by omega)
      exact ⟨by rw [v1]; exact u1, by rw [v2]; exact u2, by rw [v3]; exact u3, by rw [v4]; exact u4⟩
    · rw [List.getElem?_append_right (by omega)] at hi
      have e2 : i - L.length = 0 := by
        have := (List.getElem?_eq_some_iff.mp hi).1
        simp only [List.length_singleton] at this
        omega
      rw [e2] at hi
      have e3 : R = (a, b, c, d) := (Option.some.inj hi).symm
      rw [e3, show r0 + i = g by omega]
      exact f3
  · rcases List.mem_append.mp hR with h | h
    · exact q3 R h
    · rw [List.mem_singleton.mp h]
      exact ⟨⟨hin.1, hb, hin.2, hd⟩, hF⟩
  · rw [List.pairwise_append]
    refine ⟨q4, List.pairwise_singleton _ _, fun R hR S1 h1 => ?_⟩
    rw [List.mem_singleton.mp h1]
    exact hdj R hR
  · constructor
    · rintro ⟨R, hR, hp⟩
      rcases List.mem_append.mp hR with h | h
      · exact Or.inl ⟨R, h, hp⟩
      · rw [List.mem_singleton.mp h] at hp
        exact Or.inr hp
    · rintro (⟨R, hR, hp⟩ | hp)
      · exact ⟨R, List.mem_append_left _ hR, hp⟩
      · exact ⟨(a, b, c, d), List.mem_append_right _ List.mem_cons_self, hp⟩
  · rcases List.mem_append.mp hR with h | h
    · exact h1 R h
    · rw [List.mem_singleton.mp h]
      exact h2
  · rw [← hτ1]
    simp [yy_upx, hq]
theorem pp_P_gap {Kr : Nat → Nat → Nat → Nat → List (Nat × Nat)} {A : Nat → Nat} {b c d x f : Nat} : ∀ (n i j : Nat), j - i ≤ n → i ≤ j → j ≤ b → (∀ k, i ≤ k → k < j → A k = 0) → pp_P Kr A b c d i x f = pp_P Kr A b c d j x f
  | 0, i, j, h, h1, h2, h3 => by rw [show i = j by omega]
  | n + 1, i, j, h, h1, h2, h3 => by
    by_cases e : i = j
    · rw [e]
    · rw [pp_P_n (by omega) (fun q => by have := h3 i (Nat.le_refl _) (by omega); omega)]
      exact pp_P_gap n (i + 1) j (by omega) (by omega) h2 (fun k a1 a2 => h3 k (by omega) a2)
