/-! PURE: programs answer, and what they leave behind -/
def tt {α : Type} (P : yy_M α) (τ : yy_T) (Q : α → yy_T → Prop) : Prop := ∃ (r : α) (τ1 : yy_T), P τ = some (r, τ1) ∧ Q r τ1
section
variable {α β : Type} {τ : yy_T} {Q : α → yy_T → Prop}
theorem tt_rt {r : α} : tt (yy_rt r) τ Q ↔ Q r τ := by
  constructor
  · rintro ⟨r1, τ1, h, hq⟩
    cases h
    exact hq
  · intro h
    exact ⟨r, τ, rfl, h⟩
theorem tt_rF {a k : Nat} {K : Int32 → yy_M α} : tt (yy_rF a k K) τ Q ↔ tt (K (τ a k)) τ Q := Iff.rfl
theorem tt_wF {a k : Nat} {v : Int32} {K : yy_M α} : tt (yy_wF a k v K) τ Q ↔ tt K (yy_up τ a k v) Q := Iff.rfl
theorem tt_if {c : Prop} [Decidable c] {P : yy_M α} {x : yy_T → yy_T} : (∃ (r : α) (τ1 : yy_T), (if c then P (x τ) else none) = some (r, τ1) ∧ Q r τ1) ↔ c ∧ ∃ (r : α) (τ1 : yy_T), P (x τ) = some (r, τ1) ∧ Q r τ1 := by
  by_cases hc : c
  · simp only [hc, if_true, true_and]
  · simp only [hc, if_false, false_and, iff_false]
    rintro ⟨r, τ1, h, -⟩
    cases h
theorem tt_rA {a n : Nat} {i : Int32} {K : Int32 → yy_M α} : tt (yy_rA a n i K) τ Q ↔ yy_in i n = true ∧ tt (K (τ a i.toNatClampNeg)) τ Q := tt_if (x := id)
theorem tt_wA {a n : Nat} {i v : Int32} {K : yy_M α} : tt (yy_wA a n i v K) τ Q ↔ yy_in i n = true ∧ tt K (yy_up τ a i.toNatClampNeg v) Q := tt_if (x := fun τ => yy_up τ a i.toNatClampNeg v)
theorem tt_rL {g : Nat → Int32} {n : Nat} {i : Int32} {K : Int32 → yy_M α} : tt (yy_rL g n i K) τ Q ↔ yy_in i n = true ∧ tt (K (g i.toNatClampNeg)) τ Q := tt_if (x := id)
theorem tt_wL {g : Nat → Int32} {n : Nat} {i v : Int32} {K : (Nat → Int32) → yy_M α} : tt (yy_wL g n i v K) τ Q ↔ yy_in i n = true ∧ tt (K (upd g i.toNatClampNeg v)) τ Q := tt_if (x := id)
theorem tt_ck {c : Prop} [Decidable c] {K : yy_M α} : tt (yy_ck c K) τ Q ↔ c ∧ tt K τ Q := tt_if (x := id)
theorem tt_cp {a n0 b n1 : Nat} {sp dp n : Int32} {K : yy_M α} : tt (yy_cp a n0 sp b n1 dp n K) τ Q ↔ yy_cpok sp dp n n0 n1 = true ∧ tt K (yy_ro τ b (va_cpy (τ a) (τ b) sp.toNatClampNeg dp.toNatClampNeg n.toNatClampNeg)) Q := tt_if (x := fun τ => yy_ro τ b (va_cpy (τ a) (τ b) sp.toNatClampNeg dp.toNatClampNeg n.toNatClampNeg))
theorem tt_br {c : Prop} [Decidable c] {K1 K2 : yy_M α} : tt (yy_br c K1 K2) τ Q ↔ (c → tt K1 τ Q) ∧ (¬ c → tt K2 τ Q) := by
  unfold tt yy_br
  by_cases hc : c
  · simp only [hc, if_true, true_implies, not_true, false_implies, and_true]
  · simp only [hc, if_false, false_implies, not_false_iff, true_implies, true_and]
theorem tt_cl {f : yy_M β} {K : β → yy_M α} : tt (yy_cl f K) τ Q ↔ tt f τ (fun r τ1 => tt (K r) τ1 Q) := by
  unfold tt yy_cl
  constructor
  · rintro ⟨r, τ1, h, hq⟩
    cases hf : f τ with
    | none => rw [hf] at h; cases h
    | some x => rw [hf] at h; exact ⟨x.1, x.2, rfl, r, τ1, h, hq⟩
  · rintro ⟨r, τ1, h, r2, τ2, h2, hq⟩
    exact ⟨r2, τ2, by rw [h]; exact h2, hq⟩
theorem tt_mono {P : yy_M α} {Q1 : α → yy_T → Prop} (h : tt P τ Q1) (hq : ∀ r τ1, Q1 r τ1 → Q r τ1) : tt P τ Q := by
  obtain ⟨r, τ1, h1, h2⟩ := h
  exact ⟨r, τ1, h1, hq r τ1 h2⟩
theorem tt_eq {P : yy_M α} {r : α} {τ1 : yy_T} (h : P τ = some (r, τ1)) : tt P τ Q ↔ Q r τ1 := by
  constructor
  · rintro ⟨r2, τ2, h1, h2⟩
    rw [h] at h1
    cases h1
    exact h2
  · exact fun hq => ⟨r, τ1, h, hq⟩
theorem tt_of {P : yy_M α} {r : α} {τ1 : yy_T} (h : tt P τ (fun r2 τ2 => r2 = r ∧ τ2 = τ1)) : P τ = some (r, τ1) := by
  obtain ⟨r2, τ2, h1, rfl, rfl⟩ := h
  exact h1
end
/-- a loop with an invariant and a measure -/
theorem tt_lp {S R : Type} {b : S → yy_M (S ⊕ R)} {Q : R → yy_T → Prop} (I : S → yy_T → Prop) (μ : S → yy_T → Nat) (step : ∀ s τ, I s τ → tt (b s) τ (fun y τ1 => (∃ s1, y = .inl s1 ∧ I s1 τ1 ∧ μ s1 τ1 < μ s τ) ∨ ∃ r, y = .inr r ∧ Q r τ1)) : ∀ s0 τ0, I s0 τ0 → tt (yy_lp b s0) τ0 Q := by
  have key : ∀ (n : Nat) (s : S) (τ : yy_T), μ s τ < n → I s τ → tt (yy_lp b s) τ Q := by
    intro n
    induction n with
    | zero => intro s τ h; omega
    | succ n ih =>
      intro s τ hn hI
      obtain ⟨y, τ1, hb, hq⟩ := step s τ hI
      rcases hq with ⟨s1, rfl, hI1, hm⟩ | ⟨r, rfl, hr⟩
      · obtain ⟨r, τ2, h1, h2⟩ := ih s1 τ1 (by omega) hI1
        exact ⟨r, τ2, by rw [yy_lp_eq, hb]; exact h1, h2⟩
      · exact ⟨r, τ1, by rw [yy_lp_eq, hb], hr⟩
  exact fun s0 τ0 h => key (μ s0 τ0 + 1) s0 τ0 (Nat.lt_succ_self _) h
/-- a loop that counts up -/
theorem tt_up {R : Type} {b : Int32 → yy_M (Int32 ⊕ R)} {Q : R → yy_T → Prop} (hi : Nat) (I : Nat → yy_T → Prop) (step : ∀ i τ, i ≤ hi → I i τ → tt (b (nI i)) τ (fun y τ1 => (i < hi ∧ y = .inl (nI (i + 1)) ∧ I (i + 1) τ1) ∨ ∃ r, y = .inr r ∧ Q r τ1)) : ∀ lo τ0, lo ≤ hi → I lo τ0 → tt (yy_lp b (nI lo)) τ0 Q := by
  have key : ∀ (n i : Nat) (τ : yy_T), hi - i < n → i ≤ hi → I i τ → tt (yy_lp b (nI i)) τ Q := by
    intro n
    induction n with
    | zero => intro i τ h; omega
    | succ n ih =>
      intro i τ hn hi1 hI
      obtain ⟨y, τ1, hb, hq⟩ := step i τ hi1 hI
      rcases hq with ⟨hlt, rfl, hI1⟩ | ⟨r, rfl, hr⟩
      · obtain ⟨r, τ2, h1, h2⟩ := ih (i + 1) τ1 (by omega) (by omega) hI1
        exact ⟨r, τ2, by rw [yy_lp_eq, hb]; exact h1, h2⟩
      · exact ⟨r, τ1, by rw [yy_lp_eq, hb], hr⟩
  exact fun lo τ0 h1 h => key (hi - lo + 1) lo τ0 (Nat.lt_succ_self _) h1 h
/-! numbers -/
theorem nI_lit (n : Nat) : (OfNat.ofNat n : Int32) = nI (OfNat.ofNat n) := rfl
theorem nI_l0 : (0 : Int32) = nI 0 := rfl
theorem nI_l1 : (1 : Int32) = nI 1 := rfl
theorem nI_mul (a b : Nat) : nI a * nI b = nI (a * b) := by
  show Int32.ofNat a * Int32.ofNat b = Int32.ofNat (a * b)
  exact (Int32.ofNat_mul a b).symm
theorem nI_sub {a b : Nat} (h : b ≤ a) : nI a - nI b = nI (a - b) := by
  have : nI (a - b) + nI b = nI a := by rw [nI_add, Nat.sub_add_cancel h]
  rw [← this, Int32.add_sub_cancel]
theorem nI_neg1 (a : Nat) : nI (a + 1) + -nI 1 = nI a := by
  rw [← Int32.sub_eq_add_neg, nI_sub (by omega), Nat.add_sub_cancel]
theorem yy_in_nI {a n : Nat} (h : a < 2 ^ 31) : (yy_in (nI a) n = true) ↔ a < n := by
  unfold yy_in
  rw [decide_eq_true_eq, nI_clamp h]
  have := nI_pos h
  constructor
  · intro q
    exact Nat.not_le.mp fun z => q (Or.inr z)
  · rintro q (z | z)
    · exact this z
    · omega
theorem yy_upx {τ : yy_T} {a k b j : Nat} {v : Int32} : yy_up τ a k v b j = if b = a then (if j = k then v else τ b j) else τ b j := by
  unfold yy_up upd
  by_cases hb : b = a
  · subst hb
    simp
  · simp [hb]
theorem yy_rox {τ : yy_T} {a b : Nat} {f : Nat → Int32} : yy_ro τ a f b = if b = a then f else τ b := rfl
