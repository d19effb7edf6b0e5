theorem yy_mmax : Cond.static Lib.Math.max.name ∈ gT ∧ Cond.initialized "java/lang/Math" ∈ gT ∧ Cond.code Lib.Math.max.name Lib.Math.max.code 2 (some .int) ∈ gT := ⟨gT_mem 498 (by decide +kernel) rfl, tw_63, gT_mem 499 (by decide +kernel) rfl⟩
theorem yy_mmin : Cond.static Lib.Math.min.name ∈ gT ∧ Cond.initialized "java/lang/Math" ∈ gT ∧ Cond.code Lib.Math.min.name Lib.Math.min.code 2 (some .int) ∈ gT := ⟨gT_mem 541 (by decide +kernel) rfl, tw_63, gT_mem 542 (by decide +kernel) rfl⟩
theorem yy_cpw : Cond.native arraycopyName ∈ gT ∧ Cond.static arraycopyName ∈ gT ∧ Cond.initialized "java/lang/System" ∈ gT := ⟨tw_426, tw_425, tw_62⟩
theorem yy_br_of {α : Type} {c : Prop} [Decidable c] {K1 K2 : yy_M α} {τ : yy_T} {res : α × yy_T} (h : yy_br c K1 K2 τ = some res) : (c ∧ K1 τ = some res) ∨ (¬ c ∧ K2 τ = some res) := by
  unfold yy_br at h
  by_cases hc : c
  · rw [if_pos hc] at h; exact Or.inl ⟨hc, h⟩
  · rw [if_neg hc] at h; exact Or.inr ⟨hc, h⟩
theorem yy_out {x : Int32} (n : Nat) {hi : Int} (h : ∀ k, k < n → ¬ x = Int32.ofNat k) (hn : hi = (n : Int) - 1 := by rfl) : x.toInt < 0 ∨ hi < x.toInt := by
  subst hn
  by_cases h0 : x.toInt < 0
  · exact Or.inl h0
  · refine Or.inr ?_
    have h1 : ¬ x < 0 := fun q => h0 (by simpa using Int32.lt_iff_toInt_lt.mp q)
    obtain ⟨j, hj, rfl⟩ := nI_of h1
    by_cases hjn : j < n
    · exact absurd rfl (h j hjn)
    · rw [nI_toInt hj]
      omega
