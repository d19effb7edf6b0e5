/-! EVERY CALL KEEPS WHAT HOLDS; THE START HAS IT -/
theorem pp_brt {α : Type} {c : Prop} [Decidable c] {A B : yy_M α} (h : c) : yy_br c A B = A := by
  funext τ
  simp [yy_br, h]
theorem pp_brf {α : Type} {c : Prop} [Decidable c] {A B : yy_M α} (h : ¬ c) : yy_br c A B = B := by
  funext τ
  simp [yy_br, h]
theorem pp_start : pp_I pp_TT yy_t0 := by
  have z : ∀ a i, ¬ (a = 0 ∧ i = 10) → yy_t0 a i = nI 0 := fun a i h => if_neg h
  have wz : pp_wfE (0, fun _ => []) := ⟨Nat.zero_le _, fun i hi => absurd hi (Nat.not_lt_zero i)⟩
  refine ⟨0, fun _ => 0, (0, fun _ => []), (0, fun _ => []), 0, 0, fun _ => (0, (0, fun _ => [])), ⟨wz, wz, ⟨Nat.zero_le _, fun k hk => absurd hk (Nat.not_lt_zero k)⟩, fun i hi => absurd hi (Nat.not_lt_zero i)⟩, ⟨⟨Nat.zero_le _, z 1 1 (by decide), fun i hi => absurd hi (Nat.not_lt_zero i)⟩, z 3 1 (by decide), ⟨z 7 2 (by decide), fun i hi => absurd hi (Nat.not_lt_zero i)⟩, ⟨z 10 2 (by decide), fun i hi => absurd hi (Nat.not_lt_zero i)⟩, ⟨0, by decide, z 16 3 (by decide), z 16 2 (by decide), fun k hk => absurd hk (Nat.not_lt_zero k)⟩, Or.inl (if_pos ⟨rfl, rfl⟩)⟩, ⟨Nat.zero_le _, z 112 2 (by decide), fun i hi => absurd hi (Nat.not_lt_zero i)⟩, z 112 7 (by decide), ⟨z 114 0 (by decide), fun i hi => absurd hi (Nat.not_lt_zero i)⟩, ⟨z 114 127 (by decide), fun i hi => absurd hi (Nat.not_lt_zero i)⟩, z 112 6 (by decide), fun k hk => absurd hk (Nat.not_lt_zero k)⟩
theorem pp_inv (τ : yy_T) (op y1 y2 y3 y4 y5 : Int32) (hI : pp_I pp_TT τ) : ∃ τ1, mm_L op y1 y2 y3 y4 y5 τ = some ((), τ1) ∧ pp_I pp_TT τ1 := by
  unfold mm_L
  by_cases h0 : op &&& 31 = 0
  · rw [pp_brt h0]
    exact pp_op0 pp_TT_L hI y1 y2 y3 y4 y5
  rw [pp_brf h0]
  by_cases h1 : op &&& 31 = 1
  · rw [pp_brt h1]
    exact pp_op1 pp_TT_L hI y1
  rw [pp_brf h1]
  by_cases h2 : op &&& 31 = 2
  · rw [pp_brt h2]
    exact pp_op2 pp_TT_L hI y1
  rw [pp_brf h2]
  by_cases h3 : op &&& 31 = 3
  · rw [pp_brt h3]
    exact pp_op3 pp_TT_L hI
  rw [pp_brf h3]
  by_cases h4 : op &&& 31 = 4
  · rw [pp_brt h4]
    exact pp_op4 hI y1
  rw [pp_brf h4]
  by_cases h5 : op &&& 31 = 5
  · rw [pp_brt h5]
    exact pp_op5 hI y1 y2 y3
  rw [pp_brf h5]
  by_cases h6 : op &&& 31 = 6
  · rw [pp_brt h6]
    exact pp_op6 pp_TT_L hI y1 y2 y3 y4
  rw [pp_brf h6]
  by_cases h7 : op &&& 31 = 7
  · rw [pp_brt h7]
    exact pp_op7 hI y1 y2
  rw [pp_brf h7]
  by_cases h8 : op &&& 31 = 8
  · rw [pp_brt h8]
    exact pp_op8 pp_TT_L hI y1 y2
  rw [pp_brf h8]
  by_cases h9 : op &&& 31 = 9
  · rw [pp_brt h9]
    exact pp_op9 pp_TT_L hI y1 y2 y3
  rw [pp_brf h9]
  by_cases h10 : op &&& 31 = 10
  · rw [pp_brt h10]
    exact pp_op10 pp_TT_L hI
  rw [pp_brf h10]
  by_cases h11 : op &&& 31 = 11
  · rw [pp_brt h11]
    exact pp_op11 hI
  rw [pp_brf h11]
  by_cases h12 : op &&& 31 = 12
  · rw [pp_brt h12]
    exact pp_op12 hI y1
  rw [pp_brf h12]
  by_cases h13 : op &&& 31 = 13
  · rw [pp_brt h13]
    exact pp_op13 hI y1 y2 y3
  rw [pp_brf h13]
  by_cases h14 : op &&& 31 = 14
  · rw [pp_brt h14]
    exact pp_op14 pp_TT_L hI y1 y2
  rw [pp_brf h14]
  by_cases h15 : op &&& 31 = 15
  · rw [pp_brt h15]
    exact pp_op15 pp_TT_L hI y1 y2
  rw [pp_brf h15]
  by_cases h16 : op &&& 31 = 16
  · rw [pp_brt h16]
    exact pp_op16 pp_TT_L hI y1 y2
  rw [pp_brf h16]
  by_cases h17 : op &&& 31 = 17
  · rw [pp_brt h17]
    exact pp_op17 pp_TT_L hI y1 y2 y3 y4
  rw [pp_brf h17]
  by_cases h18 : op &&& 31 = 18
  · rw [pp_brt h18]
    exact pp_op18 pp_TT_L hI
  rw [pp_brf h18]
  by_cases h19 : op &&& 31 = 19
  · rw [pp_brt h19]
    exact pp_op19 pp_TT_L hI
  rw [pp_brf h19]
  exact ⟨τ, rfl, hI⟩
