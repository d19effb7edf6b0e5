/-! THE LAYOUT: which cell holds what; the cells of the class at 0 .. 111, of the reference at 112 .. 123; cell k lies at the address κ 4 + k. κ 0 .. κ 3: the classes of int[], byte[], Edition[], int[][]. -/
def yy_Eds : List Nat := [4, 7, 10, 13, 19, 22, 25, 28, 31, 34, 37, 40, 43, 46]
def yy_Crs : List Nat := [61, 80]
def yy_Tds : List Nat := [84, 98]
def yy_Grs : List Nat := [85, 88, 91, 99, 102, 105]
def yy_Ints : List Nat := [5, 6, 8, 9, 11, 12, 14, 15, 18, 20, 21, 23, 24, 26, 27, 29, 30, 32, 33, 35, 36, 38, 39, 41, 42, 44, 45, 47, 48, 51, 52, 54, 55, 56, 57, 58, 59, 60, 62, 63, 64, 66, 67, 68, 69, 70, 71, 72, 73, 74, 75, 76, 77, 78, 79, 81, 82, 83, 86, 87, 89, 90, 92, 93, 94, 95, 96, 97, 100, 101, 103, 104, 106, 107, 108, 109, 110, 111, 113, 114, 115, 116, 117, 118, 119, 120, 121, 122, 123]
def yy_lens : List Nat := [0, 0, 0, 0, 0, 14, 112, 0, 14, 112, 0, 14, 112, 0, 14, 112, 0, 0, 10, 0, 14, 112, 0, 14, 112, 0, 14, 112, 0, 14, 112, 0, 14, 112, 0, 14, 112, 0, 14, 112, 0, 14, 112, 0, 14, 112, 0, 14, 112, 0, 0, 14, 14, 0, 14, 14, 14, 14, 14, 14, 14, 0, 14, 14, 225, 0, 14, 14, 14, 14, 14, 14, 14, 14, 14, 14, 14, 14, 14, 14, 0, 14, 14, 225, 0, 0, 14, 14, 0, 14, 14, 0, 14, 14, 3, 14, 14, 14, 0, 0, 14, 14, 0, 14, 14, 0, 14, 14, 3, 14, 14, 14, 0, 640, 254, 127, 2540, 28, 28, 28, 28, 28, 42, 81]
def yy_len (k : Nat) : Nat := yy_lens.getD k 0
def yy_ent (κ : Nat → Nat) (k : Nat) (f : Nat → Int32) : va_E :=
  if k ∈ yy_Eds then .inr (2, [.ref (κ 4 + (k + 1)), .ref (κ 4 + (k + 2)), .int (f 2)]) else
  if k ∈ yy_Crs then .inr (0, [.ref (κ 4 + (k + 1)), .ref (κ 4 + (k + 2)), .ref (κ 4 + (k + 3)), .int (f 3), .int (f 4)]) else
  if k ∈ yy_Tds then .inr (8, [.ref (κ 4 + (k + 1)), .ref (κ 4 + (k + 4)), .ref (κ 4 + (k + 7)), .ref (κ 4 + (k + 10)), .ref (κ 4 + (k + 11)), .ref (κ 4 + (k + 12)), .ref (κ 4 + (k + 13)), .int (f 7), .int (f 8), .int (f 9), .int (f 10)]) else
  if k = 0 then .inr (9, [.ref (κ 4 + 1), .ref (κ 4 + 3), .ref (κ 4 + 7), .ref (κ 4 + 10), .ref (κ 4 + 13), .ref (κ 4 + 16), .ref (κ 4 + 49), .ref (κ 4 + 80), .ref (κ 4 + 84), .ref (κ 4 + 98), .int (f 10)]) else
  if k = 1 then .inr (7, [.ref (κ 4 + 2), .int (f 1)]) else
  if k = 3 then .inr (6, [.ref (κ 4 + 4), .int (f 1), .int (f 2), .int (f 3), .int (f 4)]) else
  if k = 16 then .inr (5, [.ref (κ 4 + 17), .ref (κ 4 + 18), .int (f 2), .int (f 3)]) else
  if k = 49 then .inr (1, [.ref (κ 4 + 50), .ref (κ 4 + 53), .ref (κ 4 + 61), .ref (κ 4 + 65)]) else
  if k = 50 then .inr (4, [.ref (κ 4 + 51), .ref (κ 4 + 52), .int (f 2), .int (f 3)]) else
  if k = 53 then .inr (3, [.ref (κ 4 + 54), .ref (κ 4 + 55), .ref (κ 4 + 56), .ref (κ 4 + 57), .int (f 4), .ref (κ 4 + 58), .ref (κ 4 + 59), .ref (κ 4 + 60), .int (f 8)]) else
  if k = 112 then .inr (10, [.int (f 0), .ref (κ 4 + 113), .int (f 2), .ref (κ 4 + 114), .ref (κ 4 + 115), .ref (κ 4 + 116), .int (f 6), .int (f 7), .int (f 8), .int (f 9), .ref (κ 4 + 117), .ref (κ 4 + 118), .ref (κ 4 + 119), .ref (κ 4 + 120), .ref (κ 4 + 121), .ref (κ 4 + 122), .int (f 16), .int (f 17), .int (f 18), .ref (κ 4 + 123)]) else
  if k = 2 then .inl (κ 1, 640, .inl f) else
  if k = 17 then .inl (κ 2, 10, .inr (.inr (.inr (.inr (fun i => if i < 10 then some (κ 4 + (19 + 3 * i)) else none))))) else
  if k ∈ yy_Grs then .inl (κ 3, 2, .inr (.inr (.inr (.inr (fun i => if i < 2 then some (κ 4 + (k + 1 + i)) else none))))) else
  if k = 65 then .inl (κ 3, 14, .inr (.inr (.inr (.inr (fun i => if i < 14 then some (κ 4 + (66 + i)) else none))))) else
  .inl (κ 0, yy_len k, .inl f)
theorem yy_Eds_lt : ∀ k ∈ yy_Eds, k < 124 := by decide +kernel
theorem yy_Crs_lt : ∀ k ∈ yy_Crs, k < 124 := by decide +kernel
theorem yy_Tds_lt : ∀ k ∈ yy_Tds, k < 124 := by decide +kernel
theorem yy_Grs_lt : ∀ k ∈ yy_Grs, k < 124 := by decide +kernel
theorem yy_Ints_lt : ∀ k ∈ yy_Ints, k < 124 := by decide +kernel
theorem yy_ent_Eds {κ : Nat → Nat} {k : Nat} (h : k ∈ yy_Eds) (f : Nat → Int32) : yy_ent κ k f = .inr (2, [.ref (κ 4 + (k + 1)), .ref (κ 4 + (k + 2)), .int (f 2)]) := by
  unfold yy_ent
  rw [if_pos h]
theorem yy_ent_Crs {κ : Nat → Nat} {k : Nat} (h : k ∈ yy_Crs) (f : Nat → Int32) : yy_ent κ k f = .inr (0, [.ref (κ 4 + (k + 1)), .ref (κ 4 + (k + 2)), .ref (κ 4 + (k + 3)), .int (f 3), .int (f 4)]) := by
  have hx : ∀ k ∈ yy_Crs, k ∉ yy_Eds := by decide +kernel
  unfold yy_ent
  rw [if_neg (hx k h)]
  rw [if_pos h]
theorem yy_ent_Tds {κ : Nat → Nat} {k : Nat} (h : k ∈ yy_Tds) (f : Nat → Int32) : yy_ent κ k f = .inr (8, [.ref (κ 4 + (k + 1)), .ref (κ 4 + (k + 4)), .ref (κ 4 + (k + 7)), .ref (κ 4 + (k + 10)), .ref (κ 4 + (k + 11)), .ref (κ 4 + (k + 12)), .ref (κ 4 + (k + 13)), .int (f 7), .int (f 8), .int (f 9), .int (f 10)]) := by
  have hx : ∀ k ∈ yy_Tds, k ∉ yy_Eds ∧ k ∉ yy_Crs := by decide +kernel
  unfold yy_ent
  rw [if_neg (hx k h).1]
  rw [if_neg (hx k h).2]
  rw [if_pos h]
theorem yy_ent_0 {κ : Nat → Nat} (f : Nat → Int32) : yy_ent κ 0 f = .inr (9, [.ref (κ 4 + 1), .ref (κ 4 + 3), .ref (κ 4 + 7), .ref (κ 4 + 10), .ref (κ 4 + 13), .ref (κ 4 + 16), .ref (κ 4 + 49), .ref (κ 4 + 80), .ref (κ 4 + 84), .ref (κ 4 + 98), .int (f 10)]) := by
  rfl
theorem yy_ent_1 {κ : Nat → Nat} (f : Nat → Int32) : yy_ent κ 1 f = .inr (7, [.ref (κ 4 + 2), .int (f 1)]) := by
  rfl
theorem yy_ent_3 {κ : Nat → Nat} (f : Nat → Int32) : yy_ent κ 3 f = .inr (6, [.ref (κ 4 + 4), .int (f 1), .int (f 2), .int (f 3), .int (f 4)]) := by
  rfl
theorem yy_ent_16 {κ : Nat → Nat} (f : Nat → Int32) : yy_ent κ 16 f = .inr (5, [.ref (κ 4 + 17), .ref (κ 4 + 18), .int (f 2), .int (f 3)]) := by
  rfl
theorem yy_ent_49 {κ : Nat → Nat} (f : Nat → Int32) : yy_ent κ 49 f = .inr (1, [.ref (κ 4 + 50), .ref (κ 4 + 53), .ref (κ 4 + 61), .ref (κ 4 + 65)]) := by
  rfl
theorem yy_ent_50 {κ : Nat → Nat} (f : Nat → Int32) : yy_ent κ 50 f = .inr (4, [.ref (κ 4 + 51), .ref (κ 4 + 52), .int (f 2), .int (f 3)]) := by
  rfl
theorem yy_ent_53 {κ : Nat → Nat} (f : Nat → Int32) : yy_ent κ 53 f = .inr (3, [.ref (κ 4 + 54), .ref (κ 4 + 55), .ref (κ 4 + 56), .ref (κ 4 + 57), .int (f 4), .ref (κ 4 + 58), .ref (κ 4 + 59), .ref (κ 4 + 60), .int (f 8)]) := by
  rfl
theorem yy_ent_112 {κ : Nat → Nat} (f : Nat → Int32) : yy_ent κ 112 f = .inr (10, [.int (f 0), .ref (κ 4 + 113), .int (f 2), .ref (κ 4 + 114), .ref (κ 4 + 115), .ref (κ 4 + 116), .int (f 6), .int (f 7), .int (f 8), .int (f 9), .ref (κ 4 + 117), .ref (κ 4 + 118), .ref (κ 4 + 119), .ref (κ 4 + 120), .ref (κ 4 + 121), .ref (κ 4 + 122), .int (f 16), .int (f 17), .int (f 18), .ref (κ 4 + 123)]) := by
  rfl
theorem yy_ent_2 {κ : Nat → Nat} (f : Nat → Int32) : yy_ent κ 2 f = .inl (κ 1, 640, .inl f) := by
  rfl
theorem yy_ent_17 {κ : Nat → Nat} (f : Nat → Int32) : yy_ent κ 17 f = .inl (κ 2, 10, .inr (.inr (.inr (.inr (fun i => if i < 10 then some (κ 4 + (19 + 3 * i)) else none))))) := by
  rfl
theorem yy_ent_65 {κ : Nat → Nat} (f : Nat → Int32) : yy_ent κ 65 f = .inl (κ 3, 14, .inr (.inr (.inr (.inr (fun i => if i < 14 then some (κ 4 + (66 + i)) else none))))) := by
  rfl
theorem yy_ent_Grs {κ : Nat → Nat} {k : Nat} (h : k ∈ yy_Grs) (f : Nat → Int32) : yy_ent κ k f = .inl (κ 3, 2, .inr (.inr (.inr (.inr (fun i => if i < 2 then some (κ 4 + (k + 1 + i)) else none))))) := by
  have hx : ∀ k ∈ yy_Grs, k ∉ yy_Eds ∧ k ∉ yy_Crs ∧ k ∉ yy_Tds ∧ k ≠ 0 ∧ k ≠ 1 ∧ k ≠ 3 ∧ k ≠ 16 ∧ k ≠ 49 ∧ k ≠ 50 ∧ k ≠ 53 ∧ k ≠ 112 ∧ k ≠ 2 ∧ k ≠ 17 := by decide +kernel
  obtain ⟨h0, h1, h2, h3, h4, h5, h6, h7, h8, h9, h10, h11, h12⟩ := hx k h
  unfold yy_ent
  rw [if_neg h0, if_neg h1, if_neg h2, if_neg h3, if_neg h4, if_neg h5, if_neg h6, if_neg h7, if_neg h8, if_neg h9, if_neg h10, if_neg h11, if_neg h12]
  rw [if_pos h]
theorem yy_ent_Ints {κ : Nat → Nat} {k : Nat} (h : k ∈ yy_Ints) (f : Nat → Int32) : yy_ent κ k f = .inl (κ 0, yy_len k, .inl f) := by
  have hx : ∀ k ∈ yy_Ints, k ∉ yy_Eds ∧ k ∉ yy_Crs ∧ k ∉ yy_Tds ∧ k ≠ 0 ∧ k ≠ 1 ∧ k ≠ 3 ∧ k ≠ 16 ∧ k ≠ 49 ∧ k ≠ 50 ∧ k ≠ 53 ∧ k ≠ 112 ∧ k ≠ 2 ∧ k ≠ 17 ∧ k ∉ yy_Grs ∧ k ≠ 65 := by decide +kernel
  obtain ⟨h0, h1, h2, h3, h4, h5, h6, h7, h8, h9, h10, h11, h12, h13, h14⟩ := hx k h
  unfold yy_ent
  rw [if_neg h0, if_neg h1, if_neg h2, if_neg h3, if_neg h4, if_neg h5, if_neg h6, if_neg h7, if_neg h8, if_neg h9, if_neg h10, if_neg h11, if_neg h12, if_neg h13, if_neg h14]
theorem yy_E1 : ∀ k ∈ yy_Eds, k + 1 ∈ yy_Ints := by decide +kernel
theorem yy_E2 : ∀ k ∈ yy_Eds, k + 2 ∈ yy_Ints := by decide +kernel
theorem yy_lenE1 : ∀ k ∈ yy_Eds, yy_len (k + 1) = 14 := by decide +kernel
theorem yy_lenE2 : ∀ k ∈ yy_Eds, yy_len (k + 2) = 112 := by decide +kernel
theorem yy_C1 : ∀ k ∈ yy_Crs, k + 1 ∈ yy_Ints := by decide +kernel
theorem yy_lenC1 : ∀ k ∈ yy_Crs, yy_len (k + 1) = 14 := by decide +kernel
theorem yy_C2 : ∀ k ∈ yy_Crs, k + 2 ∈ yy_Ints := by decide +kernel
theorem yy_lenC2 : ∀ k ∈ yy_Crs, yy_len (k + 2) = 14 := by decide +kernel
theorem yy_C3 : ∀ k ∈ yy_Crs, k + 3 ∈ yy_Ints := by decide +kernel
theorem yy_lenC3 : ∀ k ∈ yy_Crs, yy_len (k + 3) = 225 := by decide +kernel
theorem yy_D10 : ∀ k ∈ yy_Tds, k + 10 ∈ yy_Ints := by decide +kernel
theorem yy_lenD10 : ∀ k ∈ yy_Tds, yy_len (k + 10) = 3 := by decide +kernel
theorem yy_D11 : ∀ k ∈ yy_Tds, k + 11 ∈ yy_Ints := by decide +kernel
theorem yy_lenD11 : ∀ k ∈ yy_Tds, yy_len (k + 11) = 14 := by decide +kernel
theorem yy_D12 : ∀ k ∈ yy_Tds, k + 12 ∈ yy_Ints := by decide +kernel
theorem yy_lenD12 : ∀ k ∈ yy_Tds, yy_len (k + 12) = 14 := by decide +kernel
theorem yy_D13 : ∀ k ∈ yy_Tds, k + 13 ∈ yy_Ints := by decide +kernel
theorem yy_lenD13 : ∀ k ∈ yy_Tds, yy_len (k + 13) = 14 := by decide +kernel
theorem yy_D1 : ∀ k ∈ yy_Tds, k + 1 ∈ yy_Grs := by decide +kernel
theorem yy_D4 : ∀ k ∈ yy_Tds, k + 4 ∈ yy_Grs := by decide +kernel
theorem yy_D7 : ∀ k ∈ yy_Tds, k + 7 ∈ yy_Grs := by decide +kernel
theorem yy_G0 : ∀ k ∈ yy_Grs, ∀ n, n < 2 → k + 1 + n ∈ yy_Ints := by decide +kernel
theorem yy_lenG0 : ∀ k ∈ yy_Grs, ∀ n, n < 2 → yy_len (k + 1 + n) = 14 := by decide +kernel
theorem yy_L0 : ∀ n, n < 14 → 66 + n ∈ yy_Ints := by decide +kernel
theorem yy_lenL0 : ∀ n, n < 14 → yy_len (66 + n) = 14 := by decide +kernel
theorem yy_P0 : ∀ n, n < 10 → 19 + 3 * n ∈ yy_Eds := by decide +kernel
abbrev yy_cls : List vw_C := [(RX0, TX0, 5), (RX1, TX1, 4), (RX2, TX2, 3), (RX3, TX3, 9), (RX4, TX4, 4), (RX5, TX5, 4), (RX6, TX6, 5), (RX7, TX7, 2), (RX8, TX8, 11), (RX9, TX9, 11), (RX10, TX10, 20)]
def yy_tys (κ : Nat → Nat) : List (ClassId × FieldType) := [(κ 0, .int), (κ 1, .byte), (κ 2, .object "MovedLines$Edition"), (κ 3, .array .int)]
theorem inX0 : ∀ w ∈ wsX00, w ∈ gT := List.forall_mem_cons.mpr ⟨tw_248, List.forall_mem_cons.mpr ⟨tw_250, List.forall_mem_cons.mpr ⟨tw_252, List.forall_mem_cons.mpr ⟨tw_254, List.forall_mem_cons.mpr ⟨tw_256, fun _ h => absurd h List.not_mem_nil⟩⟩⟩⟩⟩
theorem inX1 : ∀ w ∈ wsX10, w ∈ gT := List.forall_mem_cons.mpr ⟨tw_265, List.forall_mem_cons.mpr ⟨tw_267, List.forall_mem_cons.mpr ⟨tw_269, List.forall_mem_cons.mpr ⟨tw_271, fun _ h => absurd h List.not_mem_nil⟩⟩⟩⟩
theorem inX2 : ∀ w ∈ wsX20, w ∈ gT := List.forall_mem_cons.mpr ⟨tw_116, List.forall_mem_cons.mpr ⟨tw_118, List.forall_mem_cons.mpr ⟨tw_120, fun _ h => absurd h List.not_mem_nil⟩⟩⟩
theorem inX3 : ∀ w ∈ wsX30, w ∈ gT := List.forall_mem_cons.mpr ⟨tw_218, List.forall_mem_cons.mpr ⟨tw_220, List.forall_mem_cons.mpr ⟨tw_222, List.forall_mem_cons.mpr ⟨tw_224, List.forall_mem_cons.mpr ⟨tw_226, List.forall_mem_cons.mpr ⟨tw_228, List.forall_mem_cons.mpr ⟨tw_230, List.forall_mem_cons.mpr ⟨tw_232, List.forall_mem_cons.mpr ⟨tw_234, fun _ h => absurd h List.not_mem_nil⟩⟩⟩⟩⟩⟩⟩⟩⟩
theorem inX4 : ∀ w ∈ wsX40, w ∈ gT := List.forall_mem_cons.mpr ⟨tw_194, List.forall_mem_cons.mpr ⟨tw_196, List.forall_mem_cons.mpr ⟨tw_198, List.forall_mem_cons.mpr ⟨tw_200, fun _ h => absurd h List.not_mem_nil⟩⟩⟩⟩
theorem inX5 : ∀ w ∈ wsX50, w ∈ gT := List.forall_mem_cons.mpr ⟨tw_161, List.forall_mem_cons.mpr ⟨tw_163, List.forall_mem_cons.mpr ⟨tw_165, List.forall_mem_cons.mpr ⟨tw_167, fun _ h => absurd h List.not_mem_nil⟩⟩⟩⟩
theorem inX6 : ∀ w ∈ wsX60, w ∈ gT := List.forall_mem_cons.mpr ⟨tw_132, List.forall_mem_cons.mpr ⟨tw_134, List.forall_mem_cons.mpr ⟨tw_136, List.forall_mem_cons.mpr ⟨tw_138, List.forall_mem_cons.mpr ⟨tw_140, fun _ h => absurd h List.not_mem_nil⟩⟩⟩⟩⟩
theorem inX7 : ∀ w ∈ wsX70, w ∈ gT := List.forall_mem_cons.mpr ⟨tw_87, List.forall_mem_cons.mpr ⟨tw_89, fun _ h => absurd h List.not_mem_nil⟩⟩
theorem inX8 : ∀ w ∈ wsX80, w ∈ gT := List.forall_mem_cons.mpr ⟨tw_308, List.forall_mem_cons.mpr ⟨tw_310, List.forall_mem_cons.mpr ⟨tw_312, List.forall_mem_cons.mpr ⟨tw_314, List.forall_mem_cons.mpr ⟨tw_316, List.forall_mem_cons.mpr ⟨tw_318, List.forall_mem_cons.mpr ⟨tw_320, List.forall_mem_cons.mpr ⟨tw_322, List.forall_mem_cons.mpr ⟨tw_324, List.forall_mem_cons.mpr ⟨tw_326, List.forall_mem_cons.mpr ⟨tw_328, fun _ h => absurd h List.not_mem_nil⟩⟩⟩⟩⟩⟩⟩⟩⟩⟩⟩
theorem inX9 : ∀ w ∈ wsX90, w ∈ gT := List.forall_mem_cons.mpr ⟨tw_342, List.forall_mem_cons.mpr ⟨tw_344, List.forall_mem_cons.mpr ⟨tw_346, List.forall_mem_cons.mpr ⟨tw_348, List.forall_mem_cons.mpr ⟨tw_350, List.forall_mem_cons.mpr ⟨tw_352, List.forall_mem_cons.mpr ⟨tw_354, List.forall_mem_cons.mpr ⟨tw_356, List.forall_mem_cons.mpr ⟨tw_358, List.forall_mem_cons.mpr ⟨tw_360, List.forall_mem_cons.mpr ⟨tw_362, fun _ h => absurd h List.not_mem_nil⟩⟩⟩⟩⟩⟩⟩⟩⟩⟩⟩
theorem inX10 : ∀ w ∈ wsX100, w ∈ gT := List.forall_mem_cons.mpr ⟨tw_812, List.forall_mem_cons.mpr ⟨tw_814, List.forall_mem_cons.mpr ⟨tw_816, List.forall_mem_cons.mpr ⟨tw_818, List.forall_mem_cons.mpr ⟨tw_820, List.forall_mem_cons.mpr ⟨tw_822, List.forall_mem_cons.mpr ⟨tw_824, List.forall_mem_cons.mpr ⟨tw_826, List.forall_mem_cons.mpr ⟨tw_828, List.forall_mem_cons.mpr ⟨tw_830, List.forall_mem_cons.mpr ⟨tw_832, List.forall_mem_cons.mpr ⟨tw_834, List.forall_mem_cons.mpr ⟨tw_836, List.forall_mem_cons.mpr ⟨tw_838, List.forall_mem_cons.mpr ⟨tw_840, List.forall_mem_cons.mpr ⟨tw_842, List.forall_mem_cons.mpr ⟨tw_844, List.forall_mem_cons.mpr ⟨tw_846, List.forall_mem_cons.mpr ⟨tw_848, List.forall_mem_cons.mpr ⟨tw_850, fun _ h => absurd h List.not_mem_nil⟩⟩⟩⟩⟩⟩⟩⟩⟩⟩⟩⟩⟩⟩⟩⟩⟩⟩⟩⟩
