section
variable {p : Program} {l : Launch} {e : Env} {s : State} {m : MethodId} {args : Array Value} {below : List Frame} {meth : Method} {c : Code} {H : Heap} {locs : List Loc} {ls : Array Slot} {D : va_G} {κ : Nat → Nat} {ext : va_W} {A : Nat → Prop} {τ : yy_T}
/-! MovedLinesModel.goesInto(IIIIZ)V -/
noncomputable def mm_X10_goesInto_13b (rec : Int32 → Int32 → Int32 → Int32 → Int32 → yy_M Unit) (N : Nat) (x5 : Int32) (x6 : Int32) (x7 : Int32) (x8 : Int32) (x9 : Int32) : yy_M ((Int32 × Int32) ⊕ ((Int32 × Int32))) :=
  yy_br (x7 ≤ x6) (yy_rt (.inr (x6, x8))) (yy_br (x9 ≤ x8) (yy_rt (.inr (x6, x8))) (yy_cl (mm_X10_areAlike_ x6 x8) (fun r1 => yy_br (r1 = 0) (yy_rt (.inr (x6, x8))) (yy_cl (mm_X10_couples x6 x8 0) (fun _ => yy_rt (.inl ((x6 + 1), (x8 + 1))))))))
noncomputable def mm_X10_goesInto_56b (rec : Int32 → Int32 → Int32 → Int32 → Int32 → yy_M Unit) (N : Nat) (x5 : Int32) (x6 : Int32) (x7 : Int32) (x8 : Int32) (x9 : Int32) : yy_M ((Int32 × Int32) ⊕ ((Int32 × Int32))) :=
  yy_br (x7 ≤ x6) (yy_rt (.inr (x7, x9))) (yy_br (x9 ≤ x8) (yy_rt (.inr (x7, x9))) (yy_cl (mm_X10_areAlike_ (x7 - 1) (x9 - 1)) (fun r2 => yy_br (r2 = 0) (yy_rt (.inr (x7, x9))) (yy_cl (mm_X10_couples (x7 + (-1)) (x9 + (-1)) 0) (fun _ => yy_rt (.inl ((x7 + (-1)), (x9 + (-1)))))))))
noncomputable def mm_X10_goesInto_246 (rec : Int32 → Int32 → Int32 → Int32 → Int32 → yy_M Unit) (N : Nat) (x5 : Int32) (x6 : Int32) (x7 : Int32) (x8 : Int32) (x9 : Int32) (x12 : Int32) (x13 : Int32) (x14 : Int32) (x15 : Int32) (g10 : (Nat → Int32)) (g11 : (Nat → Int32)) : yy_M ((Int32 × (Nat → Int32)) ⊕ (((Nat → Int32)))) :=
  yy_rt (.inl ((x15 + 1), g11))
noncomputable def mm_X10_goesInto_190b (rec : Int32 → Int32 → Int32 → Int32 → Int32 → yy_M Unit) (N : Nat) (x5 : Int32) (x6 : Int32) (x7 : Int32) (x8 : Int32) (x9 : Int32) (x12 : Int32) (x13 : Int32) (x14 : Int32) (x15 : Int32) (g10 : (Nat → Int32)) (g11 : (Nat → Int32)) : yy_M ((Int32 × (Nat → Int32)) ⊕ (((Nat → Int32)))) :=
  yy_br (x7 ≤ x15) (yy_rt (.inr g11)) (yy_rL g10 14 x14 fun v8 => yy_br (v8 = ((-1))) (yy_rt (.inr g11)) (yy_rL g10 14 x15 fun v9 => yy_rL g10 14 x14 fun v10 => yy_br (v9 ≤ v10) (mm_X10_goesInto_246 rec N x5 x6 x7 x8 x9 x12 x13 x14 x15 g10 g11) (yy_rL g11 14 x15 fun v11 => yy_rL g11 14 x14 fun v12 => yy_br ((v11 + 1) ≤ v12) (mm_X10_goesInto_246 rec N x5 x6 x7 x8 x9 x12 x13 x14 x15 g10 g11) (yy_rL g11 14 x15 fun v13 => yy_wL g11 14 x14 (v13 + 1) fun g14 => mm_X10_goesInto_246 rec N x5 x6 x7 x8 x9 x12 x13 x14 x15 g10 g14))))
noncomputable def mm_X10_goesInto_269 (rec : Int32 → Int32 → Int32 → Int32 → Int32 → yy_M Unit) (N : Nat) (x5 : Int32) (x6 : Int32) (x7 : Int32) (x8 : Int32) (x9 : Int32) (x12 : Int32) (x13 : Int32) (x14 : Int32) (g10 : (Nat → Int32)) (g11 : (Nat → Int32)) : yy_M ((Int32 × Int32 × Int32 × (Nat → Int32) × (Nat → Int32)) ⊕ ((Int32 × Int32 × (Nat → Int32) × (Nat → Int32)))) :=
  yy_rt (.inl (x12, x13, (x14 + (-1)), g10, g11))
noncomputable def mm_X10_goesInto_252 (rec : Int32 → Int32 → Int32 → Int32 → Int32 → yy_M Unit) (N : Nat) (x5 : Int32) (x6 : Int32) (x7 : Int32) (x8 : Int32) (x9 : Int32) (x12 : Int32) (x13 : Int32) (x14 : Int32) (g10 : (Nat → Int32)) (g11 : (Nat → Int32)) : yy_M ((Int32 × Int32 × Int32 × (Nat → Int32) × (Nat → Int32)) ⊕ ((Int32 × Int32 × (Nat → Int32) × (Nat → Int32)))) :=
  yy_rL g11 14 x14 fun v15 => yy_br (v15 ≤ x12) (mm_X10_goesInto_269 rec N x5 x6 x7 x8 x9 x12 x13 x14 g10 g11) (yy_rL g11 14 x14 fun v16 => mm_X10_goesInto_269 rec N x5 x6 x7 x8 x9 v16 x13 x14 g10 g11)
noncomputable def mm_X10_goesInto_190 (rec : Int32 → Int32 → Int32 → Int32 → Int32 → yy_M Unit) (N : Nat) (x5 : Int32) (x6 : Int32) (x7 : Int32) (x8 : Int32) (x9 : Int32) (x12 : Int32) (x13 : Int32) (x14 : Int32) (x15 : Int32) (g10 : (Nat → Int32)) (g11 : (Nat → Int32)) : yy_M ((Int32 × Int32 × Int32 × (Nat → Int32) × (Nat → Int32)) ⊕ ((Int32 × Int32 × (Nat → Int32) × (Nat → Int32)))) :=
  yy_cl (yy_lp (fun (w : Int32 × (Nat → Int32)) => mm_X10_goesInto_190b rec N x5 x6 x7 x8 x9 x12 x13 x14 w.1 g10 w.2) (x15, g11)) (fun w => mm_X10_goesInto_252 rec N x5 x6 x7 x8 x9 x12 x13 x14 g10 w)
noncomputable def mm_X10_goesInto_184 (rec : Int32 → Int32 → Int32 → Int32 → Int32 → yy_M Unit) (N : Nat) (x5 : Int32) (x6 : Int32) (x7 : Int32) (x8 : Int32) (x9 : Int32) (x12 : Int32) (x13 : Int32) (x14 : Int32) (g10 : (Nat → Int32)) (g11 : (Nat → Int32)) : yy_M ((Int32 × Int32 × Int32 × (Nat → Int32) × (Nat → Int32)) ⊕ ((Int32 × Int32 × (Nat → Int32) × (Nat → Int32)))) :=
  mm_X10_goesInto_190 rec N x5 x6 x7 x8 x9 x12 x13 x14 (x14 + 1) g10 g11
noncomputable def mm_X10_goesInto_171 (rec : Int32 → Int32 → Int32 → Int32 → Int32 → yy_M Unit) (N : Nat) (x5 : Int32) (x6 : Int32) (x7 : Int32) (x8 : Int32) (x9 : Int32) (x12 : Int32) (x13 : Int32) (x14 : Int32) (g10 : (Nat → Int32)) (g11 : (Nat → Int32)) (s0 : Int32) (s1 : Int32) : yy_M ((Int32 × Int32 × Int32 × (Nat → Int32) × (Nat → Int32)) ⊕ ((Int32 × Int32 × (Nat → Int32) × (Nat → Int32)))) :=
  yy_wL g11 14 s1 s0 fun g6 => yy_rL g10 14 x14 fun v7 => yy_br (v7 = ((-1))) (mm_X10_goesInto_184 rec N x5 x6 x7 x8 x9 x12 x13 x14 g10 g6) (mm_X10_goesInto_184 rec N x5 x6 x7 x8 x9 x12 (x13 + 1) x14 g10 g6)
noncomputable def mm_X10_goesInto_127b (rec : Int32 → Int32 → Int32 → Int32 → Int32 → yy_M Unit) (N : Nat) (x5 : Int32) (x6 : Int32) (x7 : Int32) (x8 : Int32) (x9 : Int32) (x12 : Int32) (x13 : Int32) (x14 : Int32) (g10 : (Nat → Int32)) (g11 : (Nat → Int32)) : yy_M ((Int32 × Int32 × Int32 × (Nat → Int32) × (Nat → Int32)) ⊕ ((Int32 × Int32 × (Nat → Int32) × (Nat → Int32)))) :=
  yy_br (x14 < x6) (yy_rt (.inr (x12, x13, g10, g11))) (yy_cl (mm_X10_anchorOf x14 x6 x7 x8 x9) (fun r3 => yy_wL g10 14 x14 r3 fun g4 => yy_rL g4 14 x14 fun v5 => yy_br (v5 = ((-1))) (mm_X10_goesInto_171 rec N x5 x6 x7 x8 x9 x12 x13 x14 g4 g11 0 x14) (mm_X10_goesInto_171 rec N x5 x6 x7 x8 x9 x12 x13 x14 g4 g11 1 x14)))
noncomputable def mm_X10_goesInto_405 (rec : Int32 → Int32 → Int32 → Int32 → Int32 → yy_M Unit) (N : Nat) (x7 : Int32) (x9 : Int32) (x14 : Int32) (x15 : Int32) (x16 : Int32) (x17 : Int32) (x18 : Int32) (g10 : (Nat → Int32)) (g11 : (Nat → Int32)) (n : Nat) : yy_M ((Int32 × Int32 × Int32 × Int32 × Int32 × Nat) ⊕ ((Int32 × Int32 × Nat))) :=
  yy_rt (.inl (x14, x15, x16, x17, (x18 + 1), n))
noncomputable def mm_X10_goesInto_317b (rec : Int32 → Int32 → Int32 → Int32 → Int32 → yy_M Unit) (N : Nat) (x7 : Int32) (x9 : Int32) (x14 : Int32) (x15 : Int32) (x16 : Int32) (x17 : Int32) (x18 : Int32) (g10 : (Nat → Int32)) (g11 : (Nat → Int32)) (n : Nat) : yy_M ((Int32 × Int32 × Int32 × Int32 × Int32 × Nat) ⊕ ((Int32 × Int32 × Nat))) :=
  yy_br (x7 ≤ x18) (yy_rt (.inr (x16, x17, n))) (yy_br (x14 ≤ 0) (yy_rt (.inr (x16, x17, n))) (yy_rL g11 14 x18 fun v17 => yy_br (v17 = x14) (yy_rL g10 14 x18 fun v18 => yy_br (x15 < v18) (yy_rL g10 14 x18 fun v19 => yy_ck (n + yy_gN x16 x18 x17 v19 ≤ N) (yy_cl (rec x16 x18 x17 v19 0) (fun _ => yy_rL g10 14 x18 fun v20 => yy_cl (mm_X10_couples x18 v20 0) (fun _ => yy_rL g10 14 x18 fun v21 => yy_rL g10 14 x18 fun v22 => mm_X10_goesInto_405 rec N x7 x9 (x14 + (-1)) v21 (x18 + 1) (v22 + 1) x18 g10 g11 (n + yy_gN x16 x18 x17 v19))))) (mm_X10_goesInto_405 rec N x7 x9 x14 x15 x16 x17 x18 g10 g11 n)) (mm_X10_goesInto_405 rec N x7 x9 x14 x15 x16 x17 x18 g10 g11 n)))
noncomputable def mm_X10_goesInto_411 (rec : Int32 → Int32 → Int32 → Int32 → Int32 → yy_M Unit) (N : Nat) (x7 : Int32) (x9 : Int32) (x16 : Int32) (x17 : Int32) (n : Nat) : yy_M Unit :=
  yy_ck (n + yy_gN x16 x7 x17 x9 ≤ N) (yy_cl (rec x16 x7 x17 x9 0) (fun _ => yy_rt ()))
noncomputable def mm_X10_goesInto_317 (rec : Int32 → Int32 → Int32 → Int32 → Int32 → yy_M Unit) (N : Nat) (x7 : Int32) (x9 : Int32) (x14 : Int32) (x15 : Int32) (x16 : Int32) (x17 : Int32) (x18 : Int32) (g10 : (Nat → Int32)) (g11 : (Nat → Int32)) (n : Nat) : yy_M Unit :=
  yy_cl (yy_lp (fun (w : Int32 × Int32 × Int32 × Int32 × Int32 × Nat) => mm_X10_goesInto_317b rec N x7 x9 w.1 w.2.1 w.2.2.1 w.2.2.2.1 w.2.2.2.2.1 g10 g11 w.2.2.2.2.2) (x14, x15, x16, x17, x18, n)) (fun w => mm_X10_goesInto_411 rec N x7 x9 w.1 w.2.1 w.2.2)
noncomputable def mm_X10_goesInto_292 (rec : Int32 → Int32 → Int32 → Int32 → Int32 → yy_M Unit) (N : Nat) (x6 : Int32) (x7 : Int32) (x8 : Int32) (x9 : Int32) (x12 : Int32) (g10 : (Nat → Int32)) (g11 : (Nat → Int32)) : yy_M Unit :=
  yy_br (x12 = 0) (yy_rt ()) (mm_X10_goesInto_317 rec N x7 x9 x12 ((-1)) x6 x8 x6 g10 g11 2)
noncomputable def mm_X10_goesInto_275 (rec : Int32 → Int32 → Int32 → Int32 → Int32 → yy_M Unit) (N : Nat) (x5 : Int32) (x6 : Int32) (x7 : Int32) (x8 : Int32) (x9 : Int32) (x12 : Int32) (x13 : Int32) (g10 : (Nat → Int32)) (g11 : (Nat → Int32)) : yy_M Unit :=
  yy_br (x5 = 0) (mm_X10_goesInto_292 rec N x6 x7 x8 x9 x12 g10 g11) (yy_wF 112 17 x13 (yy_wF 112 18 x12 (mm_X10_goesInto_292 rec N x6 x7 x8 x9 x12 g10 g11)))
noncomputable def mm_X10_goesInto_127 (rec : Int32 → Int32 → Int32 → Int32 → Int32 → yy_M Unit) (N : Nat) (x5 : Int32) (x6 : Int32) (x7 : Int32) (x8 : Int32) (x9 : Int32) (x12 : Int32) (x13 : Int32) (x14 : Int32) (g10 : (Nat → Int32)) (g11 : (Nat → Int32)) : yy_M Unit :=
  yy_cl (yy_lp (fun (w : Int32 × Int32 × Int32 × (Nat → Int32) × (Nat → Int32)) => mm_X10_goesInto_127b rec N x5 x6 x7 x8 x9 w.1 w.2.1 w.2.2.1 w.2.2.2.1 w.2.2.2.2) (x12, x13, x14, g10, g11)) (fun w => mm_X10_goesInto_275 rec N x5 x6 x7 x8 x9 w.1 w.2.1 w.2.2.1 w.2.2.2)
noncomputable def mm_X10_goesInto_103 (rec : Int32 → Int32 → Int32 → Int32 → Int32 → yy_M Unit) (N : Nat) (x5 : Int32) (x6 : Int32) (x7 : Int32) (x8 : Int32) (x9 : Int32) : yy_M Unit :=
  mm_X10_goesInto_127 rec N x5 x6 x7 x8 x9 0 0 (x7 - 1) ((fun _ => 0)) ((fun _ => 0))
noncomputable def mm_X10_goesInto_56 (rec : Int32 → Int32 → Int32 → Int32 → Int32 → yy_M Unit) (N : Nat) (x5 : Int32) (x6 : Int32) (x7 : Int32) (x8 : Int32) (x9 : Int32) : yy_M Unit :=
  yy_cl (yy_lp (fun (w : Int32 × Int32) => mm_X10_goesInto_56b rec N x5 x6 w.1 x8 w.2) (x7, x9)) (fun w => mm_X10_goesInto_103 rec N x5 x6 w.1 x8 w.2)
noncomputable def mm_X10_goesInto_13 (rec : Int32 → Int32 → Int32 → Int32 → Int32 → yy_M Unit) (N : Nat) (x5 : Int32) (x6 : Int32) (x7 : Int32) (x8 : Int32) (x9 : Int32) : yy_M Unit :=
  yy_cl (yy_lp (fun (w : Int32 × Int32) => mm_X10_goesInto_13b rec N x5 w.1 x7 w.2 x9) (x6, x8)) (fun w => mm_X10_goesInto_56 rec N x5 w.1 x7 w.2 x9)
noncomputable def mm_X10_goesInto_F (rec : Int32 → Int32 → Int32 → Int32 → Int32 → yy_M Unit) (N : Nat) (x1 : Int32) (x2 : Int32) (x3 : Int32) (x4 : Int32) (x5 : Int32) : yy_M Unit :=
  mm_X10_goesInto_13 rec N x5 x1 x2 x3 x4
noncomputable def mm_X10_goesInto : Nat → Int32 → Int32 → Int32 → Int32 → Int32 → yy_M Unit
  | 0, _, _, _, _, _ => fun _ => none
  | d + 1, x1, x2, x3, x4, x5 => mm_X10_goesInto_F (mm_X10_goesInto d) (yy_gN x1 x2 x3 x4) x1 x2 x3 x4 x5
theorem kw_X10_goesInto : yy_wV RX10 yX10_goesInto cX10_goesInto 19 none 5 := ⟨⟨tw_900, tw_29, tw_61, tw_901⟩, by decide +kernel⟩
def yy_rmG (N d : Nat) : Room := { frames := 5 + d, cells := N, slots := 14 * N, locals := 119 + 38 * d }
def yy_ih (l : Launch) (D : va_G) (κ : Nat → Nat) (rec : Int32 → Int32 → Int32 → Int32 → Int32 → yy_M Unit) (d : Nat) : Prop := ∀ (ext : va_W) (x1 x2 x3 x4 x5 : Int32), yy_Mv l D κ ext yX10_goesInto cX10_goesInto 19 none (yy_rmG (yy_gN x1 x2 x3 x4) d) (yy_gN x1 x2 x3 x4) (14 * yy_gN x1 x2 x3 x4) [.ref (κ 4 + 112), .int x1, .int x2, .int x3, .int x4, .int x5] (rec x1 x2 x3 x4 x5)
set_option maxHeartbeats 4000000 in
set_option maxRecDepth 100000 in
theorem ww_X10_goesInto_13b {rec : Int32 → Int32 → Int32 → Int32 → Int32 → yy_M Unit} {N d : Nat} (hN : 2 ≤ N) (ih : yy_ih l D κ rec d) {x5 : Int32} {x6 : Int32} {x7 : Int32} {x8 : Int32} {x9 : Int32} {res : ((Int32 × Int32) ⊕ ((Int32 × Int32))) × yy_T} {Q : State → Prop} (C : yy_C D κ p m c cX10_goesInto 19 s args RX10) (Z : yy_Z D κ ext A s.heap τ H locs) (hl : lv_has ls 19 [(0, .ref (κ 4 + 112)), (5, .int x5), (6, .int x6), (7, .int x7), (8, .int x8), (9, .int x9)]) (h : mm_X10_goesInto_13b rec N x5 x6 x7 x8 x9 τ = some res)
    (kI : ∀ (w : Int32 × Int32) (τ1 : yy_T) (H1 : Heap) (locs1 : List Loc) (ls1 : Array Slot), res = (.inl w, τ1) → yy_Z D κ ext A s.heap τ1 H1 locs1 → lv_has ls1 19 [(0, .ref (κ 4 + 112)), (5, .int x5), (6, .int w.1), (7, .int x7), (8, .int w.2), (9, .int x9)] → W p l e (yy_rmG N (d + 1)) s m args below meth c H1 locs1 0 0 Q (F0 m 13 ls1 []))
    (kR0 : ∀ (w : Int32 × Int32) (τ1 : yy_T) (H1 : Heap) (locs1 : List Loc) (ls1 : Array Slot), res = (.inr w, τ1) → yy_Z D κ ext A s.heap τ1 H1 locs1 → lv_has ls1 19 [(0, .ref (κ 4 + 112)), (5, .int x5), (6, .int w.1), (7, .int x7), (8, .int w.2), (9, .int x9)] → W p l e (yy_rmG N (d + 1)) s m args below meth c H1 locs1 0 0 Q (F0 m 56 ls1 [])) : W p l e (yy_rmG N (d + 1)) s m args below meth c H locs 0 0 Q (F0 m 13 ls []) := by
  unfold mm_X10_goesInto_13b at h
  refine lv_iload C.1.1 C.1.2.1 dX10_goesInto_13 (lv_at hl 2 rfl) ?_
  refine lv_iload C.1.1 C.1.2.1 dX10_goesInto_15 (lv_at hl 3 rfl) ?_
  refine yy_icmp_ge (tgt := 56) C dX10_goesInto_17 (by decide) h (fun h => ?_) (fun h => ?_)
  · exact kR0 _ _ _ _ _ (yy_rt_of h) Z (lv_sub hl [0, 1, 2, 3, 4, 5] rfl)
  · refine lv_iload C.1.1 C.1.2.1 dX10_goesInto_20 (lv_at hl 4 rfl) ?_
    refine lv_iload C.1.1 C.1.2.1 dX10_goesInto_22 (lv_at hl 5 rfl) ?_
    refine yy_icmp_ge (tgt := 56) C dX10_goesInto_24 (by decide) h (fun h => ?_) (fun h => ?_)
    · exact kR0 _ _ _ _ _ (yy_rt_of h) Z (lv_sub hl [0, 1, 2, 3, 4, 5] rfl)
    · refine lv_aload_n C.1.1 C.1.2.1 dX10_goesInto_27 rfl (lv_at hl 0 rfl) ?_
      refine lv_iload C.1.1 C.1.2.1 dX10_goesInto_28 (lv_at hl 2 rfl) ?_
      refine lv_iload C.1.1 C.1.2.1 dX10_goesInto_30 (lv_at hl 4 rfl) ?_
      refine yy_cVi0 (As := [.int x6, .int x8]) (rest := []) (id := 112) (ci := 10) (q := (RX10, TX10, 20)) C Z (ss_X10_areAlike_ l D κ ext x6 x8) (by decide) (yy_ent_112 _) rfl tw_902 kw_X10_areAlike_ ⟨⟨rfl, rfl⟩, ⟨(show 3 + 1 ≤ 5 + (d + 1) by omega), (show 8 + (3 + 11) + 70 ≤ 119 + 38 * (d + 1) by omega)⟩, (show 0 + 0 ≤ N by omega), (show 0 + 0 ≤ 14 * N by omega)⟩ hl.1 rfl (Nat.le_of_ble_eq_true rfl) dX10_goesInto_32 h (fun r1 τ H locs Z h => ?_)
      refine yy_if_eq (tgt := 56) C dX10_goesInto_35 (by decide) h (fun h => ?_) (fun h => ?_)
      · exact kR0 _ _ _ _ _ (yy_rt_of h) Z (lv_sub hl [0, 1, 2, 3, 4, 5] rfl)
      · refine lv_aload_n C.1.1 C.1.2.1 dX10_goesInto_38 rfl (lv_at hl 0 rfl) ?_
        refine lv_iload C.1.1 C.1.2.1 dX10_goesInto_39 (lv_at hl 2 rfl) ?_
        refine lv_iload C.1.1 C.1.2.1 dX10_goesInto_41 (lv_at hl 4 rfl) ?_
        refine lv_iconst (v := 0) C.1.1 C.1.2.1 dX10_goesInto_43 (by decide) ?_
        refine yy_cVv0 (As := [.int x6, .int x8, .int 0]) (rest := []) (id := 112) (ci := 10) (q := (RX10, TX10, 20)) C Z (ss_X10_couples l D κ ext x6 x8 0) (by decide) (yy_ent_112 _) rfl tw_921 kw_X10_couples ⟨⟨rfl, rfl⟩, ⟨(show 0 + 1 ≤ 5 + (d + 1) by omega), (show 8 + (4 + 11) + 0 ≤ 119 + 38 * (d + 1) by omega)⟩, (show 0 + 0 ≤ N by omega), (show 0 + 0 ≤ 14 * N by omega)⟩ hl.1 rfl (Nat.le_of_ble_eq_true rfl) dX10_goesInto_44 h (fun τ H locs Z h => ?_)
        refine lv_iinc (v := x6 + 1) (lv' := [(6, .int (x6 + 1)), (0, .ref (κ 4 + 112)), (5, .int x5), (7, .int x7), (8, .int x8), (9, .int x9)]) C.1.1 C.1.2.1 dX10_goesInto_47 hl (k := 2) rfl (by rfl) (by decide) rfl (fun ls hl => ?_)
        refine lv_iinc (v := x8 + 1) (lv' := [(8, .int (x8 + 1)), (6, .int (x6 + 1)), (0, .ref (κ 4 + 112)), (5, .int x5), (7, .int x7), (9, .int x9)]) C.1.1 C.1.2.1 dX10_goesInto_50 hl (k := 4) rfl (by rfl) (by decide) rfl (fun ls hl => ?_)
        refine lv_goto (tgt := 13) C.1.1 C.1.2.1 dX10_goesInto_53 (by decide) ?_
        exact kI _ _ _ _ _ (yy_rt_of h) Z (lv_sub hl [2, 3, 1, 4, 0, 5] rfl)
set_option maxHeartbeats 4000000 in
set_option maxRecDepth 100000 in
theorem ww_X10_goesInto_56b {rec : Int32 → Int32 → Int32 → Int32 → Int32 → yy_M Unit} {N d : Nat} (hN : 2 ≤ N) (ih : yy_ih l D κ rec d) {x5 : Int32} {x6 : Int32} {x7 : Int32} {x8 : Int32} {x9 : Int32} {res : ((Int32 × Int32) ⊕ ((Int32 × Int32))) × yy_T} {Q : State → Prop} (C : yy_C D κ p m c cX10_goesInto 19 s args RX10) (Z : yy_Z D κ ext A s.heap τ H locs) (hl : lv_has ls 19 [(0, .ref (κ 4 + 112)), (5, .int x5), (6, .int x6), (7, .int x7), (8, .int x8), (9, .int x9)]) (h : mm_X10_goesInto_56b rec N x5 x6 x7 x8 x9 τ = some res)
    (kI : ∀ (w : Int32 × Int32) (τ1 : yy_T) (H1 : Heap) (locs1 : List Loc) (ls1 : Array Slot), res = (.inl w, τ1) → yy_Z D κ ext A s.heap τ1 H1 locs1 → lv_has ls1 19 [(0, .ref (κ 4 + 112)), (5, .int x5), (6, .int x6), (7, .int w.1), (8, .int x8), (9, .int w.2)] → W p l e (yy_rmG N (d + 1)) s m args below meth c H1 locs1 0 0 Q (F0 m 56 ls1 []))
    (kR0 : ∀ (w : Int32 × Int32) (τ1 : yy_T) (H1 : Heap) (locs1 : List Loc) (ls1 : Array Slot), res = (.inr w, τ1) → yy_Z D κ ext A s.heap τ1 H1 locs1 → lv_has ls1 19 [(0, .ref (κ 4 + 112)), (5, .int x5), (6, .int x6), (7, .int w.1), (8, .int x8), (9, .int w.2)] → W p l e (yy_rmG N (d + 1)) s m args below meth c H1 locs1 0 0 Q (F0 m 103 ls1 [])) : W p l e (yy_rmG N (d + 1)) s m args below meth c H locs 0 0 Q (F0 m 56 ls []) := by
  unfold mm_X10_goesInto_56b at h
  refine lv_iload C.1.1 C.1.2.1 dX10_goesInto_56 (lv_at hl 2 rfl) ?_
  refine lv_iload C.1.1 C.1.2.1 dX10_goesInto_58 (lv_at hl 3 rfl) ?_
  refine yy_icmp_ge (tgt := 103) C dX10_goesInto_60 (by decide) h (fun h => ?_) (fun h => ?_)
  · exact kR0 _ _ _ _ _ (yy_rt_of h) Z (lv_sub hl [0, 1, 2, 3, 4, 5] rfl)
  · refine lv_iload C.1.1 C.1.2.1 dX10_goesInto_63 (lv_at hl 4 rfl) ?_
    refine lv_iload C.1.1 C.1.2.1 dX10_goesInto_65 (lv_at hl 5 rfl) ?_
    refine yy_icmp_ge (tgt := 103) C dX10_goesInto_67 (by decide) h (fun h => ?_) (fun h => ?_)
    · exact kR0 _ _ _ _ _ (yy_rt_of h) Z (lv_sub hl [0, 1, 2, 3, 4, 5] rfl)
    · refine lv_aload_n C.1.1 C.1.2.1 dX10_goesInto_70 rfl (lv_at hl 0 rfl) ?_
      refine lv_iload C.1.1 C.1.2.1 dX10_goesInto_71 (lv_at hl 3 rfl) ?_
      refine lv_iconst (v := 1) C.1.1 C.1.2.1 dX10_goesInto_73 (by decide) ?_
      refine lv_isub C.1.1 C.1.2.1 dX10_goesInto_74 ?_
      refine lv_iload C.1.1 C.1.2.1 dX10_goesInto_75 (lv_at hl 5 rfl) ?_
      refine lv_iconst (v := 1) C.1.1 C.1.2.1 dX10_goesInto_77 (by decide) ?_
      refine lv_isub C.1.1 C.1.2.1 dX10_goesInto_78 ?_
      refine yy_cVi0 (As := [.int (x7 - 1), .int (x9 - 1)]) (rest := []) (id := 112) (ci := 10) (q := (RX10, TX10, 20)) C Z (ss_X10_areAlike_ l D κ ext (x7 - 1) (x9 - 1)) (by decide) (yy_ent_112 _) rfl tw_902 kw_X10_areAlike_ ⟨⟨rfl, rfl⟩, ⟨(show 3 + 1 ≤ 5 + (d + 1) by omega), (show 8 + (3 + 11) + 70 ≤ 119 + 38 * (d + 1) by omega)⟩, (show 0 + 0 ≤ N by omega), (show 0 + 0 ≤ 14 * N by omega)⟩ hl.1 rfl (Nat.le_of_ble_eq_true rfl) dX10_goesInto_79 h (fun r2 τ H locs Z h => ?_)
      refine yy_if_eq (tgt := 103) C dX10_goesInto_82 (by decide) h (fun h => ?_) (fun h => ?_)
      · exact kR0 _ _ _ _ _ (yy_rt_of h) Z (lv_sub hl [0, 1, 2, 3, 4, 5] rfl)
      · refine lv_iinc (v := x7 + (-1)) (lv' := [(7, .int (x7 + (-1))), (0, .ref (κ 4 + 112)), (5, .int x5), (6, .int x6), (8, .int x8), (9, .int x9)]) C.1.1 C.1.2.1 dX10_goesInto_85 hl (k := 3) rfl (by rfl) (by decide) rfl (fun ls hl => ?_)
        refine lv_iinc (v := x9 + (-1)) (lv' := [(9, .int (x9 + (-1))), (7, .int (x7 + (-1))), (0, .ref (κ 4 + 112)), (5, .int x5), (6, .int x6), (8, .int x8)]) C.1.1 C.1.2.1 dX10_goesInto_88 hl (k := 5) rfl (by rfl) (by decide) rfl (fun ls hl => ?_)
        refine lv_aload_n C.1.1 C.1.2.1 dX10_goesInto_91 rfl (lv_at hl 2 rfl) ?_
        refine lv_iload C.1.1 C.1.2.1 dX10_goesInto_92 (lv_at hl 1 rfl) ?_
        refine lv_iload C.1.1 C.1.2.1 dX10_goesInto_94 (lv_at hl 0 rfl) ?_
        refine lv_iconst (v := 0) C.1.1 C.1.2.1 dX10_goesInto_96 (by decide) ?_
        refine yy_cVv0 (As := [.int (x7 + (-1)), .int (x9 + (-1)), .int 0]) (rest := []) (id := 112) (ci := 10) (q := (RX10, TX10, 20)) C Z (ss_X10_couples l D κ ext (x7 + (-1)) (x9 + (-1)) 0) (by decide) (yy_ent_112 _) rfl tw_921 kw_X10_couples ⟨⟨rfl, rfl⟩, ⟨(show 0 + 1 ≤ 5 + (d + 1) by omega), (show 8 + (4 + 11) + 0 ≤ 119 + 38 * (d + 1) by omega)⟩, (show 0 + 0 ≤ N by omega), (show 0 + 0 ≤ 14 * N by omega)⟩ hl.1 rfl (Nat.le_of_ble_eq_true rfl) dX10_goesInto_97 h (fun τ H locs Z h => ?_)
        refine lv_goto (tgt := 56) C.1.1 C.1.2.1 dX10_goesInto_100 (by decide) ?_
        exact kI _ _ _ _ _ (yy_rt_of h) Z (lv_sub hl [2, 3, 4, 1, 5, 0] rfl)
set_option maxHeartbeats 4000000 in
set_option maxRecDepth 100000 in
theorem ww_X10_goesInto_246 {rec : Int32 → Int32 → Int32 → Int32 → Int32 → yy_M Unit} {N d : Nat} (hN : 2 ≤ N) (ih : yy_ih l D κ rec d) {x5 : Int32} {x6 : Int32} {x7 : Int32} {x8 : Int32} {x9 : Int32} {x12 : Int32} {x13 : Int32} {x14 : Int32} {x15 : Int32} {g10 : (Nat → Int32)} {g11 : (Nat → Int32)} {q10 : Nat} {q11 : Nat} {res : ((Int32 × (Nat → Int32)) ⊕ (((Nat → Int32)))) × yy_T} {Q : State → Prop} (C : yy_C D κ p m c cX10_goesInto 19 s args RX10) (Z : yy_Z D κ ((q11, .inl (κ 0, 14, .inl g11)) :: (q10, .inl (κ 0, 14, .inl g10)) :: ext) A s.heap τ H locs) (hl : lv_has ls 19 [(0, .ref (κ 4 + 112)), (5, .int x5), (6, .int x6), (7, .int x7), (8, .int x8), (9, .int x9), (10, .ref q10), (11, .ref q11), (12, .int x12), (13, .int x13), (14, .int x14), (15, .int x15)]) (h : mm_X10_goesInto_246 rec N x5 x6 x7 x8 x9 x12 x13 x14 x15 g10 g11 τ = some res)
    (kI : ∀ (w : Int32 × (Nat → Int32)) (τ1 : yy_T) (H1 : Heap) (locs1 : List Loc) (ls1 : Array Slot), res = (.inl w, τ1) → yy_Z D κ ((q11, .inl (κ 0, 14, .inl w.2)) :: (q10, .inl (κ 0, 14, .inl g10)) :: ext) A s.heap τ1 H1 locs1 → lv_has ls1 19 [(0, .ref (κ 4 + 112)), (5, .int x5), (6, .int x6), (7, .int x7), (8, .int x8), (9, .int x9), (10, .ref q10), (11, .ref q11), (12, .int x12), (13, .int x13), (14, .int x14), (15, .int w.1)] → W p l e (yy_rmG N (d + 1)) s m args below meth c H1 locs1 2 28 Q (F0 m 190 ls1 [])) : W p l e (yy_rmG N (d + 1)) s m args below meth c H locs 2 28 Q (F0 m 246 ls []) := by
  unfold mm_X10_goesInto_246 at h
  refine lv_iinc (v := x15 + 1) (lv' := [(15, .int (x15 + 1)), (0, .ref (κ 4 + 112)), (5, .int x5), (6, .int x6), (7, .int x7), (8, .int x8), (9, .int x9), (10, .ref q10), (11, .ref q11), (12, .int x12), (13, .int x13), (14, .int x14)]) C.1.1 C.1.2.1 dX10_goesInto_246 hl (k := 11) rfl (by rfl) (by decide) rfl (fun ls hl => ?_)
  refine lv_goto (tgt := 190) C.1.1 C.1.2.1 dX10_goesInto_249 (by decide) ?_
  exact kI _ _ _ _ _ (yy_rt_of h) Z (lv_sub hl [1, 2, 3, 4, 5, 6, 7, 8, 9, 10, 11, 0] rfl)
set_option maxHeartbeats 4000000 in
set_option maxRecDepth 100000 in
theorem ww_X10_goesInto_190b {rec : Int32 → Int32 → Int32 → Int32 → Int32 → yy_M Unit} {N d : Nat} (hN : 2 ≤ N) (ih : yy_ih l D κ rec d) {x5 : Int32} {x6 : Int32} {x7 : Int32} {x8 : Int32} {x9 : Int32} {x12 : Int32} {x13 : Int32} {x14 : Int32} {x15 : Int32} {g10 : (Nat → Int32)} {g11 : (Nat → Int32)} {q10 : Nat} {q11 : Nat} {res : ((Int32 × (Nat → Int32)) ⊕ (((Nat → Int32)))) × yy_T} {Q : State → Prop} (C : yy_C D κ p m c cX10_goesInto 19 s args RX10) (Z : yy_Z D κ ((q11, .inl (κ 0, 14, .inl g11)) :: (q10, .inl (κ 0, 14, .inl g10)) :: ext) A s.heap τ H locs) (hl : lv_has ls 19 [(0, .ref (κ 4 + 112)), (5, .int x5), (6, .int x6), (7, .int x7), (8, .int x8), (9, .int x9), (10, .ref q10), (11, .ref q11), (12, .int x12), (13, .int x13), (14, .int x14), (15, .int x15)]) (h : mm_X10_goesInto_190b rec N x5 x6 x7 x8 x9 x12 x13 x14 x15 g10 g11 τ = some res)
    (kI : ∀ (w : Int32 × (Nat → Int32)) (τ1 : yy_T) (H1 : Heap) (locs1 : List Loc) (ls1 : Array Slot), res = (.inl w, τ1) → yy_Z D κ ((q11, .inl (κ 0, 14, .inl w.2)) :: (q10, .inl (κ 0, 14, .inl g10)) :: ext) A s.heap τ1 H1 locs1 → lv_has ls1 19 [(0, .ref (κ 4 + 112)), (5, .int x5), (6, .int x6), (7, .int x7), (8, .int x8), (9, .int x9), (10, .ref q10), (11, .ref q11), (12, .int x12), (13, .int x13), (14, .int x14), (15, .int w.1)] → W p l e (yy_rmG N (d + 1)) s m args below meth c H1 locs1 2 28 Q (F0 m 190 ls1 []))
    (kR0 : ∀ (w : (Nat → Int32)) (τ1 : yy_T) (H1 : Heap) (locs1 : List Loc) (ls1 : Array Slot), res = (.inr w, τ1) → yy_Z D κ ((q11, .inl (κ 0, 14, .inl w)) :: (q10, .inl (κ 0, 14, .inl g10)) :: ext) A s.heap τ1 H1 locs1 → lv_has ls1 19 [(0, .ref (κ 4 + 112)), (5, .int x5), (6, .int x6), (7, .int x7), (8, .int x8), (9, .int x9), (10, .ref q10), (11, .ref q11), (12, .int x12), (13, .int x13), (14, .int x14)] → W p l e (yy_rmG N (d + 1)) s m args below meth c H1 locs1 2 28 Q (F0 m 252 ls1 [])) : W p l e (yy_rmG N (d + 1)) s m args below meth c H locs 2 28 Q (F0 m 190 ls []) := by
  unfold mm_X10_goesInto_190b at h
  refine lv_iload C.1.1 C.1.2.1 dX10_goesInto_190 (lv_at hl 11 rfl) ?_
  refine lv_iload C.1.1 C.1.2.1 dX10_goesInto_192 (lv_at hl 3 rfl) ?_
  refine yy_icmp_ge (tgt := 252) C dX10_goesInto_194 (by decide) h (fun h => ?_) (fun h => ?_)
  · exact kR0 _ _ _ _ _ (yy_rt_of h) Z (lv_sub hl [0, 1, 2, 3, 4, 5, 6, 7, 8, 9, 10] rfl)
  · refine lv_aload C.1.1 C.1.2.1 dX10_goesInto_197 (lv_at hl 6 rfl) ?_
    refine lv_iload C.1.1 C.1.2.1 dX10_goesInto_199 (lv_at hl 10 rfl) ?_
    refine yy_tald C Z 1 rfl dX10_goesInto_201 h (fun v8 h => ?_)
    refine lv_iconst (v := (-1)) C.1.1 C.1.2.1 dX10_goesInto_202 (by decide) ?_
    refine yy_icmp_eq (tgt := 252) C dX10_goesInto_203 (by decide) h (fun h => ?_) (fun h => ?_)
    · exact kR0 _ _ _ _ _ (yy_rt_of h) Z (lv_sub hl [0, 1, 2, 3, 4, 5, 6, 7, 8, 9, 10] rfl)
    · refine lv_aload C.1.1 C.1.2.1 dX10_goesInto_206 (lv_at hl 6 rfl) ?_
      refine lv_iload C.1.1 C.1.2.1 dX10_goesInto_208 (lv_at hl 11 rfl) ?_
      refine yy_tald C Z 1 rfl dX10_goesInto_210 h (fun v9 h => ?_)
      refine lv_aload C.1.1 C.1.2.1 dX10_goesInto_211 (lv_at hl 6 rfl) ?_
      refine lv_iload C.1.1 C.1.2.1 dX10_goesInto_213 (lv_at hl 10 rfl) ?_
      refine yy_tald C Z 1 rfl dX10_goesInto_215 h (fun v10 h => ?_)
      refine yy_icmp_le (tgt := 246) C dX10_goesInto_216 (by decide) h (fun h => ?_) (fun h => ?_)
      · exact ww_X10_goesInto_246 hN ih C Z (lv_sub hl [0, 1, 2, 3, 4, 5, 6, 7, 8, 9, 10, 11] rfl) h kI
      · refine lv_aload C.1.1 C.1.2.1 dX10_goesInto_219 (lv_at hl 7 rfl) ?_
        refine lv_iload C.1.1 C.1.2.1 dX10_goesInto_221 (lv_at hl 11 rfl) ?_
        refine yy_tald C Z 0 rfl dX10_goesInto_223 h (fun v11 h => ?_)
        refine lv_iconst (v := 1) C.1.1 C.1.2.1 dX10_goesInto_224 (by decide) ?_
        refine lv_iadd C.1.1 C.1.2.1 dX10_goesInto_225 ?_
        refine lv_aload C.1.1 C.1.2.1 dX10_goesInto_226 (lv_at hl 7 rfl) ?_
        refine lv_iload C.1.1 C.1.2.1 dX10_goesInto_228 (lv_at hl 10 rfl) ?_
        refine yy_tald C Z 0 rfl dX10_goesInto_230 h (fun v12 h => ?_)
        refine yy_icmp_le (tgt := 246) C dX10_goesInto_231 (by decide) h (fun h => ?_) (fun h => ?_)
        · exact ww_X10_goesInto_246 hN ih C Z (lv_sub hl [0, 1, 2, 3, 4, 5, 6, 7, 8, 9, 10, 11] rfl) h kI
        · refine lv_aload C.1.1 C.1.2.1 dX10_goesInto_234 (lv_at hl 7 rfl) ?_
          refine lv_iload C.1.1 C.1.2.1 dX10_goesInto_236 (lv_at hl 10 rfl) ?_
          refine lv_aload C.1.1 C.1.2.1 dX10_goesInto_238 (lv_at hl 7 rfl) ?_
          refine lv_iload C.1.1 C.1.2.1 dX10_goesInto_240 (lv_at hl 11 rfl) ?_
          refine yy_tald C Z 0 rfl dX10_goesInto_242 h (fun v13 h => ?_)
          refine lv_iconst (v := 1) C.1.1 C.1.2.1 dX10_goesInto_243 (by decide) ?_
          refine lv_iadd C.1.1 C.1.2.1 dX10_goesInto_244 ?_
          refine yy_tast C Z 0 rfl dX10_goesInto_245 h (fun g14 H locs Z h => ?_)
          have Z : yy_Z D κ ((q11, .inl (κ 0, 14, .inl g14)) :: (q10, .inl (κ 0, 14, .inl g10)) :: ext) A s.heap τ H locs := Z
          exact ww_X10_goesInto_246 hN ih C Z (lv_sub hl [0, 1, 2, 3, 4, 5, 6, 7, 8, 9, 10, 11] rfl) h kI
set_option maxHeartbeats 4000000 in
set_option maxRecDepth 100000 in
theorem ww_X10_goesInto_269 {rec : Int32 → Int32 → Int32 → Int32 → Int32 → yy_M Unit} {N d : Nat} (hN : 2 ≤ N) (ih : yy_ih l D κ rec d) {x5 : Int32} {x6 : Int32} {x7 : Int32} {x8 : Int32} {x9 : Int32} {x12 : Int32} {x13 : Int32} {x14 : Int32} {g10 : (Nat → Int32)} {g11 : (Nat → Int32)} {q10 : Nat} {q11 : Nat} {res : ((Int32 × Int32 × Int32 × (Nat → Int32) × (Nat → Int32)) ⊕ ((Int32 × Int32 × (Nat → Int32) × (Nat → Int32)))) × yy_T} {Q : State → Prop} (C : yy_C D κ p m c cX10_goesInto 19 s args RX10) (Z : yy_Z D κ ((q11, .inl (κ 0, 14, .inl g11)) :: (q10, .inl (κ 0, 14, .inl g10)) :: ext) A s.heap τ H locs) (hl : lv_has ls 19 [(0, .ref (κ 4 + 112)), (5, .int x5), (6, .int x6), (7, .int x7), (8, .int x8), (9, .int x9), (10, .ref q10), (11, .ref q11), (12, .int x12), (13, .int x13), (14, .int x14)]) (h : mm_X10_goesInto_269 rec N x5 x6 x7 x8 x9 x12 x13 x14 g10 g11 τ = some res)
    (kI : ∀ (w : Int32 × Int32 × Int32 × (Nat → Int32) × (Nat → Int32)) (τ1 : yy_T) (H1 : Heap) (locs1 : List Loc) (ls1 : Array Slot), res = (.inl w, τ1) → yy_Z D κ ((q11, .inl (κ 0, 14, .inl w.2.2.2.2)) :: (q10, .inl (κ 0, 14, .inl w.2.2.2.1)) :: ext) A s.heap τ1 H1 locs1 → lv_has ls1 19 [(0, .ref (κ 4 + 112)), (5, .int x5), (6, .int x6), (7, .int x7), (8, .int x8), (9, .int x9), (10, .ref q10), (11, .ref q11), (12, .int w.1), (13, .int w.2.1), (14, .int w.2.2.1)] → W p l e (yy_rmG N (d + 1)) s m args below meth c H1 locs1 2 28 Q (F0 m 127 ls1 [])) : W p l e (yy_rmG N (d + 1)) s m args below meth c H locs 2 28 Q (F0 m 269 ls []) := by
  unfold mm_X10_goesInto_269 at h
  refine lv_iinc (v := x14 + (-1)) (lv' := [(14, .int (x14 + (-1))), (0, .ref (κ 4 + 112)), (5, .int x5), (6, .int x6), (7, .int x7), (8, .int x8), (9, .int x9), (10, .ref q10), (11, .ref q11), (12, .int x12), (13, .int x13)]) C.1.1 C.1.2.1 dX10_goesInto_269 hl (k := 10) rfl (by rfl) (by decide) rfl (fun ls hl => ?_)
  refine lv_goto (tgt := 127) C.1.1 C.1.2.1 dX10_goesInto_272 (by decide) ?_
  exact kI _ _ _ _ _ (yy_rt_of h) Z (lv_sub hl [1, 2, 3, 4, 5, 6, 7, 8, 9, 10, 0] rfl)
set_option maxHeartbeats 4000000 in
set_option maxRecDepth 100000 in
theorem ww_X10_goesInto_252 {rec : Int32 → Int32 → Int32 → Int32 → Int32 → yy_M Unit} {N d : Nat} (hN : 2 ≤ N) (ih : yy_ih l D κ rec d) {x5 : Int32} {x6 : Int32} {x7 : Int32} {x8 : Int32} {x9 : Int32} {x12 : Int32} {x13 : Int32} {x14 : Int32} {g10 : (Nat → Int32)} {g11 : (Nat → Int32)} {q10 : Nat} {q11 : Nat} {res : ((Int32 × Int32 × Int32 × (Nat → Int32) × (Nat → Int32)) ⊕ ((Int32 × Int32 × (Nat → Int32) × (Nat → Int32)))) × yy_T} {Q : State → Prop} (C : yy_C D κ p m c cX10_goesInto 19 s args RX10) (Z : yy_Z D κ ((q11, .inl (κ 0, 14, .inl g11)) :: (q10, .inl (κ 0, 14, .inl g10)) :: ext) A s.heap τ H locs) (hl : lv_has ls 19 [(0, .ref (κ 4 + 112)), (5, .int x5), (6, .int x6), (7, .int x7), (8, .int x8), (9, .int x9), (10, .ref q10), (11, .ref q11), (12, .int x12), (13, .int x13), (14, .int x14)]) (h : mm_X10_goesInto_252 rec N x5 x6 x7 x8 x9 x12 x13 x14 g10 g11 τ = some res)
    (kI : ∀ (w : Int32 × Int32 × Int32 × (Nat → Int32) × (Nat → Int32)) (τ1 : yy_T) (H1 : Heap) (locs1 : List Loc) (ls1 : Array Slot), res = (.inl w, τ1) → yy_Z D κ ((q11, .inl (κ 0, 14, .inl w.2.2.2.2)) :: (q10, .inl (κ 0, 14, .inl w.2.2.2.1)) :: ext) A s.heap τ1 H1 locs1 → lv_has ls1 19 [(0, .ref (κ 4 + 112)), (5, .int x5), (6, .int x6), (7, .int x7), (8, .int x8), (9, .int x9), (10, .ref q10), (11, .ref q11), (12, .int w.1), (13, .int w.2.1), (14, .int w.2.2.1)] → W p l e (yy_rmG N (d + 1)) s m args below meth c H1 locs1 2 28 Q (F0 m 127 ls1 [])) : W p l e (yy_rmG N (d + 1)) s m args below meth c H locs 2 28 Q (F0 m 252 ls []) := by
  unfold mm_X10_goesInto_252 at h
  refine lv_aload C.1.1 C.1.2.1 dX10_goesInto_252 (lv_at hl 7 rfl) ?_
  refine lv_iload C.1.1 C.1.2.1 dX10_goesInto_254 (lv_at hl 10 rfl) ?_
  refine yy_tald C Z 0 rfl dX10_goesInto_256 h (fun v15 h => ?_)
  refine lv_iload C.1.1 C.1.2.1 dX10_goesInto_257 (lv_at hl 8 rfl) ?_
  refine yy_icmp_le (tgt := 269) C dX10_goesInto_259 (by decide) h (fun h => ?_) (fun h => ?_)
  · exact ww_X10_goesInto_269 hN ih C Z (lv_sub hl [0, 1, 2, 3, 4, 5, 6, 7, 8, 9, 10] rfl) h kI
  · refine lv_aload C.1.1 C.1.2.1 dX10_goesInto_262 (lv_at hl 7 rfl) ?_
    refine lv_iload C.1.1 C.1.2.1 dX10_goesInto_264 (lv_at hl 10 rfl) ?_
    refine yy_tald C Z 0 rfl dX10_goesInto_266 h (fun v16 h => ?_)
    refine lv_istore (lv' := [(12, .int v16), (0, .ref (κ 4 + 112)), (5, .int x5), (6, .int x6), (7, .int x7), (8, .int x8), (9, .int x9), (10, .ref q10), (11, .ref q11), (13, .int x13), (14, .int x14)]) C.1.1 C.1.2.1 dX10_goesInto_267 hl (by decide) rfl (fun ls hl => ?_)
    exact ww_X10_goesInto_269 hN ih C Z (lv_sub hl [1, 2, 3, 4, 5, 6, 7, 8, 0, 9, 10] rfl) h kI
set_option maxHeartbeats 4000000 in
set_option maxRecDepth 100000 in
theorem ww_X10_goesInto_190 {rec : Int32 → Int32 → Int32 → Int32 → Int32 → yy_M Unit} {N d : Nat} (hN : 2 ≤ N) (ih : yy_ih l D κ rec d) {x5 : Int32} {x6 : Int32} {x7 : Int32} {x8 : Int32} {x9 : Int32} {x12 : Int32} {x13 : Int32} {x14 : Int32} {x15 : Int32} {g10 : (Nat → Int32)} {g11 : (Nat → Int32)} {q10 : Nat} {q11 : Nat} {res : ((Int32 × Int32 × Int32 × (Nat → Int32) × (Nat → Int32)) ⊕ ((Int32 × Int32 × (Nat → Int32) × (Nat → Int32)))) × yy_T} {Q : State → Prop} (C : yy_C D κ p m c cX10_goesInto 19 s args RX10) (Z : yy_Z D κ ((q11, .inl (κ 0, 14, .inl g11)) :: (q10, .inl (κ 0, 14, .inl g10)) :: ext) A s.heap τ H locs) (hl : lv_has ls 19 [(0, .ref (κ 4 + 112)), (5, .int x5), (6, .int x6), (7, .int x7), (8, .int x8), (9, .int x9), (10, .ref q10), (11, .ref q11), (12, .int x12), (13, .int x13), (14, .int x14), (15, .int x15)]) (h : mm_X10_goesInto_190 rec N x5 x6 x7 x8 x9 x12 x13 x14 x15 g10 g11 τ = some res)
    (kI : ∀ (w : Int32 × Int32 × Int32 × (Nat → Int32) × (Nat → Int32)) (τ1 : yy_T) (H1 : Heap) (locs1 : List Loc) (ls1 : Array Slot), res = (.inl w, τ1) → yy_Z D κ ((q11, .inl (κ 0, 14, .inl w.2.2.2.2)) :: (q10, .inl (κ 0, 14, .inl w.2.2.2.1)) :: ext) A s.heap τ1 H1 locs1 → lv_has ls1 19 [(0, .ref (κ 4 + 112)), (5, .int x5), (6, .int x6), (7, .int x7), (8, .int x8), (9, .int x9), (10, .ref q10), (11, .ref q11), (12, .int w.1), (13, .int w.2.1), (14, .int w.2.2.1)] → W p l e (yy_rmG N (d + 1)) s m args below meth c H1 locs1 2 28 Q (F0 m 127 ls1 [])) : W p l e (yy_rmG N (d + 1)) s m args below meth c H locs 2 28 Q (F0 m 190 ls []) := by
  unfold mm_X10_goesInto_190 at h
  refine yy_loop h (fun (w : Int32 × (Nat → Int32)) (τ : yy_T) => ∀ (H : Heap) (locs : List Loc) (ls : Array Slot), yy_Z D κ ((q11, .inl (κ 0, 14, .inl w.2)) :: (q10, .inl (κ 0, 14, .inl g10)) :: ext) A s.heap τ H locs → lv_has ls 19 [(0, .ref (κ 4 + 112)), (5, .int x5), (6, .int x6), (7, .int x7), (8, .int x8), (9, .int x9), (10, .ref q10), (11, .ref q11), (12, .int x12), (13, .int x13), (14, .int x14), (15, .int w.1)] → W p l e (yy_rmG N (d + 1)) s m args below meth c H locs 2 28 Q (F0 m 190 ls [])) ?_ H locs ls Z hl
  intro w τ y hy hI hX H locs ls Z hl
  refine ww_X10_goesInto_190b hN ih C Z hl hy (fun w τ H locs ls ey Z hl => hI w τ ey H locs ls Z hl) (fun w τ H locs ls ey Z hl => ?_)
  · have h := hX _ _ ey
    exact ww_X10_goesInto_252 hN ih C Z (lv_sub hl [0, 1, 2, 3, 4, 5, 6, 7, 8, 9, 10] rfl) h kI
set_option maxHeartbeats 4000000 in
set_option maxRecDepth 100000 in
theorem ww_X10_goesInto_184 {rec : Int32 → Int32 → Int32 → Int32 → Int32 → yy_M Unit} {N d : Nat} (hN : 2 ≤ N) (ih : yy_ih l D κ rec d) {x5 : Int32} {x6 : Int32} {x7 : Int32} {x8 : Int32} {x9 : Int32} {x12 : Int32} {x13 : Int32} {x14 : Int32} {g10 : (Nat → Int32)} {g11 : (Nat → Int32)} {q10 : Nat} {q11 : Nat} {res : ((Int32 × Int32 × Int32 × (Nat → Int32) × (Nat → Int32)) ⊕ ((Int32 × Int32 × (Nat → Int32) × (Nat → Int32)))) × yy_T} {Q : State → Prop} (C : yy_C D κ p m c cX10_goesInto 19 s args RX10) (Z : yy_Z D κ ((q11, .inl (κ 0, 14, .inl g11)) :: (q10, .inl (κ 0, 14, .inl g10)) :: ext) A s.heap τ H locs) (hl : lv_has ls 19 [(0, .ref (κ 4 + 112)), (5, .int x5), (6, .int x6), (7, .int x7), (8, .int x8), (9, .int x9), (10, .ref q10), (11, .ref q11), (12, .int x12), (13, .int x13), (14, .int x14)]) (h : mm_X10_goesInto_184 rec N x5 x6 x7 x8 x9 x12 x13 x14 g10 g11 τ = some res)
    (kI : ∀ (w : Int32 × Int32 × Int32 × (Nat → Int32) × (Nat → Int32)) (τ1 : yy_T) (H1 : Heap) (locs1 : List Loc) (ls1 : Array Slot), res = (.inl w, τ1) → yy_Z D κ ((q11, .inl (κ 0, 14, .inl w.2.2.2.2)) :: (q10, .inl (κ 0, 14, .inl w.2.2.2.1)) :: ext) A s.heap τ1 H1 locs1 → lv_has ls1 19 [(0, .ref (κ 4 + 112)), (5, .int x5), (6, .int x6), (7, .int x7), (8, .int x8), (9, .int x9), (10, .ref q10), (11, .ref q11), (12, .int w.1), (13, .int w.2.1), (14, .int w.2.2.1)] → W p l e (yy_rmG N (d + 1)) s m args below meth c H1 locs1 2 28 Q (F0 m 127 ls1 [])) : W p l e (yy_rmG N (d + 1)) s m args below meth c H locs 2 28 Q (F0 m 184 ls []) := by
  unfold mm_X10_goesInto_184 at h
  refine lv_iload C.1.1 C.1.2.1 dX10_goesInto_184 (lv_at hl 10 rfl) ?_
  refine lv_iconst (v := 1) C.1.1 C.1.2.1 dX10_goesInto_186 (by decide) ?_
  refine lv_iadd C.1.1 C.1.2.1 dX10_goesInto_187 ?_
  refine lv_istore (lv' := [(15, .int (x14 + 1)), (0, .ref (κ 4 + 112)), (5, .int x5), (6, .int x6), (7, .int x7), (8, .int x8), (9, .int x9), (10, .ref q10), (11, .ref q11), (12, .int x12), (13, .int x13), (14, .int x14)]) C.1.1 C.1.2.1 dX10_goesInto_188 hl (by decide) rfl (fun ls hl => ?_)
  exact ww_X10_goesInto_190 hN ih C Z (lv_sub hl [1, 2, 3, 4, 5, 6, 7, 8, 9, 10, 11, 0] rfl) h kI
set_option maxHeartbeats 4000000 in
set_option maxRecDepth 100000 in
theorem ww_X10_goesInto_171 {rec : Int32 → Int32 → Int32 → Int32 → Int32 → yy_M Unit} {N d : Nat} (hN : 2 ≤ N) (ih : yy_ih l D κ rec d) {x5 : Int32} {x6 : Int32} {x7 : Int32} {x8 : Int32} {x9 : Int32} {x12 : Int32} {x13 : Int32} {x14 : Int32} {g10 : (Nat → Int32)} {g11 : (Nat → Int32)} {s0 : Int32} {s1 : Int32} {q10 : Nat} {q11 : Nat} {res : ((Int32 × Int32 × Int32 × (Nat → Int32) × (Nat → Int32)) ⊕ ((Int32 × Int32 × (Nat → Int32) × (Nat → Int32)))) × yy_T} {Q : State → Prop} (C : yy_C D κ p m c cX10_goesInto 19 s args RX10) (Z : yy_Z D κ ((q11, .inl (κ 0, 14, .inl g11)) :: (q10, .inl (κ 0, 14, .inl g10)) :: ext) A s.heap τ H locs) (hl : lv_has ls 19 [(0, .ref (κ 4 + 112)), (5, .int x5), (6, .int x6), (7, .int x7), (8, .int x8), (9, .int x9), (10, .ref q10), (11, .ref q11), (12, .int x12), (13, .int x13), (14, .int x14)]) (h : mm_X10_goesInto_171 rec N x5 x6 x7 x8 x9 x12 x13 x14 g10 g11 s0 s1 τ = some res)
    (kI : ∀ (w : Int32 × Int32 × Int32 × (Nat → Int32) × (Nat → Int32)) (τ1 : yy_T) (H1 : Heap) (locs1 : List Loc) (ls1 : Array Slot), res = (.inl w, τ1) → yy_Z D κ ((q11, .inl (κ 0, 14, .inl w.2.2.2.2)) :: (q10, .inl (κ 0, 14, .inl w.2.2.2.1)) :: ext) A s.heap τ1 H1 locs1 → lv_has ls1 19 [(0, .ref (κ 4 + 112)), (5, .int x5), (6, .int x6), (7, .int x7), (8, .int x8), (9, .int x9), (10, .ref q10), (11, .ref q11), (12, .int w.1), (13, .int w.2.1), (14, .int w.2.2.1)] → W p l e (yy_rmG N (d + 1)) s m args below meth c H1 locs1 2 28 Q (F0 m 127 ls1 [])) : W p l e (yy_rmG N (d + 1)) s m args below meth c H locs 2 28 Q (F0 m 171 ls [.int s0, .int s1, .ref q11]) := by
  unfold mm_X10_goesInto_171 at h
  refine yy_tast C Z 0 rfl dX10_goesInto_171 h (fun g6 H locs Z h => ?_)
  have Z : yy_Z D κ ((q11, .inl (κ 0, 14, .inl g6)) :: (q10, .inl (κ 0, 14, .inl g10)) :: ext) A s.heap τ H locs := Z
  refine lv_aload C.1.1 C.1.2.1 dX10_goesInto_172 (lv_at hl 6 rfl) ?_
  refine lv_iload C.1.1 C.1.2.1 dX10_goesInto_174 (lv_at hl 10 rfl) ?_
  refine yy_tald C Z 1 rfl dX10_goesInto_176 h (fun v7 h => ?_)
  refine lv_iconst (v := (-1)) C.1.1 C.1.2.1 dX10_goesInto_177 (by decide) ?_
  refine yy_icmp_eq (tgt := 184) C dX10_goesInto_178 (by decide) h (fun h => ?_) (fun h => ?_)
  · exact ww_X10_goesInto_184 hN ih C Z (lv_sub hl [0, 1, 2, 3, 4, 5, 6, 7, 8, 9, 10] rfl) h kI
  · refine lv_iinc (v := x13 + 1) (lv' := [(13, .int (x13 + 1)), (0, .ref (κ 4 + 112)), (5, .int x5), (6, .int x6), (7, .int x7), (8, .int x8), (9, .int x9), (10, .ref q10), (11, .ref q11), (12, .int x12), (14, .int x14)]) C.1.1 C.1.2.1 dX10_goesInto_181 hl (k := 9) rfl (by rfl) (by decide) rfl (fun ls hl => ?_)
    exact ww_X10_goesInto_184 hN ih C Z (lv_sub hl [1, 2, 3, 4, 5, 6, 7, 8, 9, 0, 10] rfl) h kI
set_option maxHeartbeats 4000000 in
set_option maxRecDepth 100000 in
theorem ww_X10_goesInto_127b {rec : Int32 → Int32 → Int32 → Int32 → Int32 → yy_M Unit} {N d : Nat} (hN : 2 ≤ N) (ih : yy_ih l D κ rec d) {x5 : Int32} {x6 : Int32} {x7 : Int32} {x8 : Int32} {x9 : Int32} {x12 : Int32} {x13 : Int32} {x14 : Int32} {g10 : (Nat → Int32)} {g11 : (Nat → Int32)} {q10 : Nat} {q11 : Nat} {res : ((Int32 × Int32 × Int32 × (Nat → Int32) × (Nat → Int32)) ⊕ ((Int32 × Int32 × (Nat → Int32) × (Nat → Int32)))) × yy_T} {Q : State → Prop} (C : yy_C D κ p m c cX10_goesInto 19 s args RX10) (Z : yy_Z D κ ((q11, .inl (κ 0, 14, .inl g11)) :: (q10, .inl (κ 0, 14, .inl g10)) :: ext) A s.heap τ H locs) (hl : lv_has ls 19 [(0, .ref (κ 4 + 112)), (5, .int x5), (6, .int x6), (7, .int x7), (8, .int x8), (9, .int x9), (10, .ref q10), (11, .ref q11), (12, .int x12), (13, .int x13), (14, .int x14)]) (h : mm_X10_goesInto_127b rec N x5 x6 x7 x8 x9 x12 x13 x14 g10 g11 τ = some res)
    (kI : ∀ (w : Int32 × Int32 × Int32 × (Nat → Int32) × (Nat → Int32)) (τ1 : yy_T) (H1 : Heap) (locs1 : List Loc) (ls1 : Array Slot), res = (.inl w, τ1) → yy_Z D κ ((q11, .inl (κ 0, 14, .inl w.2.2.2.2)) :: (q10, .inl (κ 0, 14, .inl w.2.2.2.1)) :: ext) A s.heap τ1 H1 locs1 → lv_has ls1 19 [(0, .ref (κ 4 + 112)), (5, .int x5), (6, .int x6), (7, .int x7), (8, .int x8), (9, .int x9), (10, .ref q10), (11, .ref q11), (12, .int w.1), (13, .int w.2.1), (14, .int w.2.2.1)] → W p l e (yy_rmG N (d + 1)) s m args below meth c H1 locs1 2 28 Q (F0 m 127 ls1 []))
    (kR0 : ∀ (w : Int32 × Int32 × (Nat → Int32) × (Nat → Int32)) (τ1 : yy_T) (H1 : Heap) (locs1 : List Loc) (ls1 : Array Slot), res = (.inr w, τ1) → yy_Z D κ ((q11, .inl (κ 0, 14, .inl w.2.2.2)) :: (q10, .inl (κ 0, 14, .inl w.2.2.1)) :: ext) A s.heap τ1 H1 locs1 → lv_has ls1 19 [(0, .ref (κ 4 + 112)), (5, .int x5), (6, .int x6), (7, .int x7), (8, .int x8), (9, .int x9), (10, .ref q10), (11, .ref q11), (12, .int w.1), (13, .int w.2.1)] → W p l e (yy_rmG N (d + 1)) s m args below meth c H1 locs1 2 28 Q (F0 m 275 ls1 [])) : W p l e (yy_rmG N (d + 1)) s m args below meth c H locs 2 28 Q (F0 m 127 ls []) := by
  unfold mm_X10_goesInto_127b at h
  refine lv_iload C.1.1 C.1.2.1 dX10_goesInto_127 (lv_at hl 10 rfl) ?_
  refine lv_iload C.1.1 C.1.2.1 dX10_goesInto_129 (lv_at hl 2 rfl) ?_
  refine yy_icmp_lt (tgt := 275) C dX10_goesInto_131 (by decide) h (fun h => ?_) (fun h => ?_)
  · exact kR0 _ _ _ _ _ (yy_rt_of h) Z (lv_sub hl [0, 1, 2, 3, 4, 5, 6, 7, 8, 9] rfl)
  · refine lv_aload C.1.1 C.1.2.1 dX10_goesInto_134 (lv_at hl 6 rfl) ?_
    refine lv_iload C.1.1 C.1.2.1 dX10_goesInto_136 (lv_at hl 10 rfl) ?_
    refine lv_aload_n C.1.1 C.1.2.1 dX10_goesInto_138 rfl (lv_at hl 0 rfl) ?_
    refine lv_iload C.1.1 C.1.2.1 dX10_goesInto_139 (lv_at hl 10 rfl) ?_
    refine lv_iload C.1.1 C.1.2.1 dX10_goesInto_141 (lv_at hl 2 rfl) ?_
    refine lv_iload C.1.1 C.1.2.1 dX10_goesInto_143 (lv_at hl 3 rfl) ?_
    refine lv_iload C.1.1 C.1.2.1 dX10_goesInto_145 (lv_at hl 4 rfl) ?_
    refine lv_iload C.1.1 C.1.2.1 dX10_goesInto_147 (lv_at hl 5 rfl) ?_
    refine yy_cVi0 (As := [.int x14, .int x6, .int x7, .int x8, .int x9]) (rest := [.int x14, .ref q10]) (id := 112) (ci := 10) (q := (RX10, TX10, 20)) C Z (ss_X10_anchorOf l D κ ((q11, .inl (κ 0, 14, .inl g11)) :: (q10, .inl (κ 0, 14, .inl g10)) :: ext) x14 x6 x7 x8 x9) (by decide) (yy_ent_112 _) rfl tw_925 kw_X10_anchorOf ⟨⟨rfl, rfl⟩, ⟨(show 4 + 1 ≤ 5 + (d + 1) by omega), (show 8 + (8 + 11) + 92 ≤ 119 + 38 * (d + 1) by omega)⟩, (show 2 + 0 ≤ N by omega), (show 28 + 0 ≤ 14 * N by omega)⟩ hl.1 rfl (Nat.le_of_ble_eq_true rfl) dX10_goesInto_149 h (fun r3 τ H locs Z h => ?_)
    refine yy_tast C Z 1 rfl dX10_goesInto_152 h (fun g4 H locs Z h => ?_)
    have Z : yy_Z D κ ((q11, .inl (κ 0, 14, .inl g11)) :: (q10, .inl (κ 0, 14, .inl g4)) :: ext) A s.heap τ H locs := Z
    refine lv_aload C.1.1 C.1.2.1 dX10_goesInto_153 (lv_at hl 7 rfl) ?_
    refine lv_iload C.1.1 C.1.2.1 dX10_goesInto_155 (lv_at hl 10 rfl) ?_
    refine lv_aload C.1.1 C.1.2.1 dX10_goesInto_157 (lv_at hl 6 rfl) ?_
    refine lv_iload C.1.1 C.1.2.1 dX10_goesInto_159 (lv_at hl 10 rfl) ?_
    refine yy_tald C Z 1 rfl dX10_goesInto_161 h (fun v5 h => ?_)
    refine lv_iconst (v := (-1)) C.1.1 C.1.2.1 dX10_goesInto_162 (by decide) ?_
    refine yy_icmp_ne (tgt := 170) C dX10_goesInto_163 (by decide) h (fun h => ?_) (fun h => ?_)
    · refine lv_iconst (v := 1) C.1.1 C.1.2.1 dX10_goesInto_170 (by decide) ?_
      exact ww_X10_goesInto_171 hN ih C Z (lv_sub hl [0, 1, 2, 3, 4, 5, 6, 7, 8, 9, 10] rfl) h kI
    · refine lv_iconst (v := 0) C.1.1 C.1.2.1 dX10_goesInto_166 (by decide) ?_
      refine lv_goto (tgt := 171) C.1.1 C.1.2.1 dX10_goesInto_167 (by decide) ?_
      exact ww_X10_goesInto_171 hN ih C Z (lv_sub hl [0, 1, 2, 3, 4, 5, 6, 7, 8, 9, 10] rfl) h kI
set_option maxHeartbeats 4000000 in
set_option maxRecDepth 100000 in
theorem ww_X10_goesInto_405 {rec : Int32 → Int32 → Int32 → Int32 → Int32 → yy_M Unit} {N d : Nat} (hN : 2 ≤ N) (ih : yy_ih l D κ rec d) {x7 : Int32} {x9 : Int32} {x14 : Int32} {x15 : Int32} {x16 : Int32} {x17 : Int32} {x18 : Int32} {g10 : (Nat → Int32)} {g11 : (Nat → Int32)} {n : Nat} {q10 : Nat} {q11 : Nat} {res : ((Int32 × Int32 × Int32 × Int32 × Int32 × Nat) ⊕ ((Int32 × Int32 × Nat))) × yy_T} {Q : State → Prop} (C : yy_C D κ p m c cX10_goesInto 19 s args RX10) (Z : yy_Z D κ ((q11, .inl (κ 0, 14, .inl g11)) :: (q10, .inl (κ 0, 14, .inl g10)) :: ext) A s.heap τ H locs) (hl : lv_has ls 19 [(0, .ref (κ 4 + 112)), (7, .int x7), (9, .int x9), (10, .ref q10), (11, .ref q11), (14, .int x14), (15, .int x15), (16, .int x16), (17, .int x17), (18, .int x18)]) (h : mm_X10_goesInto_405 rec N x7 x9 x14 x15 x16 x17 x18 g10 g11 n τ = some res)
    (kI : ∀ (w : Int32 × Int32 × Int32 × Int32 × Int32 × Nat) (τ1 : yy_T) (H1 : Heap) (locs1 : List Loc) (ls1 : Array Slot), res = (.inl w, τ1) → yy_Z D κ ((q11, .inl (κ 0, 14, .inl g11)) :: (q10, .inl (κ 0, 14, .inl g10)) :: ext) A s.heap τ1 H1 locs1 → lv_has ls1 19 [(0, .ref (κ 4 + 112)), (7, .int x7), (9, .int x9), (10, .ref q10), (11, .ref q11), (14, .int w.1), (15, .int w.2.1), (16, .int w.2.2.1), (17, .int w.2.2.2.1), (18, .int w.2.2.2.2.1)] → W p l e (yy_rmG N (d + 1)) s m args below meth c H1 locs1 w.2.2.2.2.2 (14 * w.2.2.2.2.2) Q (F0 m 317 ls1 [])) : W p l e (yy_rmG N (d + 1)) s m args below meth c H locs n (14 * n) Q (F0 m 405 ls []) := by
  unfold mm_X10_goesInto_405 at h
  refine lv_iinc (v := x18 + 1) (lv' := [(18, .int (x18 + 1)), (0, .ref (κ 4 + 112)), (7, .int x7), (9, .int x9), (10, .ref q10), (11, .ref q11), (14, .int x14), (15, .int x15), (16, .int x16), (17, .int x17)]) C.1.1 C.1.2.1 dX10_goesInto_405 hl (k := 9) rfl (by rfl) (by decide) rfl (fun ls hl => ?_)
  refine lv_goto (tgt := 317) C.1.1 C.1.2.1 dX10_goesInto_408 (by decide) ?_
  exact kI _ _ _ _ _ (yy_rt_of h) Z (lv_sub hl [1, 2, 3, 4, 5, 6, 7, 8, 9, 0] rfl)
set_option maxHeartbeats 4000000 in
set_option maxRecDepth 100000 in
theorem ww_X10_goesInto_317b {rec : Int32 → Int32 → Int32 → Int32 → Int32 → yy_M Unit} {N d : Nat} (hN : 2 ≤ N) (ih : yy_ih l D κ rec d) {x7 : Int32} {x9 : Int32} {x14 : Int32} {x15 : Int32} {x16 : Int32} {x17 : Int32} {x18 : Int32} {g10 : (Nat → Int32)} {g11 : (Nat → Int32)} {n : Nat} {q10 : Nat} {q11 : Nat} {res : ((Int32 × Int32 × Int32 × Int32 × Int32 × Nat) ⊕ ((Int32 × Int32 × Nat))) × yy_T} {Q : State → Prop} (C : yy_C D κ p m c cX10_goesInto 19 s args RX10) (Z : yy_Z D κ ((q11, .inl (κ 0, 14, .inl g11)) :: (q10, .inl (κ 0, 14, .inl g10)) :: ext) A s.heap τ H locs) (hl : lv_has ls 19 [(0, .ref (κ 4 + 112)), (7, .int x7), (9, .int x9), (10, .ref q10), (11, .ref q11), (14, .int x14), (15, .int x15), (16, .int x16), (17, .int x17), (18, .int x18)]) (h : mm_X10_goesInto_317b rec N x7 x9 x14 x15 x16 x17 x18 g10 g11 n τ = some res)
    (kI : ∀ (w : Int32 × Int32 × Int32 × Int32 × Int32 × Nat) (τ1 : yy_T) (H1 : Heap) (locs1 : List Loc) (ls1 : Array Slot), res = (.inl w, τ1) → yy_Z D κ ((q11, .inl (κ 0, 14, .inl g11)) :: (q10, .inl (κ 0, 14, .inl g10)) :: ext) A s.heap τ1 H1 locs1 → lv_has ls1 19 [(0, .ref (κ 4 + 112)), (7, .int x7), (9, .int x9), (10, .ref q10), (11, .ref q11), (14, .int w.1), (15, .int w.2.1), (16, .int w.2.2.1), (17, .int w.2.2.2.1), (18, .int w.2.2.2.2.1)] → W p l e (yy_rmG N (d + 1)) s m args below meth c H1 locs1 w.2.2.2.2.2 (14 * w.2.2.2.2.2) Q (F0 m 317 ls1 []))
    (kR0 : ∀ {gd10 : Nat → Int32} {gd11 : Nat → Int32} (w : Int32 × Int32 × Nat) (τ1 : yy_T) (H1 : Heap) (locs1 : List Loc) (ls1 : Array Slot), res = (.inr w, τ1) → yy_Z D κ ((q11, .inl (κ 0, 14, .inl gd11)) :: (q10, .inl (κ 0, 14, .inl gd10)) :: ext) A s.heap τ1 H1 locs1 → lv_has ls1 19 [(0, .ref (κ 4 + 112)), (7, .int x7), (9, .int x9), (16, .int w.1), (17, .int w.2.1)] → W p l e (yy_rmG N (d + 1)) s m args below meth c H1 locs1 w.2.2 (14 * w.2.2) Q (F0 m 411 ls1 [])) : W p l e (yy_rmG N (d + 1)) s m args below meth c H locs n (14 * n) Q (F0 m 317 ls []) := by
  unfold mm_X10_goesInto_317b at h
  refine lv_iload C.1.1 C.1.2.1 dX10_goesInto_317 (lv_at hl 9 rfl) ?_
  refine lv_iload C.1.1 C.1.2.1 dX10_goesInto_319 (lv_at hl 1 rfl) ?_
  refine yy_icmp_ge (tgt := 411) C dX10_goesInto_321 (by decide) h (fun h => ?_) (fun h => ?_)
  · exact kR0 _ _ _ _ _ (yy_rt_of h) Z (lv_sub hl [0, 1, 2, 7, 8] rfl)
  · refine lv_iload C.1.1 C.1.2.1 dX10_goesInto_324 (lv_at hl 5 rfl) ?_
    refine yy_if_le (tgt := 411) C dX10_goesInto_326 (by decide) h (fun h => ?_) (fun h => ?_)
    · exact kR0 _ _ _ _ _ (yy_rt_of h) Z (lv_sub hl [0, 1, 2, 7, 8] rfl)
    · refine lv_aload C.1.1 C.1.2.1 dX10_goesInto_329 (lv_at hl 4 rfl) ?_
      refine lv_iload C.1.1 C.1.2.1 dX10_goesInto_331 (lv_at hl 9 rfl) ?_
      refine yy_tald C Z 0 rfl dX10_goesInto_333 h (fun v17 h => ?_)
      refine lv_iload C.1.1 C.1.2.1 dX10_goesInto_334 (lv_at hl 5 rfl) ?_
      refine yy_icmp_ne (tgt := 405) C dX10_goesInto_336 (by decide) h (fun h => ?_) (fun h => ?_)
      · exact ww_X10_goesInto_405 hN ih C Z (lv_sub hl [0, 1, 2, 3, 4, 5, 6, 7, 8, 9] rfl) h kI
      · refine lv_aload C.1.1 C.1.2.1 dX10_goesInto_339 (lv_at hl 3 rfl) ?_
        refine lv_iload C.1.1 C.1.2.1 dX10_goesInto_341 (lv_at hl 9 rfl) ?_
        refine yy_tald C Z 1 rfl dX10_goesInto_343 h (fun v18 h => ?_)
        refine lv_iload C.1.1 C.1.2.1 dX10_goesInto_344 (lv_at hl 6 rfl) ?_
        refine yy_icmp_gt (tgt := 352) C dX10_goesInto_346 (by decide) h (fun h => ?_) (fun h => ?_)
        · refine lv_aload_n C.1.1 C.1.2.1 dX10_goesInto_352 rfl (lv_at hl 0 rfl) ?_
          refine lv_iload C.1.1 C.1.2.1 dX10_goesInto_353 (lv_at hl 7 rfl) ?_
          refine lv_iload C.1.1 C.1.2.1 dX10_goesInto_355 (lv_at hl 9 rfl) ?_
          refine lv_iload C.1.1 C.1.2.1 dX10_goesInto_357 (lv_at hl 8 rfl) ?_
          refine lv_aload C.1.1 C.1.2.1 dX10_goesInto_359 (lv_at hl 3 rfl) ?_
          refine lv_iload C.1.1 C.1.2.1 dX10_goesInto_361 (lv_at hl 9 rfl) ?_
          refine yy_tald C Z 1 rfl dX10_goesInto_363 h (fun v19 h => ?_)
          refine lv_iconst (v := 0) C.1.1 C.1.2.1 dX10_goesInto_364 (by decide) ?_
          have hc := (yy_ck_of h).1
          have h := (yy_ck_of h).2
          refine yy_cVv (As := [.int x16, .int x18, .int x17, .int v19, .int 0]) (rest := []) (id := 112) (ci := 10) (q := (RX10, TX10, 20)) C Z (ih ((q11, .inl (κ 0, 14, .inl g11)) :: (q10, .inl (κ 0, 14, .inl g10)) :: ext) x16 x18 x17 v19 0) (by decide) (yy_ent_112 _) rfl tw_898 kw_X10_goesInto ⟨⟨rfl, rfl⟩, ⟨(show 5 + d + 1 ≤ 5 + (d + 1) by omega), (show 8 + (19 + 11) + (119 + 38 * d) ≤ 119 + 38 * (d + 1) by omega)⟩, (show n + yy_gN x16 x18 x17 v19 ≤ N by omega), (show 14 * n + 14 * yy_gN x16 x18 x17 v19 ≤ 14 * N by omega)⟩ hl.1 rfl (Nat.le_of_ble_eq_true rfl) dX10_goesInto_365 h (fun τ H locs Z h => ?_)
          refine W.widen (k := n + yy_gN x16 x18 x17 v19) (n := 14 * (n + yy_gN x16 x18 x17 v19)) (Nat.le_refl _) (by omega) ?_
          refine lv_aload_n C.1.1 C.1.2.1 dX10_goesInto_368 rfl (lv_at hl 0 rfl) ?_
          refine lv_iload C.1.1 C.1.2.1 dX10_goesInto_369 (lv_at hl 9 rfl) ?_
          refine lv_aload C.1.1 C.1.2.1 dX10_goesInto_371 (lv_at hl 3 rfl) ?_
          refine lv_iload C.1.1 C.1.2.1 dX10_goesInto_373 (lv_at hl 9 rfl) ?_
          refine yy_tald C Z 1 rfl dX10_goesInto_375 h (fun v20 h => ?_)
          refine lv_iconst (v := 0) C.1.1 C.1.2.1 dX10_goesInto_376 (by decide) ?_
          refine yy_cVv0 (As := [.int x18, .int v20, .int 0]) (rest := []) (id := 112) (ci := 10) (q := (RX10, TX10, 20)) C Z (ss_X10_couples l D κ ((q11, .inl (κ 0, 14, .inl g11)) :: (q10, .inl (κ 0, 14, .inl g10)) :: ext) x18 v20 0) (by decide) (yy_ent_112 _) rfl tw_921 kw_X10_couples ⟨⟨rfl, rfl⟩, ⟨(show 0 + 1 ≤ 5 + (d + 1) by omega), (show 8 + (4 + 11) + 0 ≤ 119 + 38 * (d + 1) by omega)⟩, (show n + yy_gN x16 x18 x17 v19 + 0 ≤ N by omega), (show 14 * (n + yy_gN x16 x18 x17 v19) + 0 ≤ 14 * N by omega)⟩ hl.1 rfl (Nat.le_of_ble_eq_true rfl) dX10_goesInto_377 h (fun τ H locs Z h => ?_)
          refine lv_aload C.1.1 C.1.2.1 dX10_goesInto_380 (lv_at hl 3 rfl) ?_
          refine lv_iload C.1.1 C.1.2.1 dX10_goesInto_382 (lv_at hl 9 rfl) ?_
          refine yy_tald C Z 1 rfl dX10_goesInto_384 h (fun v21 h => ?_)
          refine lv_istore (lv' := [(15, .int v21), (0, .ref (κ 4 + 112)), (7, .int x7), (9, .int x9), (10, .ref q10), (11, .ref q11), (14, .int x14), (16, .int x16), (17, .int x17), (18, .int x18)]) C.1.1 C.1.2.1 dX10_goesInto_385 hl (by decide) rfl (fun ls hl => ?_)
          refine lv_iload C.1.1 C.1.2.1 dX10_goesInto_387 (lv_at hl 9 rfl) ?_
          refine lv_iconst (v := 1) C.1.1 C.1.2.1 dX10_goesInto_389 (by decide) ?_
          refine lv_iadd C.1.1 C.1.2.1 dX10_goesInto_390 ?_
          refine lv_istore (lv' := [(16, .int (x18 + 1)), (15, .int v21), (0, .ref (κ 4 + 112)), (7, .int x7), (9, .int x9), (10, .ref q10), (11, .ref q11), (14, .int x14), (17, .int x17), (18, .int x18)]) C.1.1 C.1.2.1 dX10_goesInto_391 hl (by decide) rfl (fun ls hl => ?_)
          refine lv_aload C.1.1 C.1.2.1 dX10_goesInto_393 (lv_at hl 5 rfl) ?_
          refine lv_iload C.1.1 C.1.2.1 dX10_goesInto_395 (lv_at hl 9 rfl) ?_
          refine yy_tald C Z 1 rfl dX10_goesInto_397 h (fun v22 h => ?_)
          refine lv_iconst (v := 1) C.1.1 C.1.2.1 dX10_goesInto_398 (by decide) ?_
          refine lv_iadd C.1.1 C.1.2.1 dX10_goesInto_399 ?_
          refine lv_istore (lv' := [(17, .int (v22 + 1)), (16, .int (x18 + 1)), (15, .int v21), (0, .ref (κ 4 + 112)), (7, .int x7), (9, .int x9), (10, .ref q10), (11, .ref q11), (14, .int x14), (18, .int x18)]) C.1.1 C.1.2.1 dX10_goesInto_400 hl (by decide) rfl (fun ls hl => ?_)
          refine lv_iinc (v := x14 + (-1)) (lv' := [(14, .int (x14 + (-1))), (17, .int (v22 + 1)), (16, .int (x18 + 1)), (15, .int v21), (0, .ref (κ 4 + 112)), (7, .int x7), (9, .int x9), (10, .ref q10), (11, .ref q11), (18, .int x18)]) C.1.1 C.1.2.1 dX10_goesInto_402 hl (k := 8) rfl (by rfl) (by decide) rfl (fun ls hl => ?_)
          exact ww_X10_goesInto_405 hN ih C Z (lv_sub hl [4, 5, 6, 7, 8, 0, 3, 2, 1, 9] rfl) h kI
        · refine lv_goto (tgt := 405) C.1.1 C.1.2.1 dX10_goesInto_349 (by decide) ?_
          exact ww_X10_goesInto_405 hN ih C Z (lv_sub hl [0, 1, 2, 3, 4, 5, 6, 7, 8, 9] rfl) h kI
set_option maxHeartbeats 4000000 in
set_option maxRecDepth 100000 in
theorem ww_X10_goesInto_411 {rec : Int32 → Int32 → Int32 → Int32 → Int32 → yy_M Unit} {N d : Nat} (hN : 2 ≤ N) (ih : yy_ih l D κ rec d) {x7 : Int32} {x9 : Int32} {x16 : Int32} {x17 : Int32} {n : Nat} {q10 : Nat} {gd10 : Nat → Int32} {q11 : Nat} {gd11 : Nat → Int32} {res : Unit × yy_T} (C : yy_C D κ p m c cX10_goesInto 19 s args RX10) (hr : meth.sig.returnType = none) (hlk : meth.locks = false) (Z : yy_Z D κ ((q11, .inl (κ 0, 14, .inl gd11)) :: (q10, .inl (κ 0, 14, .inl gd10)) :: ext) A s.heap τ H locs) (hl : lv_has ls 19 [(0, .ref (κ 4 + 112)), (7, .int x7), (9, .int x9), (16, .int x16), (17, .int x17)]) (h : mm_X10_goesInto_411 rec N x7 x9 x16 x17 n τ = some res) : W p l e (yy_rmG N (d + 1)) s m args below meth c H locs n (14 * n) (MQ below (yy_Qv D κ ext A res) args s N (14 * N) A) (F0 m 411 ls []) := by
  unfold mm_X10_goesInto_411 at h
  refine lv_aload_n C.1.1 C.1.2.1 dX10_goesInto_411 rfl (lv_at hl 0 rfl) ?_
  refine lv_iload C.1.1 C.1.2.1 dX10_goesInto_412 (lv_at hl 3 rfl) ?_
  refine lv_iload C.1.1 C.1.2.1 dX10_goesInto_414 (lv_at hl 1 rfl) ?_
  refine lv_iload C.1.1 C.1.2.1 dX10_goesInto_416 (lv_at hl 4 rfl) ?_
  refine lv_iload C.1.1 C.1.2.1 dX10_goesInto_418 (lv_at hl 2 rfl) ?_
  refine lv_iconst (v := 0) C.1.1 C.1.2.1 dX10_goesInto_420 (by decide) ?_
  have hc := (yy_ck_of h).1
  have h := (yy_ck_of h).2
  refine yy_cVv (As := [.int x16, .int x7, .int x17, .int x9, .int 0]) (rest := []) (id := 112) (ci := 10) (q := (RX10, TX10, 20)) C Z (ih ((q11, .inl (κ 0, 14, .inl gd11)) :: (q10, .inl (κ 0, 14, .inl gd10)) :: ext) x16 x7 x17 x9 0) (by decide) (yy_ent_112 _) rfl tw_898 kw_X10_goesInto ⟨⟨rfl, rfl⟩, ⟨(show 5 + d + 1 ≤ 5 + (d + 1) by omega), (show 8 + (19 + 11) + (119 + 38 * d) ≤ 119 + 38 * (d + 1) by omega)⟩, (show n + yy_gN x16 x7 x17 x9 ≤ N by omega), (show 14 * n + 14 * yy_gN x16 x7 x17 x9 ≤ 14 * N by omega)⟩ hl.1 rfl (Nat.le_of_ble_eq_true rfl) dX10_goesInto_421 h (fun τ H locs Z h => ?_)
  refine W.widen (k := n + yy_gN x16 x7 x17 x9) (n := 14 * (n + yy_gN x16 x7 x17 x9)) (Nat.le_refl _) (by omega) ?_
  refine W.widen (k := N) (n := (14 * N)) (by omega) (by omega) ?_
  have Z := Z.tail
  have Z := Z.tail
  exact yy_vret C Z hr hlk dX10_goesInto_424 h
set_option maxHeartbeats 4000000 in
set_option maxRecDepth 100000 in
theorem ww_X10_goesInto_317 {rec : Int32 → Int32 → Int32 → Int32 → Int32 → yy_M Unit} {N d : Nat} (hN : 2 ≤ N) (ih : yy_ih l D κ rec d) {x7 : Int32} {x9 : Int32} {x14 : Int32} {x15 : Int32} {x16 : Int32} {x17 : Int32} {x18 : Int32} {g10 : (Nat → Int32)} {g11 : (Nat → Int32)} {n : Nat} {q10 : Nat} {q11 : Nat} {res : Unit × yy_T} (C : yy_C D κ p m c cX10_goesInto 19 s args RX10) (hr : meth.sig.returnType = none) (hlk : meth.locks = false) (Z : yy_Z D κ ((q11, .inl (κ 0, 14, .inl g11)) :: (q10, .inl (κ 0, 14, .inl g10)) :: ext) A s.heap τ H locs) (hl : lv_has ls 19 [(0, .ref (κ 4 + 112)), (7, .int x7), (9, .int x9), (10, .ref q10), (11, .ref q11), (14, .int x14), (15, .int x15), (16, .int x16), (17, .int x17), (18, .int x18)]) (h : mm_X10_goesInto_317 rec N x7 x9 x14 x15 x16 x17 x18 g10 g11 n τ = some res) : W p l e (yy_rmG N (d + 1)) s m args below meth c H locs n (14 * n) (MQ below (yy_Qv D κ ext A res) args s N (14 * N) A) (F0 m 317 ls []) := by
  unfold mm_X10_goesInto_317 at h
  refine yy_loop h (fun (w : Int32 × Int32 × Int32 × Int32 × Int32 × Nat) (τ : yy_T) => ∀ (H : Heap) (locs : List Loc) (ls : Array Slot), yy_Z D κ ((q11, .inl (κ 0, 14, .inl g11)) :: (q10, .inl (κ 0, 14, .inl g10)) :: ext) A s.heap τ H locs → lv_has ls 19 [(0, .ref (κ 4 + 112)), (7, .int x7), (9, .int x9), (10, .ref q10), (11, .ref q11), (14, .int w.1), (15, .int w.2.1), (16, .int w.2.2.1), (17, .int w.2.2.2.1), (18, .int w.2.2.2.2.1)] → W p l e (yy_rmG N (d + 1)) s m args below meth c H locs w.2.2.2.2.2 (14 * w.2.2.2.2.2) (MQ below (yy_Qv D κ ext A res) args s N (14 * N) A) (F0 m 317 ls [])) ?_ H locs ls Z hl
  intro w τ y hy hI hX H locs ls Z hl
  refine ww_X10_goesInto_317b hN ih C Z hl hy (fun w τ H locs ls ey Z hl => hI w τ ey H locs ls Z hl) (fun w τ H locs ls ey Z hl => ?_)
  · have h := hX _ _ ey
    exact ww_X10_goesInto_411 hN ih C hr hlk Z (lv_sub hl [0, 1, 2, 3, 4] rfl) h
set_option maxHeartbeats 4000000 in
set_option maxRecDepth 100000 in
theorem ww_X10_goesInto_292 {rec : Int32 → Int32 → Int32 → Int32 → Int32 → yy_M Unit} {N d : Nat} (hN : 2 ≤ N) (ih : yy_ih l D κ rec d) {x6 : Int32} {x7 : Int32} {x8 : Int32} {x9 : Int32} {x12 : Int32} {g10 : (Nat → Int32)} {g11 : (Nat → Int32)} {q10 : Nat} {q11 : Nat} {res : Unit × yy_T} (C : yy_C D κ p m c cX10_goesInto 19 s args RX10) (hr : meth.sig.returnType = none) (hlk : meth.locks = false) (Z : yy_Z D κ ((q11, .inl (κ 0, 14, .inl g11)) :: (q10, .inl (κ 0, 14, .inl g10)) :: ext) A s.heap τ H locs) (hl : lv_has ls 19 [(0, .ref (κ 4 + 112)), (6, .int x6), (7, .int x7), (8, .int x8), (9, .int x9), (10, .ref q10), (11, .ref q11), (12, .int x12)]) (h : mm_X10_goesInto_292 rec N x6 x7 x8 x9 x12 g10 g11 τ = some res) : W p l e (yy_rmG N (d + 1)) s m args below meth c H locs 2 28 (MQ below (yy_Qv D κ ext A res) args s N (14 * N) A) (F0 m 292 ls []) := by
  unfold mm_X10_goesInto_292 at h
  refine lv_iload C.1.1 C.1.2.1 dX10_goesInto_292 (lv_at hl 7 rfl) ?_
  refine yy_if_ne (tgt := 298) C dX10_goesInto_294 (by decide) h (fun h => ?_) (fun h => ?_)
  · refine lv_iload C.1.1 C.1.2.1 dX10_goesInto_298 (lv_at hl 7 rfl) ?_
    refine lv_istore (lv' := [(14, .int x12), (0, .ref (κ 4 + 112)), (6, .int x6), (7, .int x7), (8, .int x8), (9, .int x9), (10, .ref q10), (11, .ref q11), (12, .int x12)]) C.1.1 C.1.2.1 dX10_goesInto_300 hl (by decide) rfl (fun ls hl => ?_)
    refine lv_iconst (v := (-1)) C.1.1 C.1.2.1 dX10_goesInto_302 (by decide) ?_
    refine lv_istore (lv' := [(15, .int (-1)), (14, .int x12), (0, .ref (κ 4 + 112)), (6, .int x6), (7, .int x7), (8, .int x8), (9, .int x9), (10, .ref q10), (11, .ref q11), (12, .int x12)]) C.1.1 C.1.2.1 dX10_goesInto_303 hl (by decide) rfl (fun ls hl => ?_)
    refine lv_iload C.1.1 C.1.2.1 dX10_goesInto_305 (lv_at hl 3 rfl) ?_
    refine lv_istore (lv' := [(16, .int x6), (15, .int (-1)), (14, .int x12), (0, .ref (κ 4 + 112)), (6, .int x6), (7, .int x7), (8, .int x8), (9, .int x9), (10, .ref q10), (11, .ref q11), (12, .int x12)]) C.1.1 C.1.2.1 dX10_goesInto_307 hl (by decide) rfl (fun ls hl => ?_)
    refine lv_iload C.1.1 C.1.2.1 dX10_goesInto_309 (lv_at hl 6 rfl) ?_
    refine lv_istore (lv' := [(17, .int x8), (16, .int x6), (15, .int (-1)), (14, .int x12), (0, .ref (κ 4 + 112)), (6, .int x6), (7, .int x7), (8, .int x8), (9, .int x9), (10, .ref q10), (11, .ref q11), (12, .int x12)]) C.1.1 C.1.2.1 dX10_goesInto_311 hl (by decide) rfl (fun ls hl => ?_)
    refine lv_iload C.1.1 C.1.2.1 dX10_goesInto_313 (lv_at hl 5 rfl) ?_
    refine lv_istore (lv' := [(18, .int x6), (17, .int x8), (16, .int x6), (15, .int (-1)), (14, .int x12), (0, .ref (κ 4 + 112)), (6, .int x6), (7, .int x7), (8, .int x8), (9, .int x9), (10, .ref q10), (11, .ref q11), (12, .int x12)]) C.1.1 C.1.2.1 dX10_goesInto_315 hl (by decide) rfl (fun ls hl => ?_)
    exact ww_X10_goesInto_317 hN ih C hr hlk Z (lv_sub hl [5, 7, 9, 10, 11, 4, 3, 2, 1, 0] rfl) h
  · refine W.widen (k := N) (n := (14 * N)) (by omega) (by omega) ?_
    have Z := Z.tail
    have Z := Z.tail
    exact yy_vret C Z hr hlk dX10_goesInto_297 h
set_option maxHeartbeats 4000000 in
set_option maxRecDepth 100000 in
theorem ww_X10_goesInto_275 {rec : Int32 → Int32 → Int32 → Int32 → Int32 → yy_M Unit} {N d : Nat} (hN : 2 ≤ N) (ih : yy_ih l D κ rec d) {x5 : Int32} {x6 : Int32} {x7 : Int32} {x8 : Int32} {x9 : Int32} {x12 : Int32} {x13 : Int32} {g10 : (Nat → Int32)} {g11 : (Nat → Int32)} {q10 : Nat} {q11 : Nat} {res : Unit × yy_T} (C : yy_C D κ p m c cX10_goesInto 19 s args RX10) (hr : meth.sig.returnType = none) (hlk : meth.locks = false) (Z : yy_Z D κ ((q11, .inl (κ 0, 14, .inl g11)) :: (q10, .inl (κ 0, 14, .inl g10)) :: ext) A s.heap τ H locs) (hl : lv_has ls 19 [(0, .ref (κ 4 + 112)), (5, .int x5), (6, .int x6), (7, .int x7), (8, .int x8), (9, .int x9), (10, .ref q10), (11, .ref q11), (12, .int x12), (13, .int x13)]) (h : mm_X10_goesInto_275 rec N x5 x6 x7 x8 x9 x12 x13 g10 g11 τ = some res) : W p l e (yy_rmG N (d + 1)) s m args below meth c H locs 2 28 (MQ below (yy_Qv D κ ext A res) args s N (14 * N) A) (F0 m 275 ls []) := by
  unfold mm_X10_goesInto_275 at h
  refine lv_iload C.1.1 C.1.2.1 dX10_goesInto_275 (lv_at hl 1 rfl) ?_
  refine yy_if_eq (tgt := 292) C dX10_goesInto_277 (by decide) h (fun h => ?_) (fun h => ?_)
  · exact ww_X10_goesInto_292 hN ih C hr hlk Z (lv_sub hl [0, 2, 3, 4, 5, 6, 7, 8] rfl) h
  · refine lv_aload_n C.1.1 C.1.2.1 dX10_goesInto_280 rfl (lv_at hl 0 rfl) ?_
    refine lv_iload C.1.1 C.1.2.1 dX10_goesInto_281 (lv_at hl 9 rfl) ?_
    refine yp_X10_17 C Z tw_809 dX10_goesInto_283 h (fun H locs τ Z h => ?_)
    refine lv_aload_n C.1.1 C.1.2.1 dX10_goesInto_286 rfl (lv_at hl 0 rfl) ?_
    refine lv_iload C.1.1 C.1.2.1 dX10_goesInto_287 (lv_at hl 8 rfl) ?_
    refine yp_X10_18 C Z tw_810 dX10_goesInto_289 h (fun H locs τ Z h => ?_)
    exact ww_X10_goesInto_292 hN ih C hr hlk Z (lv_sub hl [0, 2, 3, 4, 5, 6, 7, 8] rfl) h
set_option maxHeartbeats 4000000 in
set_option maxRecDepth 100000 in
theorem ww_X10_goesInto_127 {rec : Int32 → Int32 → Int32 → Int32 → Int32 → yy_M Unit} {N d : Nat} (hN : 2 ≤ N) (ih : yy_ih l D κ rec d) {x5 : Int32} {x6 : Int32} {x7 : Int32} {x8 : Int32} {x9 : Int32} {x12 : Int32} {x13 : Int32} {x14 : Int32} {g10 : (Nat → Int32)} {g11 : (Nat → Int32)} {q10 : Nat} {q11 : Nat} {res : Unit × yy_T} (C : yy_C D κ p m c cX10_goesInto 19 s args RX10) (hr : meth.sig.returnType = none) (hlk : meth.locks = false) (Z : yy_Z D κ ((q11, .inl (κ 0, 14, .inl g11)) :: (q10, .inl (κ 0, 14, .inl g10)) :: ext) A s.heap τ H locs) (hl : lv_has ls 19 [(0, .ref (κ 4 + 112)), (5, .int x5), (6, .int x6), (7, .int x7), (8, .int x8), (9, .int x9), (10, .ref q10), (11, .ref q11), (12, .int x12), (13, .int x13), (14, .int x14)]) (h : mm_X10_goesInto_127 rec N x5 x6 x7 x8 x9 x12 x13 x14 g10 g11 τ = some res) : W p l e (yy_rmG N (d + 1)) s m args below meth c H locs 2 28 (MQ below (yy_Qv D κ ext A res) args s N (14 * N) A) (F0 m 127 ls []) := by
  unfold mm_X10_goesInto_127 at h
  refine yy_loop h (fun (w : Int32 × Int32 × Int32 × (Nat → Int32) × (Nat → Int32)) (τ : yy_T) => ∀ (H : Heap) (locs : List Loc) (ls : Array Slot), yy_Z D κ ((q11, .inl (κ 0, 14, .inl w.2.2.2.2)) :: (q10, .inl (κ 0, 14, .inl w.2.2.2.1)) :: ext) A s.heap τ H locs → lv_has ls 19 [(0, .ref (κ 4 + 112)), (5, .int x5), (6, .int x6), (7, .int x7), (8, .int x8), (9, .int x9), (10, .ref q10), (11, .ref q11), (12, .int w.1), (13, .int w.2.1), (14, .int w.2.2.1)] → W p l e (yy_rmG N (d + 1)) s m args below meth c H locs 2 28 (MQ below (yy_Qv D κ ext A res) args s N (14 * N) A) (F0 m 127 ls [])) ?_ H locs ls Z hl
  intro w τ y hy hI hX H locs ls Z hl
  refine ww_X10_goesInto_127b hN ih C Z hl hy (fun w τ H locs ls ey Z hl => hI w τ ey H locs ls Z hl) (fun w τ H locs ls ey Z hl => ?_)
  · have h := hX _ _ ey
    exact ww_X10_goesInto_275 hN ih C hr hlk Z (lv_sub hl [0, 1, 2, 3, 4, 5, 6, 7, 8, 9] rfl) h
set_option maxHeartbeats 4000000 in
set_option maxRecDepth 100000 in
theorem ww_X10_goesInto_103 {rec : Int32 → Int32 → Int32 → Int32 → Int32 → yy_M Unit} {N d : Nat} (hN : 2 ≤ N) (ih : yy_ih l D κ rec d) {x5 : Int32} {x6 : Int32} {x7 : Int32} {x8 : Int32} {x9 : Int32} {res : Unit × yy_T} (C : yy_C D κ p m c cX10_goesInto 19 s args RX10) (hr : meth.sig.returnType = none) (hlk : meth.locks = false) (Z : yy_Z D κ ext A s.heap τ H locs) (hl : lv_has ls 19 [(0, .ref (κ 4 + 112)), (5, .int x5), (6, .int x6), (7, .int x7), (8, .int x8), (9, .int x9)]) (h : mm_X10_goesInto_103 rec N x5 x6 x7 x8 x9 τ = some res) : W p l e (yy_rmG N (d + 1)) s m args below meth c H locs 0 0 (MQ below (yy_Qv D κ ext A res) args s N (14 * N) A) (F0 m 103 ls []) := by
  unfold mm_X10_goesInto_103 at h
  refine lv_bipush (v := 14) C.1.1 C.1.2.1 dX10_goesInto_103 (by decide) ?_
  refine yy_newI (N' := 14) C Z tw_123 (by decide) (by decide) (by decide) (show 0 + 1 ≤ N by omega) (show 0 + 14 ≤ 14 * N by omega) dX10_goesInto_105 (fun q10 H Z => ?_)
  refine W.widen (k := 1) (n := 14) (Nat.le_refl _) (Nat.le_refl _) ?_
  refine lv_astore (lv' := [(10, .ref q10), (0, .ref (κ 4 + 112)), (5, .int x5), (6, .int x6), (7, .int x7), (8, .int x8), (9, .int x9)]) C.1.1 C.1.2.1 dX10_goesInto_107 hl (by decide) rfl (fun ls hl => ?_)
  refine lv_bipush (v := 14) C.1.1 C.1.2.1 dX10_goesInto_109 (by decide) ?_
  refine yy_newI (N' := 14) C Z tw_123 (by decide) (by decide) (by decide) (show 1 + 1 ≤ N by omega) (show 14 + 14 ≤ 14 * N by omega) dX10_goesInto_111 (fun q11 H Z => ?_)
  refine W.widen (k := 2) (n := 28) (Nat.le_refl _) (Nat.le_refl _) ?_
  refine lv_astore (lv' := [(11, .ref q11), (10, .ref q10), (0, .ref (κ 4 + 112)), (5, .int x5), (6, .int x6), (7, .int x7), (8, .int x8), (9, .int x9)]) C.1.1 C.1.2.1 dX10_goesInto_113 hl (by decide) rfl (fun ls hl => ?_)
  refine lv_iconst (v := 0) C.1.1 C.1.2.1 dX10_goesInto_115 (by decide) ?_
  refine lv_istore (lv' := [(12, .int 0), (11, .ref q11), (10, .ref q10), (0, .ref (κ 4 + 112)), (5, .int x5), (6, .int x6), (7, .int x7), (8, .int x8), (9, .int x9)]) C.1.1 C.1.2.1 dX10_goesInto_116 hl (by decide) rfl (fun ls hl => ?_)
  refine lv_iconst (v := 0) C.1.1 C.1.2.1 dX10_goesInto_118 (by decide) ?_
  refine lv_istore (lv' := [(13, .int 0), (12, .int 0), (11, .ref q11), (10, .ref q10), (0, .ref (κ 4 + 112)), (5, .int x5), (6, .int x6), (7, .int x7), (8, .int x8), (9, .int x9)]) C.1.1 C.1.2.1 dX10_goesInto_119 hl (by decide) rfl (fun ls hl => ?_)
  refine lv_iload C.1.1 C.1.2.1 dX10_goesInto_121 (lv_at hl 7 rfl) ?_
  refine lv_iconst (v := 1) C.1.1 C.1.2.1 dX10_goesInto_123 (by decide) ?_
  refine lv_isub C.1.1 C.1.2.1 dX10_goesInto_124 ?_
  refine lv_istore (lv' := [(14, .int (x7 - 1)), (13, .int 0), (12, .int 0), (11, .ref q11), (10, .ref q10), (0, .ref (κ 4 + 112)), (5, .int x5), (6, .int x6), (7, .int x7), (8, .int x8), (9, .int x9)]) C.1.1 C.1.2.1 dX10_goesInto_125 hl (by decide) rfl (fun ls hl => ?_)
  exact ww_X10_goesInto_127 hN ih C hr hlk Z (lv_sub hl [5, 6, 7, 8, 9, 10, 4, 3, 2, 1, 0] rfl) h
set_option maxHeartbeats 4000000 in
set_option maxRecDepth 100000 in
theorem ww_X10_goesInto_56 {rec : Int32 → Int32 → Int32 → Int32 → Int32 → yy_M Unit} {N d : Nat} (hN : 2 ≤ N) (ih : yy_ih l D κ rec d) {x5 : Int32} {x6 : Int32} {x7 : Int32} {x8 : Int32} {x9 : Int32} {res : Unit × yy_T} (C : yy_C D κ p m c cX10_goesInto 19 s args RX10) (hr : meth.sig.returnType = none) (hlk : meth.locks = false) (Z : yy_Z D κ ext A s.heap τ H locs) (hl : lv_has ls 19 [(0, .ref (κ 4 + 112)), (5, .int x5), (6, .int x6), (7, .int x7), (8, .int x8), (9, .int x9)]) (h : mm_X10_goesInto_56 rec N x5 x6 x7 x8 x9 τ = some res) : W p l e (yy_rmG N (d + 1)) s m args below meth c H locs 0 0 (MQ below (yy_Qv D κ ext A res) args s N (14 * N) A) (F0 m 56 ls []) := by
  unfold mm_X10_goesInto_56 at h
  refine yy_loop h (fun (w : Int32 × Int32) (τ : yy_T) => ∀ (H : Heap) (locs : List Loc) (ls : Array Slot), yy_Z D κ ext A s.heap τ H locs → lv_has ls 19 [(0, .ref (κ 4 + 112)), (5, .int x5), (6, .int x6), (7, .int w.1), (8, .int x8), (9, .int w.2)] → W p l e (yy_rmG N (d + 1)) s m args below meth c H locs 0 0 (MQ below (yy_Qv D κ ext A res) args s N (14 * N) A) (F0 m 56 ls [])) ?_ H locs ls Z hl
  intro w τ y hy hI hX H locs ls Z hl
  refine ww_X10_goesInto_56b hN ih C Z hl hy (fun w τ H locs ls ey Z hl => hI w τ ey H locs ls Z hl) (fun w τ H locs ls ey Z hl => ?_)
  · have h := hX _ _ ey
    exact ww_X10_goesInto_103 hN ih C hr hlk Z (lv_sub hl [0, 1, 2, 3, 4, 5] rfl) h
set_option maxHeartbeats 4000000 in
set_option maxRecDepth 100000 in
theorem ww_X10_goesInto_13 {rec : Int32 → Int32 → Int32 → Int32 → Int32 → yy_M Unit} {N d : Nat} (hN : 2 ≤ N) (ih : yy_ih l D κ rec d) {x5 : Int32} {x6 : Int32} {x7 : Int32} {x8 : Int32} {x9 : Int32} {res : Unit × yy_T} (C : yy_C D κ p m c cX10_goesInto 19 s args RX10) (hr : meth.sig.returnType = none) (hlk : meth.locks = false) (Z : yy_Z D κ ext A s.heap τ H locs) (hl : lv_has ls 19 [(0, .ref (κ 4 + 112)), (5, .int x5), (6, .int x6), (7, .int x7), (8, .int x8), (9, .int x9)]) (h : mm_X10_goesInto_13 rec N x5 x6 x7 x8 x9 τ = some res) : W p l e (yy_rmG N (d + 1)) s m args below meth c H locs 0 0 (MQ below (yy_Qv D κ ext A res) args s N (14 * N) A) (F0 m 13 ls []) := by
  unfold mm_X10_goesInto_13 at h
  refine yy_loop h (fun (w : Int32 × Int32) (τ : yy_T) => ∀ (H : Heap) (locs : List Loc) (ls : Array Slot), yy_Z D κ ext A s.heap τ H locs → lv_has ls 19 [(0, .ref (κ 4 + 112)), (5, .int x5), (6, .int w.1), (7, .int x7), (8, .int w.2), (9, .int x9)] → W p l e (yy_rmG N (d + 1)) s m args below meth c H locs 0 0 (MQ below (yy_Qv D κ ext A res) args s N (14 * N) A) (F0 m 13 ls [])) ?_ H locs ls Z hl
  intro w τ y hy hI hX H locs ls Z hl
  refine ww_X10_goesInto_13b hN ih C Z hl hy (fun w τ H locs ls ey Z hl => hI w τ ey H locs ls Z hl) (fun w τ H locs ls ey Z hl => ?_)
  · have h := hX _ _ ey
    exact ww_X10_goesInto_56 hN ih C hr hlk Z (lv_sub hl [0, 1, 2, 3, 4, 5] rfl) h
set_option maxHeartbeats 4000000 in
set_option maxRecDepth 100000 in
theorem ww_X10_goesInto_E {rec : Int32 → Int32 → Int32 → Int32 → Int32 → yy_M Unit} {N d : Nat} (hN : 2 ≤ N) (ih : yy_ih l D κ rec d) {x1 : Int32} {x2 : Int32} {x3 : Int32} {x4 : Int32} {x5 : Int32} {res : Unit × yy_T} (C : yy_C D κ p m c cX10_goesInto 19 s args RX10) (hr : meth.sig.returnType = none) (hlk : meth.locks = false) (Z : yy_Z D κ ext A s.heap τ H locs) (hl : lv_has ls 19 [(0, .ref (κ 4 + 112)), (1, .int x1), (2, .int x2), (3, .int x3), (4, .int x4), (5, .int x5)]) (h : mm_X10_goesInto_F rec N x1 x2 x3 x4 x5 τ = some res) : W p l e (yy_rmG N (d + 1)) s m args below meth c H locs 0 0 (MQ below (yy_Qv D κ ext A res) args s N (14 * N) A) (F0 m 0 ls []) := by
  unfold mm_X10_goesInto_F at h
  refine lv_iload_n C.1.1 C.1.2.1 dX10_goesInto_0 rfl (lv_at hl 1 rfl) ?_
  refine lv_istore (lv' := [(6, .int x1), (0, .ref (κ 4 + 112)), (1, .int x1), (2, .int x2), (3, .int x3), (4, .int x4), (5, .int x5)]) C.1.1 C.1.2.1 dX10_goesInto_1 hl (by decide) rfl (fun ls hl => ?_)
  refine lv_iload_n C.1.1 C.1.2.1 dX10_goesInto_3 rfl (lv_at hl 3 rfl) ?_
  refine lv_istore (lv' := [(7, .int x2), (6, .int x1), (0, .ref (κ 4 + 112)), (1, .int x1), (2, .int x2), (3, .int x3), (4, .int x4), (5, .int x5)]) C.1.1 C.1.2.1 dX10_goesInto_4 hl (by decide) rfl (fun ls hl => ?_)
  refine lv_iload_n C.1.1 C.1.2.1 dX10_goesInto_6 rfl (lv_at hl 5 rfl) ?_
  refine lv_istore (lv' := [(8, .int x3), (7, .int x2), (6, .int x1), (0, .ref (κ 4 + 112)), (1, .int x1), (2, .int x2), (3, .int x3), (4, .int x4), (5, .int x5)]) C.1.1 C.1.2.1 dX10_goesInto_7 hl (by decide) rfl (fun ls hl => ?_)
  refine lv_iload C.1.1 C.1.2.1 dX10_goesInto_9 (lv_at hl 7 rfl) ?_
  refine lv_istore (lv' := [(9, .int x4), (8, .int x3), (7, .int x2), (6, .int x1), (0, .ref (κ 4 + 112)), (1, .int x1), (2, .int x2), (3, .int x3), (4, .int x4), (5, .int x5)]) C.1.1 C.1.2.1 dX10_goesInto_11 hl (by decide) rfl (fun ls hl => ?_)
  exact ww_X10_goesInto_13 hN ih C hr hlk Z (lv_sub hl [4, 9, 3, 2, 1, 0] rfl) h
theorem ss_X10_goesInto (l : Launch) (D : va_G) (κ : Nat → Nat) : ∀ d : Nat, yy_ih l D κ (mm_X10_goesInto d) d
  | 0 => fun ext x1 x2 x3 x4 x5 sz τ res h => by cases h
  | d + 1 => by
    intro ext x1 x2 x3 x4 x5 sz τ res h
    have ih := ss_X10_goesInto l D κ d
    refine yy_ofW (by decide) (Nat.le_of_ble_eq_true rfl) ?_
    intro p e s m args below meth c ls hsz E
    obtain ⟨C, hr, hlk, Z, hl⟩ := E
    subst hsz
    exact ww_X10_goesInto_E (yy_gN_2 x1 x2 x3 x4) ih C hr hlk Z hl h
end
