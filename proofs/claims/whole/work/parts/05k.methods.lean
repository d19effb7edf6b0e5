section
variable {p : Program} {l : Launch} {e : Env} {s : State} {m : MethodId} {args : Array Value} {below : List Frame} {meth : Method} {c : Code} {H : Heap} {locs : List Loc} {ls : Array Slot} {D : va_G} {κ : Nat → Nat} {ext : va_W} {A : Nat → Prop} {τ : yy_T}
/-! MovedLinesModel.having(II)I -/
noncomputable def mm_X10_having_34 (x1 : Int32) (x2 : Int32) (x3 : Int32) (x4 : Int32) : yy_M ((Int32 × Int32) ⊕ ((Int32))) :=
  yy_rt (.inl (x3, (x4 + 1)))
noncomputable def mm_X10_having_5b (x1 : Int32) (x2 : Int32) (x3 : Int32) (x4 : Int32) : yy_M ((Int32 × Int32) ⊕ ((Int32))) :=
  yy_cl (mm_X10_many x1) (fun r1 => yy_br (r1 ≤ x4) (yy_rt (.inr x3)) (yy_rA 117 28 ((14 * x1) + x4) fun v2 => yy_br (v2 = x2) (mm_X10_having_34 x1 x2 (x3 + 1) x4) (mm_X10_having_34 x1 x2 x3 x4)))
noncomputable def mm_X10_having_40 (x3 : Int32) : yy_M Int32 :=
  yy_rt x3
noncomputable def mm_X10_having_5 (x1 : Int32) (x2 : Int32) (x3 : Int32) (x4 : Int32) : yy_M Int32 :=
  yy_cl (yy_lp (fun (w : Int32 × Int32) => mm_X10_having_5b x1 x2 w.1 w.2) (x3, x4)) (fun w => mm_X10_having_40 w)
noncomputable def mm_X10_having (x1 : Int32) (x2 : Int32) : yy_M Int32 :=
  mm_X10_having_5 x1 x2 0 0
theorem kw_X10_having : yy_wV RX10 yX10_having cX10_having 5 (some .int) 2 := ⟨⟨tw_951, tw_41, tw_61, tw_952⟩, by decide +kernel⟩
abbrev rm_X10_having : Room := { frames := 1, cells := 0, slots := 0, locals := 21 }
set_option maxHeartbeats 4000000 in
set_option maxRecDepth 100000 in
theorem ww_X10_having_34 {x1 : Int32} {x2 : Int32} {x3 : Int32} {x4 : Int32} {res : ((Int32 × Int32) ⊕ ((Int32))) × yy_T} {Q : State → Prop} (C : yy_C D κ p m c cX10_having 5 s args RX10) (Z : yy_Z D κ ext A s.heap τ H locs) (hl : lv_has ls 5 [(0, .ref (κ 4 + 112)), (1, .int x1), (2, .int x2), (3, .int x3), (4, .int x4)]) (h : mm_X10_having_34 x1 x2 x3 x4 τ = some res)
    (kI : ∀ (w : Int32 × Int32) (τ1 : yy_T) (H1 : Heap) (locs1 : List Loc) (ls1 : Array Slot), res = (.inl w, τ1) → yy_Z D κ ext A s.heap τ1 H1 locs1 → lv_has ls1 5 [(0, .ref (κ 4 + 112)), (1, .int x1), (2, .int x2), (3, .int w.1), (4, .int w.2)] → W p l e rm_X10_having s m args below meth c H1 locs1 0 0 Q (F0 m 5 ls1 [])) : W p l e rm_X10_having s m args below meth c H locs 0 0 Q (F0 m 34 ls []) := by
  unfold mm_X10_having_34 at h
  refine lv_iinc (v := x4 + 1) (lv' := [(4, .int (x4 + 1)), (0, .ref (κ 4 + 112)), (1, .int x1), (2, .int x2), (3, .int x3)]) C.1.1 C.1.2.1 dX10_having_34 hl (k := 4) rfl (by rfl) (by decide) rfl (fun ls hl => ?_)
  refine lv_goto (tgt := 5) C.1.1 C.1.2.1 dX10_having_37 (by decide) ?_
  exact kI _ _ _ _ _ (yy_rt_of h) Z (lv_sub hl [1, 2, 3, 4, 0] rfl)
set_option maxHeartbeats 4000000 in
set_option maxRecDepth 100000 in
theorem ww_X10_having_5b {x1 : Int32} {x2 : Int32} {x3 : Int32} {x4 : Int32} {res : ((Int32 × Int32) ⊕ ((Int32))) × yy_T} {Q : State → Prop} (C : yy_C D κ p m c cX10_having 5 s args RX10) (Z : yy_Z D κ ext A s.heap τ H locs) (hl : lv_has ls 5 [(0, .ref (κ 4 + 112)), (1, .int x1), (2, .int x2), (3, .int x3), (4, .int x4)]) (h : mm_X10_having_5b x1 x2 x3 x4 τ = some res)
    (kI : ∀ (w : Int32 × Int32) (τ1 : yy_T) (H1 : Heap) (locs1 : List Loc) (ls1 : Array Slot), res = (.inl w, τ1) → yy_Z D κ ext A s.heap τ1 H1 locs1 → lv_has ls1 5 [(0, .ref (κ 4 + 112)), (1, .int x1), (2, .int x2), (3, .int w.1), (4, .int w.2)] → W p l e rm_X10_having s m args below meth c H1 locs1 0 0 Q (F0 m 5 ls1 []))
    (kR0 : ∀ (w : Int32) (τ1 : yy_T) (H1 : Heap) (locs1 : List Loc) (ls1 : Array Slot), res = (.inr w, τ1) → yy_Z D κ ext A s.heap τ1 H1 locs1 → lv_has ls1 5 [(3, .int w)] → W p l e rm_X10_having s m args below meth c H1 locs1 0 0 Q (F0 m 40 ls1 [])) : W p l e rm_X10_having s m args below meth c H locs 0 0 Q (F0 m 5 ls []) := by
  unfold mm_X10_having_5b at h
  refine lv_iload C.1.1 C.1.2.1 dX10_having_5 (lv_at hl 4 rfl) ?_
  refine lv_aload_n C.1.1 C.1.2.1 dX10_having_7 rfl (lv_at hl 0 rfl) ?_
  refine lv_iload_n C.1.1 C.1.2.1 dX10_having_8 rfl (lv_at hl 1 rfl) ?_
  refine yy_cVi0 (As := [.int x1]) (rest := [.int x4]) (id := 112) (ci := 10) (q := (RX10, TX10, 20)) C Z (ss_X10_many l D κ ext x1) (by decide) (yy_ent_112 _) rfl tw_882 kw_X10_many ⟨⟨rfl, rfl⟩, ⟨Nat.le_of_ble_eq_true rfl, Nat.le_of_ble_eq_true rfl⟩, Nat.le_of_ble_eq_true rfl, Nat.le_of_ble_eq_true rfl⟩ hl.1 rfl (Nat.le_of_ble_eq_true rfl) dX10_having_9 h (fun r1 τ H locs Z h => ?_)
  refine yy_icmp_ge (tgt := 40) C dX10_having_12 (by decide) h (fun h => ?_) (fun h => ?_)
  · exact kR0 _ _ _ _ _ (yy_rt_of h) Z (lv_sub hl [3] rfl)
  · refine lv_aload_n C.1.1 C.1.2.1 dX10_having_15 rfl (lv_at hl 0 rfl) ?_
    refine yg_X10_10 C Z tw_802 dX10_having_16 ?_
    refine lv_bipush (v := 14) C.1.1 C.1.2.1 dX10_having_19 (by decide) ?_
    refine lv_iload_n C.1.1 C.1.2.1 dX10_having_21 rfl (lv_at hl 1 rfl) ?_
    refine lv_imul C.1.1 C.1.2.1 dX10_having_22 ?_
    refine lv_iload C.1.1 C.1.2.1 dX10_having_23 (lv_at hl 4 rfl) ?_
    refine lv_iadd C.1.1 C.1.2.1 dX10_having_25 ?_
    refine yy_iald C Z (by decide) rfl dX10_having_26 h (fun v2 h => ?_)
    refine lv_iload_n C.1.1 C.1.2.1 dX10_having_27 rfl (lv_at hl 2 rfl) ?_
    refine yy_icmp_ne (tgt := 34) C dX10_having_28 (by decide) h (fun h => ?_) (fun h => ?_)
    · exact ww_X10_having_34  C Z (lv_sub hl [0, 1, 2, 3, 4] rfl) h kI
    · refine lv_iinc (v := x3 + 1) (lv' := [(3, .int (x3 + 1)), (0, .ref (κ 4 + 112)), (1, .int x1), (2, .int x2), (4, .int x4)]) C.1.1 C.1.2.1 dX10_having_31 hl (k := 3) rfl (by rfl) (by decide) rfl (fun ls hl => ?_)
      exact ww_X10_having_34  C Z (lv_sub hl [1, 2, 3, 0, 4] rfl) h kI
set_option maxHeartbeats 4000000 in
set_option maxRecDepth 100000 in
theorem ww_X10_having_40 {x3 : Int32} {res : Int32 × yy_T} (C : yy_C D κ p m c cX10_having 5 s args RX10) (hr : meth.sig.returnType = (some .int)) (hlk : meth.locks = false) (Z : yy_Z D κ ext A s.heap τ H locs) (hl : lv_has ls 5 [(3, .int x3)]) (h : mm_X10_having_40 x3 τ = some res) : W p l e rm_X10_having s m args below meth c H locs 0 0 (MQ below (yy_Qi D κ ext A res) args s 0 0 A) (F0 m 40 ls []) := by
  unfold mm_X10_having_40 at h
  refine lv_iload_n C.1.1 C.1.2.1 dX10_having_40 rfl (lv_at hl 0 rfl) ?_
  exact yy_iret C Z hr hlk rfl dX10_having_41 h
set_option maxHeartbeats 4000000 in
set_option maxRecDepth 100000 in
theorem ww_X10_having_5 {x1 : Int32} {x2 : Int32} {x3 : Int32} {x4 : Int32} {res : Int32 × yy_T} (C : yy_C D κ p m c cX10_having 5 s args RX10) (hr : meth.sig.returnType = (some .int)) (hlk : meth.locks = false) (Z : yy_Z D κ ext A s.heap τ H locs) (hl : lv_has ls 5 [(0, .ref (κ 4 + 112)), (1, .int x1), (2, .int x2), (3, .int x3), (4, .int x4)]) (h : mm_X10_having_5 x1 x2 x3 x4 τ = some res) : W p l e rm_X10_having s m args below meth c H locs 0 0 (MQ below (yy_Qi D κ ext A res) args s 0 0 A) (F0 m 5 ls []) := by
  unfold mm_X10_having_5 at h
  refine yy_loop h (fun (w : Int32 × Int32) (τ : yy_T) => ∀ (H : Heap) (locs : List Loc) (ls : Array Slot), yy_Z D κ ext A s.heap τ H locs → lv_has ls 5 [(0, .ref (κ 4 + 112)), (1, .int x1), (2, .int x2), (3, .int w.1), (4, .int w.2)] → W p l e rm_X10_having s m args below meth c H locs 0 0 (MQ below (yy_Qi D κ ext A res) args s 0 0 A) (F0 m 5 ls [])) ?_ H locs ls Z hl
  intro w τ y hy hI hX H locs ls Z hl
  refine ww_X10_having_5b  C Z hl hy (fun w τ H locs ls ey Z hl => hI w τ ey H locs ls Z hl) (fun w τ H locs ls ey Z hl => ?_)
  · have h := hX _ _ ey
    exact ww_X10_having_40  C hr hlk Z (lv_sub hl [0] rfl) h
set_option maxHeartbeats 4000000 in
set_option maxRecDepth 100000 in
theorem ww_X10_having_E {x1 : Int32} {x2 : Int32} {res : Int32 × yy_T} (C : yy_C D κ p m c cX10_having 5 s args RX10) (hr : meth.sig.returnType = (some .int)) (hlk : meth.locks = false) (Z : yy_Z D κ ext A s.heap τ H locs) (hl : lv_has ls 5 [(0, .ref (κ 4 + 112)), (1, .int x1), (2, .int x2)]) (h : mm_X10_having x1 x2 τ = some res) : W p l e rm_X10_having s m args below meth c H locs 0 0 (MQ below (yy_Qi D κ ext A res) args s 0 0 A) (F0 m 0 ls []) := by
  unfold mm_X10_having at h
  refine lv_iconst (v := 0) C.1.1 C.1.2.1 dX10_having_0 (by decide) ?_
  refine lv_istore_n (lv' := [(3, .int 0), (0, .ref (κ 4 + 112)), (1, .int x1), (2, .int x2)]) C.1.1 C.1.2.1 dX10_having_1 rfl hl (by decide) rfl (fun ls hl => ?_)
  refine lv_iconst (v := 0) C.1.1 C.1.2.1 dX10_having_2 (by decide) ?_
  refine lv_istore (lv' := [(4, .int 0), (3, .int 0), (0, .ref (κ 4 + 112)), (1, .int x1), (2, .int x2)]) C.1.1 C.1.2.1 dX10_having_3 hl (by decide) rfl (fun ls hl => ?_)
  exact ww_X10_having_5  C hr hlk Z (lv_sub hl [2, 3, 4, 1, 0] rfl) h
set_option maxHeartbeats 4000000 in
set_option maxRecDepth 100000 in
theorem ss_X10_having (l : Launch) (D : va_G) (κ : Nat → Nat) (ext : va_W) (x1 : Int32) (x2 : Int32) : yy_Mi l D κ ext yX10_having cX10_having 5 (some .int) rm_X10_having 0 0 [.ref (κ 4 + 112), .int x1, .int x2] (mm_X10_having x1 x2) := by
  intro sz τ res h
  refine yy_ofW (by decide) (Nat.le_of_ble_eq_true rfl) ?_
  intro p e s m args below meth c ls hsz E
  obtain ⟨C, hr, hlk, Z, hl⟩ := E
  subst hsz
  exact ww_X10_having_E  C hr hlk Z hl h
/-! MovedLinesModel.lettersOf(I)I -/
noncomputable def mm_X10_lettersOf_4b (x1 : Int32) (x2 : Int32) : yy_M ((Int32 × Int32) ⊕ ((Int32))) :=
  yy_br (x2 ≤ 0) (yy_rt (.inr x1)) (yy_rt (.inl ((x1 + 1), (x2 / 27))))
noncomputable def mm_X10_lettersOf_19 (x1 : Int32) : yy_M Int32 :=
  yy_rt x1
noncomputable def mm_X10_lettersOf_4 (x1 : Int32) (x2 : Int32) : yy_M Int32 :=
  yy_cl (yy_lp (fun (w : Int32 × Int32) => mm_X10_lettersOf_4b w.1 w.2) (x1, x2)) (fun w => mm_X10_lettersOf_19 w)
noncomputable def mm_X10_lettersOf (x0 : Int32) : yy_M Int32 :=
  mm_X10_lettersOf_4 0 x0
theorem kw_X10_lettersOf : yy_wS RX10 yX10_lettersOf cX10_lettersOf 3 (some .int) 1 := ⟨⟨tw_970, tw_61, tw_971⟩, by decide +kernel⟩
abbrev rm_X10_lettersOf : Room := { frames := 0, cells := 0, slots := 0, locals := 0 }
set_option maxHeartbeats 4000000 in
set_option maxRecDepth 100000 in
theorem ww_X10_lettersOf_4b {x1 : Int32} {x2 : Int32} {res : ((Int32 × Int32) ⊕ ((Int32))) × yy_T} {Q : State → Prop} (C : yy_C D κ p m c cX10_lettersOf 3 s args RX10) (Z : yy_Z D κ ext A s.heap τ H locs) (hl : lv_has ls 3 [(1, .int x1), (2, .int x2)]) (h : mm_X10_lettersOf_4b x1 x2 τ = some res)
    (kI : ∀ (w : Int32 × Int32) (τ1 : yy_T) (H1 : Heap) (locs1 : List Loc) (ls1 : Array Slot), res = (.inl w, τ1) → yy_Z D κ ext A s.heap τ1 H1 locs1 → lv_has ls1 3 [(1, .int w.1), (2, .int w.2)] → W p l e rm_X10_lettersOf s m args below meth c H1 locs1 0 0 Q (F0 m 4 ls1 []))
    (kR0 : ∀ (w : Int32) (τ1 : yy_T) (H1 : Heap) (locs1 : List Loc) (ls1 : Array Slot), res = (.inr w, τ1) → yy_Z D κ ext A s.heap τ1 H1 locs1 → lv_has ls1 3 [(1, .int w)] → W p l e rm_X10_lettersOf s m args below meth c H1 locs1 0 0 Q (F0 m 19 ls1 [])) : W p l e rm_X10_lettersOf s m args below meth c H locs 0 0 Q (F0 m 4 ls []) := by
  unfold mm_X10_lettersOf_4b at h
  refine lv_iload_n C.1.1 C.1.2.1 dX10_lettersOf_4 rfl (lv_at hl 1 rfl) ?_
  refine yy_if_le (tgt := 19) C dX10_lettersOf_5 (by decide) h (fun h => ?_) (fun h => ?_)
  · exact kR0 _ _ _ _ _ (yy_rt_of h) Z (lv_sub hl [0] rfl)
  · refine lv_iinc (v := x1 + 1) (lv' := [(1, .int (x1 + 1)), (2, .int x2)]) C.1.1 C.1.2.1 dX10_lettersOf_8 hl (k := 0) rfl (by rfl) (by decide) rfl (fun ls hl => ?_)
    refine lv_iload_n C.1.1 C.1.2.1 dX10_lettersOf_11 rfl (lv_at hl 1 rfl) ?_
    refine lv_bipush (v := 27) C.1.1 C.1.2.1 dX10_lettersOf_12 (by decide) ?_
    refine lv_idiv C.1.1 C.1.2.1 dX10_lettersOf_14 (by decide) ?_
    refine lv_istore_n (lv' := [(2, .int (x2 / 27)), (1, .int (x1 + 1))]) C.1.1 C.1.2.1 dX10_lettersOf_15 rfl hl (by decide) rfl (fun ls hl => ?_)
    refine lv_goto (tgt := 4) C.1.1 C.1.2.1 dX10_lettersOf_16 (by decide) ?_
    exact kI _ _ _ _ _ (yy_rt_of h) Z (lv_sub hl [1, 0] rfl)
set_option maxHeartbeats 4000000 in
set_option maxRecDepth 100000 in
theorem ww_X10_lettersOf_19 {x1 : Int32} {res : Int32 × yy_T} (C : yy_C D κ p m c cX10_lettersOf 3 s args RX10) (hr : meth.sig.returnType = (some .int)) (hlk : meth.locks = false) (Z : yy_Z D κ ext A s.heap τ H locs) (hl : lv_has ls 3 [(1, .int x1)]) (h : mm_X10_lettersOf_19 x1 τ = some res) : W p l e rm_X10_lettersOf s m args below meth c H locs 0 0 (MQ below (yy_Qi D κ ext A res) args s 0 0 A) (F0 m 19 ls []) := by
  unfold mm_X10_lettersOf_19 at h
  refine lv_iload_n C.1.1 C.1.2.1 dX10_lettersOf_19 rfl (lv_at hl 0 rfl) ?_
  exact yy_iret C Z hr hlk rfl dX10_lettersOf_20 h
set_option maxHeartbeats 4000000 in
set_option maxRecDepth 100000 in
theorem ww_X10_lettersOf_4 {x1 : Int32} {x2 : Int32} {res : Int32 × yy_T} (C : yy_C D κ p m c cX10_lettersOf 3 s args RX10) (hr : meth.sig.returnType = (some .int)) (hlk : meth.locks = false) (Z : yy_Z D κ ext A s.heap τ H locs) (hl : lv_has ls 3 [(1, .int x1), (2, .int x2)]) (h : mm_X10_lettersOf_4 x1 x2 τ = some res) : W p l e rm_X10_lettersOf s m args below meth c H locs 0 0 (MQ below (yy_Qi D κ ext A res) args s 0 0 A) (F0 m 4 ls []) := by
  unfold mm_X10_lettersOf_4 at h
  refine yy_loop h (fun (w : Int32 × Int32) (τ : yy_T) => ∀ (H : Heap) (locs : List Loc) (ls : Array Slot), yy_Z D κ ext A s.heap τ H locs → lv_has ls 3 [(1, .int w.1), (2, .int w.2)] → W p l e rm_X10_lettersOf s m args below meth c H locs 0 0 (MQ below (yy_Qi D κ ext A res) args s 0 0 A) (F0 m 4 ls [])) ?_ H locs ls Z hl
  intro w τ y hy hI hX H locs ls Z hl
  refine ww_X10_lettersOf_4b  C Z hl hy (fun w τ H locs ls ey Z hl => hI w τ ey H locs ls Z hl) (fun w τ H locs ls ey Z hl => ?_)
  · have h := hX _ _ ey
    exact ww_X10_lettersOf_19  C hr hlk Z (lv_sub hl [0] rfl) h
set_option maxHeartbeats 4000000 in
set_option maxRecDepth 100000 in
theorem ww_X10_lettersOf_E {x0 : Int32} {res : Int32 × yy_T} (C : yy_C D κ p m c cX10_lettersOf 3 s args RX10) (hr : meth.sig.returnType = (some .int)) (hlk : meth.locks = false) (Z : yy_Z D κ ext A s.heap τ H locs) (hl : lv_has ls 3 [(0, .int x0)]) (h : mm_X10_lettersOf x0 τ = some res) : W p l e rm_X10_lettersOf s m args below meth c H locs 0 0 (MQ below (yy_Qi D κ ext A res) args s 0 0 A) (F0 m 0 ls []) := by
  unfold mm_X10_lettersOf at h
  refine lv_iconst (v := 0) C.1.1 C.1.2.1 dX10_lettersOf_0 (by decide) ?_
  refine lv_istore_n (lv' := [(1, .int 0), (0, .int x0)]) C.1.1 C.1.2.1 dX10_lettersOf_1 rfl hl (by decide) rfl (fun ls hl => ?_)
  refine lv_iload_n C.1.1 C.1.2.1 dX10_lettersOf_2 rfl (lv_at hl 1 rfl) ?_
  refine lv_istore_n (lv' := [(2, .int x0), (1, .int 0), (0, .int x0)]) C.1.1 C.1.2.1 dX10_lettersOf_3 rfl hl (by decide) rfl (fun ls hl => ?_)
  exact ww_X10_lettersOf_4  C hr hlk Z (lv_sub hl [1, 0] rfl) h
set_option maxHeartbeats 4000000 in
set_option maxRecDepth 100000 in
theorem ss_X10_lettersOf (l : Launch) (D : va_G) (κ : Nat → Nat) (ext : va_W) (x0 : Int32) : yy_Mi l D κ ext yX10_lettersOf cX10_lettersOf 3 (some .int) rm_X10_lettersOf 0 0 [.int x0] (mm_X10_lettersOf x0) := by
  intro sz τ res h
  refine yy_ofW (by decide) (Nat.le_of_ble_eq_true rfl) ?_
  intro p e s m args below meth c ls hsz E
  obtain ⟨C, hr, hlk, Z, hl⟩ := E
  subst hsz
  exact ww_X10_lettersOf_E  C hr hlk Z hl h
/-! MovedLinesModel.letter(IIII)I -/
noncomputable def mm_X10_letter_81b (x5 : Int32) (x7 : Int32) : yy_M ((Int32 × Int32) ⊕ ((Int32))) :=
  yy_br (x7 ≤ 0) (yy_rt (.inr x5)) (yy_rt (.inl ((x5 / 27), (x7 + (-1)))))
noncomputable def mm_X10_letter_99 (x5 : Int32) : yy_M Int32 :=
  yy_rt (x5 - x5 / 27 * 27)
noncomputable def mm_X10_letter_81 (x5 : Int32) (x7 : Int32) : yy_M Int32 :=
  yy_cl (yy_lp (fun (w : Int32 × Int32) => mm_X10_letter_81b w.1 w.2) (x5, x7)) (fun w => mm_X10_letter_99 w)
noncomputable def mm_X10_letter (x1 : Int32) (x2 : Int32) (x3 : Int32) (x4 : Int32) : yy_M Int32 :=
  yy_wF 112 0 0 (yy_cl (mm_X10_isLine x1 x2) (fun r1 => yy_br (r1 = 0) (yy_rt ((-1))) (yy_cl (mm_X10_wordsOf x1 x2) (fun r2 => yy_cl (mm_X10_isIn x3 0 (r2 - 1)) (fun r3 => yy_br (r3 = 0) (yy_rt ((-1))) (yy_cl (mm_X10_word x1 x2 x3) (fun r4 => yy_cl (mm_X10_lettersOf r4) (fun r5 => yy_br (x4 = ((-1))) (yy_rt r5) (yy_cl (mm_X10_isIn x4 0 (r5 - 1)) (fun r6 => yy_br (r6 = 0) (yy_rt ((-1))) (mm_X10_letter_81 r4 ((r5 - 1) - x4))))))))))))
theorem kw_X10_letter : yy_wV RX10 yX10_letter cX10_letter 8 (some .int) 4 := ⟨⟨tw_966, tw_967, tw_61, tw_968⟩, by decide +kernel⟩
abbrev rm_X10_letter : Room := { frames := 3, cells := 0, slots := 0, locals := 64 }
set_option maxHeartbeats 4000000 in
set_option maxRecDepth 100000 in
theorem ww_X10_letter_81b {x5 : Int32} {x7 : Int32} {res : ((Int32 × Int32) ⊕ ((Int32))) × yy_T} {Q : State → Prop} (C : yy_C D κ p m c cX10_letter 8 s args RX10) (Z : yy_Z D κ ext A s.heap τ H locs) (hl : lv_has ls 8 [(5, .int x5), (7, .int x7)]) (h : mm_X10_letter_81b x5 x7 τ = some res)
    (kI : ∀ (w : Int32 × Int32) (τ1 : yy_T) (H1 : Heap) (locs1 : List Loc) (ls1 : Array Slot), res = (.inl w, τ1) → yy_Z D κ ext A s.heap τ1 H1 locs1 → lv_has ls1 8 [(5, .int w.1), (7, .int w.2)] → W p l e rm_X10_letter s m args below meth c H1 locs1 0 0 Q (F0 m 81 ls1 []))
    (kR0 : ∀ (w : Int32) (τ1 : yy_T) (H1 : Heap) (locs1 : List Loc) (ls1 : Array Slot), res = (.inr w, τ1) → yy_Z D κ ext A s.heap τ1 H1 locs1 → lv_has ls1 8 [(5, .int w)] → W p l e rm_X10_letter s m args below meth c H1 locs1 0 0 Q (F0 m 99 ls1 [])) : W p l e rm_X10_letter s m args below meth c H locs 0 0 Q (F0 m 81 ls []) := by
  unfold mm_X10_letter_81b at h
  refine lv_iload C.1.1 C.1.2.1 dX10_letter_81 (lv_at hl 1 rfl) ?_
  refine yy_if_le (tgt := 99) C dX10_letter_83 (by decide) h (fun h => ?_) (fun h => ?_)
  · exact kR0 _ _ _ _ _ (yy_rt_of h) Z (lv_sub hl [0] rfl)
  · refine lv_iload C.1.1 C.1.2.1 dX10_letter_86 (lv_at hl 0 rfl) ?_
    refine lv_bipush (v := 27) C.1.1 C.1.2.1 dX10_letter_88 (by decide) ?_
    refine lv_idiv C.1.1 C.1.2.1 dX10_letter_90 (by decide) ?_
    refine lv_istore (lv' := [(5, .int (x5 / 27)), (7, .int x7)]) C.1.1 C.1.2.1 dX10_letter_91 hl (by decide) rfl (fun ls hl => ?_)
    refine lv_iinc (v := x7 + (-1)) (lv' := [(7, .int (x7 + (-1))), (5, .int (x5 / 27))]) C.1.1 C.1.2.1 dX10_letter_93 hl (k := 1) rfl (by rfl) (by decide) rfl (fun ls hl => ?_)
    refine lv_goto (tgt := 81) C.1.1 C.1.2.1 dX10_letter_96 (by decide) ?_
    exact kI _ _ _ _ _ (yy_rt_of h) Z (lv_sub hl [1, 0] rfl)
set_option maxHeartbeats 4000000 in
set_option maxRecDepth 100000 in
theorem ww_X10_letter_99 {x5 : Int32} {res : Int32 × yy_T} (C : yy_C D κ p m c cX10_letter 8 s args RX10) (hr : meth.sig.returnType = (some .int)) (hlk : meth.locks = false) (Z : yy_Z D κ ext A s.heap τ H locs) (hl : lv_has ls 8 [(5, .int x5)]) (h : mm_X10_letter_99 x5 τ = some res) : W p l e rm_X10_letter s m args below meth c H locs 0 0 (MQ below (yy_Qi D κ ext A res) args s 0 0 A) (F0 m 99 ls []) := by
  unfold mm_X10_letter_99 at h
  refine lv_iload C.1.1 C.1.2.1 dX10_letter_99 (lv_at hl 0 rfl) ?_
  refine lv_bipush (v := 27) C.1.1 C.1.2.1 dX10_letter_101 (by decide) ?_
  refine lv_irem C.1.1 C.1.2.1 dX10_letter_103 (by decide) ?_
  exact yy_iret C Z hr hlk rfl dX10_letter_104 h
set_option maxHeartbeats 4000000 in
set_option maxRecDepth 100000 in
theorem ww_X10_letter_81 {x5 : Int32} {x7 : Int32} {res : Int32 × yy_T} (C : yy_C D κ p m c cX10_letter 8 s args RX10) (hr : meth.sig.returnType = (some .int)) (hlk : meth.locks = false) (Z : yy_Z D κ ext A s.heap τ H locs) (hl : lv_has ls 8 [(5, .int x5), (7, .int x7)]) (h : mm_X10_letter_81 x5 x7 τ = some res) : W p l e rm_X10_letter s m args below meth c H locs 0 0 (MQ below (yy_Qi D κ ext A res) args s 0 0 A) (F0 m 81 ls []) := by
  unfold mm_X10_letter_81 at h
  refine yy_loop h (fun (w : Int32 × Int32) (τ : yy_T) => ∀ (H : Heap) (locs : List Loc) (ls : Array Slot), yy_Z D κ ext A s.heap τ H locs → lv_has ls 8 [(5, .int w.1), (7, .int w.2)] → W p l e rm_X10_letter s m args below meth c H locs 0 0 (MQ below (yy_Qi D κ ext A res) args s 0 0 A) (F0 m 81 ls [])) ?_ H locs ls Z hl
  intro w τ y hy hI hX H locs ls Z hl
  refine ww_X10_letter_81b  C Z hl hy (fun w τ H locs ls ey Z hl => hI w τ ey H locs ls Z hl) (fun w τ H locs ls ey Z hl => ?_)
  · have h := hX _ _ ey
    exact ww_X10_letter_99  C hr hlk Z (lv_sub hl [0] rfl) h
set_option maxHeartbeats 4000000 in
set_option maxRecDepth 100000 in
theorem ww_X10_letter_E {x1 : Int32} {x2 : Int32} {x3 : Int32} {x4 : Int32} {res : Int32 × yy_T} (C : yy_C D κ p m c cX10_letter 8 s args RX10) (hr : meth.sig.returnType = (some .int)) (hlk : meth.locks = false) (Z : yy_Z D κ ext A s.heap τ H locs) (hl : lv_has ls 8 [(0, .ref (κ 4 + 112)), (1, .int x1), (2, .int x2), (3, .int x3), (4, .int x4)]) (h : mm_X10_letter x1 x2 x3 x4 τ = some res) : W p l e rm_X10_letter s m args below meth c H locs 0 0 (MQ below (yy_Qi D κ ext A res) args s 0 0 A) (F0 m 0 ls []) := by
  unfold mm_X10_letter at h
  refine lv_aload_n C.1.1 C.1.2.1 dX10_letter_0 rfl (lv_at hl 0 rfl) ?_
  refine lv_iconst (v := 0) C.1.1 C.1.2.1 dX10_letter_1 (by decide) ?_
  refine yp_X10_0 C Z tw_792 dX10_letter_2 h (fun H locs τ Z h => ?_)
  refine lv_aload_n C.1.1 C.1.2.1 dX10_letter_5 rfl (lv_at hl 0 rfl) ?_
  refine lv_iload_n C.1.1 C.1.2.1 dX10_letter_6 rfl (lv_at hl 1 rfl) ?_
  refine lv_iload_n C.1.1 C.1.2.1 dX10_letter_7 rfl (lv_at hl 2 rfl) ?_
  refine yy_cVi0 (As := [.int x1, .int x2]) (rest := []) (id := 112) (ci := 10) (q := (RX10, TX10, 20)) C Z (ss_X10_isLine l D κ ext x1 x2) (by decide) (yy_ent_112 _) rfl tw_957 kw_X10_isLine ⟨⟨rfl, rfl⟩, ⟨Nat.le_of_ble_eq_true rfl, Nat.le_of_ble_eq_true rfl⟩, Nat.le_of_ble_eq_true rfl, Nat.le_of_ble_eq_true rfl⟩ hl.1 rfl (Nat.le_of_ble_eq_true rfl) dX10_letter_8 h (fun r1 τ H locs Z h => ?_)
  refine yy_if_eq (tgt := 30) C dX10_letter_11 (by decide) h (fun h => ?_) (fun h => ?_)
  · refine lv_iconst (v := (-1)) C.1.1 C.1.2.1 dX10_letter_30 (by decide) ?_
    exact yy_iret C Z hr hlk rfl dX10_letter_31 h
  · refine lv_iload_n C.1.1 C.1.2.1 dX10_letter_14 rfl (lv_at hl 3 rfl) ?_
    refine lv_iconst (v := 0) C.1.1 C.1.2.1 dX10_letter_15 (by decide) ?_
    refine lv_aload_n C.1.1 C.1.2.1 dX10_letter_16 rfl (lv_at hl 0 rfl) ?_
    refine lv_iload_n C.1.1 C.1.2.1 dX10_letter_17 rfl (lv_at hl 1 rfl) ?_
    refine lv_iload_n C.1.1 C.1.2.1 dX10_letter_18 rfl (lv_at hl 2 rfl) ?_
    refine yy_cVi0 (As := [.int x1, .int x2]) (rest := [.int 0, .int x3]) (id := 112) (ci := 10) (q := (RX10, TX10, 20)) C Z (ss_X10_wordsOf l D κ ext x1 x2) (by decide) (yy_ent_112 _) rfl tw_910 kw_X10_wordsOf ⟨⟨rfl, rfl⟩, ⟨Nat.le_of_ble_eq_true rfl, Nat.le_of_ble_eq_true rfl⟩, Nat.le_of_ble_eq_true rfl, Nat.le_of_ble_eq_true rfl⟩ hl.1 rfl (Nat.le_of_ble_eq_true rfl) dX10_letter_19 h (fun r2 τ H locs Z h => ?_)
    refine lv_iconst (v := 1) C.1.1 C.1.2.1 dX10_letter_22 (by decide) ?_
    refine lv_isub C.1.1 C.1.2.1 dX10_letter_23 ?_
    refine yy_cSi0 (As := [.int x3, .int 0, .int (r2 - 1)]) (rest := [])  C Z (ss_X10_isIn l D κ ext x3 0 (r2 - 1)) tw_860 kw_X10_isIn ⟨⟨rfl, rfl⟩, ⟨Nat.le_of_ble_eq_true rfl, Nat.le_of_ble_eq_true rfl⟩, Nat.le_of_ble_eq_true rfl, Nat.le_of_ble_eq_true rfl⟩ hl.1 rfl (Nat.le_of_ble_eq_true rfl) dX10_letter_24 h (fun r3 τ H locs Z h => ?_)
    refine yy_if_ne (tgt := 32) C dX10_letter_27 (by decide) h (fun h => ?_) (fun h => ?_)
    · refine lv_aload_n C.1.1 C.1.2.1 dX10_letter_32 rfl (lv_at hl 0 rfl) ?_
      refine lv_iload_n C.1.1 C.1.2.1 dX10_letter_33 rfl (lv_at hl 1 rfl) ?_
      refine lv_iload_n C.1.1 C.1.2.1 dX10_letter_34 rfl (lv_at hl 2 rfl) ?_
      refine lv_iload_n C.1.1 C.1.2.1 dX10_letter_35 rfl (lv_at hl 3 rfl) ?_
      refine yy_cVi0 (As := [.int x1, .int x2, .int x3]) (rest := []) (id := 112) (ci := 10) (q := (RX10, TX10, 20)) C Z (ss_X10_word l D κ ext x1 x2 x3) (by decide) (yy_ent_112 _) rfl tw_917 kw_X10_word ⟨⟨rfl, rfl⟩, ⟨Nat.le_of_ble_eq_true rfl, Nat.le_of_ble_eq_true rfl⟩, Nat.le_of_ble_eq_true rfl, Nat.le_of_ble_eq_true rfl⟩ hl.1 rfl (Nat.le_of_ble_eq_true rfl) dX10_letter_36 h (fun r4 τ H locs Z h => ?_)
      refine lv_istore (lv' := [(5, .int r4), (0, .ref (κ 4 + 112)), (1, .int x1), (2, .int x2), (3, .int x3), (4, .int x4)]) C.1.1 C.1.2.1 dX10_letter_39 hl (by decide) rfl (fun ls hl => ?_)
      refine lv_iload C.1.1 C.1.2.1 dX10_letter_41 (lv_at hl 0 rfl) ?_
      refine yy_cSi0 (As := [.int r4]) (rest := [])  C Z (ss_X10_lettersOf l D κ ext r4) tw_969 kw_X10_lettersOf ⟨⟨rfl, rfl⟩, ⟨Nat.le_of_ble_eq_true rfl, Nat.le_of_ble_eq_true rfl⟩, Nat.le_of_ble_eq_true rfl, Nat.le_of_ble_eq_true rfl⟩ hl.1 rfl (Nat.le_of_ble_eq_true rfl) dX10_letter_43 h (fun r5 τ H locs Z h => ?_)
      refine lv_istore (lv' := [(6, .int r5), (5, .int r4), (0, .ref (κ 4 + 112)), (1, .int x1), (2, .int x2), (3, .int x3), (4, .int x4)]) C.1.1 C.1.2.1 dX10_letter_46 hl (by decide) rfl (fun ls hl => ?_)
      refine lv_iload C.1.1 C.1.2.1 dX10_letter_48 (lv_at hl 6 rfl) ?_
      refine lv_iconst (v := (-1)) C.1.1 C.1.2.1 dX10_letter_50 (by decide) ?_
      refine yy_icmp_ne (tgt := 57) C dX10_letter_51 (by decide) h (fun h => ?_) (fun h => ?_)
      · refine lv_iload C.1.1 C.1.2.1 dX10_letter_57 (lv_at hl 6 rfl) ?_
        refine lv_iconst (v := 0) C.1.1 C.1.2.1 dX10_letter_59 (by decide) ?_
        refine lv_iload C.1.1 C.1.2.1 dX10_letter_60 (lv_at hl 0 rfl) ?_
        refine lv_iconst (v := 1) C.1.1 C.1.2.1 dX10_letter_62 (by decide) ?_
        refine lv_isub C.1.1 C.1.2.1 dX10_letter_63 ?_
        refine yy_cSi0 (As := [.int x4, .int 0, .int (r5 - 1)]) (rest := [])  C Z (ss_X10_isIn l D κ ext x4 0 (r5 - 1)) tw_860 kw_X10_isIn ⟨⟨rfl, rfl⟩, ⟨Nat.le_of_ble_eq_true rfl, Nat.le_of_ble_eq_true rfl⟩, Nat.le_of_ble_eq_true rfl, Nat.le_of_ble_eq_true rfl⟩ hl.1 rfl (Nat.le_of_ble_eq_true rfl) dX10_letter_64 h (fun r6 τ H locs Z h => ?_)
        refine yy_if_ne (tgt := 72) C dX10_letter_67 (by decide) h (fun h => ?_) (fun h => ?_)
        · refine lv_iload C.1.1 C.1.2.1 dX10_letter_72 (lv_at hl 0 rfl) ?_
          refine lv_iconst (v := 1) C.1.1 C.1.2.1 dX10_letter_74 (by decide) ?_
          refine lv_isub C.1.1 C.1.2.1 dX10_letter_75 ?_
          refine lv_iload C.1.1 C.1.2.1 dX10_letter_76 (lv_at hl 6 rfl) ?_
          refine lv_isub C.1.1 C.1.2.1 dX10_letter_78 ?_
          refine lv_istore (lv' := [(7, .int ((r5 - 1) - x4)), (6, .int r5), (5, .int r4), (0, .ref (κ 4 + 112)), (1, .int x1), (2, .int x2), (3, .int x3), (4, .int x4)]) C.1.1 C.1.2.1 dX10_letter_79 hl (by decide) rfl (fun ls hl => ?_)
          exact ww_X10_letter_81  C hr hlk Z (lv_sub hl [2, 0] rfl) h
        · refine lv_iconst (v := (-1)) C.1.1 C.1.2.1 dX10_letter_70 (by decide) ?_
          exact yy_iret C Z hr hlk rfl dX10_letter_71 h
      · refine lv_iload C.1.1 C.1.2.1 dX10_letter_54 (lv_at hl 0 rfl) ?_
        exact yy_iret C Z hr hlk rfl dX10_letter_56 h
    · refine lv_iconst (v := (-1)) C.1.1 C.1.2.1 dX10_letter_30 (by decide) ?_
      exact yy_iret C Z hr hlk rfl dX10_letter_31 h
set_option maxHeartbeats 4000000 in
set_option maxRecDepth 100000 in
theorem ss_X10_letter (l : Launch) (D : va_G) (κ : Nat → Nat) (ext : va_W) (x1 : Int32) (x2 : Int32) (x3 : Int32) (x4 : Int32) : yy_Mi l D κ ext yX10_letter cX10_letter 8 (some .int) rm_X10_letter 0 0 [.ref (κ 4 + 112), .int x1, .int x2, .int x3, .int x4] (mm_X10_letter x1 x2 x3 x4) := by
  intro sz τ res h
  refine yy_ofW (by decide) (Nat.le_of_ble_eq_true rfl) ?_
  intro p e s m args below meth c ls hsz E
  obtain ⟨C, hr, hlk, Z, hl⟩ := E
  subst hsz
  exact ww_X10_letter_E  C hr hlk Z hl h
/-! MovedLinesModel.areLines(II)Z -/
noncomputable def mm_X10_areLines (x1 : Int32) (x2 : Int32) : yy_M Int32 :=
  yy_cl (mm_X10_isLine 0 x1) (fun r1 => yy_br (r1 = 0) (yy_rt 0) (yy_cl (mm_X10_isLine 1 x2) (fun r2 => yy_br (r2 = 0) (yy_rt 0) (yy_rt 1))))
theorem kw_X10_areLines : yy_wV RX10 yX10_areLines cX10_areLines 3 (some .boolean) 2 := ⟨⟨tw_982, tw_44, tw_61, tw_983⟩, by decide +kernel⟩
abbrev rm_X10_areLines : Room := { frames := 3, cells := 0, slots := 0, locals := 64 }
set_option maxHeartbeats 4000000 in
set_option maxRecDepth 100000 in
theorem ww_X10_areLines_E {x1 : Int32} {x2 : Int32} {res : Int32 × yy_T} (C : yy_C D κ p m c cX10_areLines 3 s args RX10) (hr : meth.sig.returnType = (some .boolean)) (hlk : meth.locks = false) (Z : yy_Z D κ ext A s.heap τ H locs) (hl : lv_has ls 3 [(0, .ref (κ 4 + 112)), (1, .int x1), (2, .int x2)]) (h : mm_X10_areLines x1 x2 τ = some res) : W p l e rm_X10_areLines s m args below meth c H locs 0 0 (MQ below (yy_Qi D κ ext A res) args s 0 0 A) (F0 m 0 ls []) := by
  unfold mm_X10_areLines at h
  refine lv_aload_n C.1.1 C.1.2.1 dX10_areLines_0 rfl (lv_at hl 0 rfl) ?_
  refine lv_iconst (v := 0) C.1.1 C.1.2.1 dX10_areLines_1 (by decide) ?_
  refine lv_iload_n C.1.1 C.1.2.1 dX10_areLines_2 rfl (lv_at hl 1 rfl) ?_
  refine yy_cVi0 (As := [.int 0, .int x1]) (rest := []) (id := 112) (ci := 10) (q := (RX10, TX10, 20)) C Z (ss_X10_isLine l D κ ext 0 x1) (by decide) (yy_ent_112 _) rfl tw_957 kw_X10_isLine ⟨⟨rfl, rfl⟩, ⟨Nat.le_of_ble_eq_true rfl, Nat.le_of_ble_eq_true rfl⟩, Nat.le_of_ble_eq_true rfl, Nat.le_of_ble_eq_true rfl⟩ hl.1 rfl (Nat.le_of_ble_eq_true rfl) dX10_areLines_3 h (fun r1 τ H locs Z h => ?_)
  refine yy_if_eq (tgt := 22) C dX10_areLines_6 (by decide) h (fun h => ?_) (fun h => ?_)
  · refine lv_iconst (v := 0) C.1.1 C.1.2.1 dX10_areLines_22 (by decide) ?_
    exact yy_iret C Z hr hlk rfl dX10_areLines_23 h
  · refine lv_aload_n C.1.1 C.1.2.1 dX10_areLines_9 rfl (lv_at hl 0 rfl) ?_
    refine lv_iconst (v := 1) C.1.1 C.1.2.1 dX10_areLines_10 (by decide) ?_
    refine lv_iload_n C.1.1 C.1.2.1 dX10_areLines_11 rfl (lv_at hl 2 rfl) ?_
    refine yy_cVi0 (As := [.int 1, .int x2]) (rest := []) (id := 112) (ci := 10) (q := (RX10, TX10, 20)) C Z (ss_X10_isLine l D κ ext 1 x2) (by decide) (yy_ent_112 _) rfl tw_957 kw_X10_isLine ⟨⟨rfl, rfl⟩, ⟨Nat.le_of_ble_eq_true rfl, Nat.le_of_ble_eq_true rfl⟩, Nat.le_of_ble_eq_true rfl, Nat.le_of_ble_eq_true rfl⟩ hl.1 rfl (Nat.le_of_ble_eq_true rfl) dX10_areLines_12 h (fun r2 τ H locs Z h => ?_)
    refine yy_if_eq (tgt := 22) C dX10_areLines_15 (by decide) h (fun h => ?_) (fun h => ?_)
    · refine lv_iconst (v := 0) C.1.1 C.1.2.1 dX10_areLines_22 (by decide) ?_
      exact yy_iret C Z hr hlk rfl dX10_areLines_23 h
    · refine lv_iconst (v := 1) C.1.1 C.1.2.1 dX10_areLines_18 (by decide) ?_
      refine lv_goto (tgt := 23) C.1.1 C.1.2.1 dX10_areLines_19 (by decide) ?_
      exact yy_iret C Z hr hlk rfl dX10_areLines_23 h
set_option maxHeartbeats 4000000 in
set_option maxRecDepth 100000 in
theorem ss_X10_areLines (l : Launch) (D : va_G) (κ : Nat → Nat) (ext : va_W) (x1 : Int32) (x2 : Int32) : yy_Mi l D κ ext yX10_areLines cX10_areLines 3 (some .boolean) rm_X10_areLines 0 0 [.ref (κ 4 + 112), .int x1, .int x2] (mm_X10_areLines x1 x2) := by
  intro sz τ res h
  refine yy_ofW (by decide) (Nat.le_of_ble_eq_true rfl) ?_
  intro p e s m args below meth c ls hsz E
  obtain ⟨C, hr, hlk, Z, hl⟩ := E
  subst hsz
  exact ww_X10_areLines_E  C hr hlk Z hl h
/-! MovedLinesModel.shared(II)I -/
noncomputable def mm_X10_shared (x1 : Int32) (x2 : Int32) : yy_M Int32 :=
  yy_wF 112 0 0 (yy_cl (mm_X10_areLines x1 x2) (fun r1 => yy_br (r1 = 0) (yy_rt ((-1))) (yy_cl (mm_X10_sharedOf x1 x2) (fun r2 => yy_rt r2))))
theorem kw_X10_shared : yy_wV RX10 yX10_shared cX10_shared 3 (some .int) 2 := ⟨⟨tw_977, tw_978, tw_61, tw_979⟩, by decide +kernel⟩
abbrev rm_X10_shared : Room := { frames := 4, cells := 0, slots := 0, locals := 86 }
set_option maxHeartbeats 4000000 in
set_option maxRecDepth 100000 in
theorem ww_X10_shared_E {x1 : Int32} {x2 : Int32} {res : Int32 × yy_T} (C : yy_C D κ p m c cX10_shared 3 s args RX10) (hr : meth.sig.returnType = (some .int)) (hlk : meth.locks = false) (Z : yy_Z D κ ext A s.heap τ H locs) (hl : lv_has ls 3 [(0, .ref (κ 4 + 112)), (1, .int x1), (2, .int x2)]) (h : mm_X10_shared x1 x2 τ = some res) : W p l e rm_X10_shared s m args below meth c H locs 0 0 (MQ below (yy_Qi D κ ext A res) args s 0 0 A) (F0 m 0 ls []) := by
  unfold mm_X10_shared at h
  refine lv_aload_n C.1.1 C.1.2.1 dX10_shared_0 rfl (lv_at hl 0 rfl) ?_
  refine lv_iconst (v := 0) C.1.1 C.1.2.1 dX10_shared_1 (by decide) ?_
  refine yp_X10_0 C Z tw_792 dX10_shared_2 h (fun H locs τ Z h => ?_)
  refine lv_aload_n C.1.1 C.1.2.1 dX10_shared_5 rfl (lv_at hl 0 rfl) ?_
  refine lv_iload_n C.1.1 C.1.2.1 dX10_shared_6 rfl (lv_at hl 1 rfl) ?_
  refine lv_iload_n C.1.1 C.1.2.1 dX10_shared_7 rfl (lv_at hl 2 rfl) ?_
  refine yy_cVi0 (As := [.int x1, .int x2]) (rest := []) (id := 112) (ci := 10) (q := (RX10, TX10, 20)) C Z (ss_X10_areLines l D κ ext x1 x2) (by decide) (yy_ent_112 _) rfl tw_980 kw_X10_areLines ⟨⟨rfl, rfl⟩, ⟨Nat.le_of_ble_eq_true rfl, Nat.le_of_ble_eq_true rfl⟩, Nat.le_of_ble_eq_true rfl, Nat.le_of_ble_eq_true rfl⟩ hl.1 rfl (Nat.le_of_ble_eq_true rfl) dX10_shared_8 h (fun r1 τ H locs Z h => ?_)
  refine yy_if_eq (tgt := 23) C dX10_shared_11 (by decide) h (fun h => ?_) (fun h => ?_)
  · refine lv_iconst (v := (-1)) C.1.1 C.1.2.1 dX10_shared_23 (by decide) ?_
    exact yy_iret C Z hr hlk rfl dX10_shared_24 h
  · refine lv_aload_n C.1.1 C.1.2.1 dX10_shared_14 rfl (lv_at hl 0 rfl) ?_
    refine lv_iload_n C.1.1 C.1.2.1 dX10_shared_15 rfl (lv_at hl 1 rfl) ?_
    refine lv_iload_n C.1.1 C.1.2.1 dX10_shared_16 rfl (lv_at hl 2 rfl) ?_
    refine yy_cVi0 (As := [.int x1, .int x2]) (rest := []) (id := 112) (ci := 10) (q := (RX10, TX10, 20)) C Z (ss_X10_sharedOf l D κ ext x1 x2) (by decide) (yy_ent_112 _) rfl tw_945 kw_X10_sharedOf ⟨⟨rfl, rfl⟩, ⟨Nat.le_of_ble_eq_true rfl, Nat.le_of_ble_eq_true rfl⟩, Nat.le_of_ble_eq_true rfl, Nat.le_of_ble_eq_true rfl⟩ hl.1 rfl (Nat.le_of_ble_eq_true rfl) dX10_shared_17 h (fun r2 τ H locs Z h => ?_)
    refine lv_goto (tgt := 24) C.1.1 C.1.2.1 dX10_shared_20 (by decide) ?_
    exact yy_iret C Z hr hlk rfl dX10_shared_24 h
set_option maxHeartbeats 4000000 in
set_option maxRecDepth 100000 in
theorem ss_X10_shared (l : Launch) (D : va_G) (κ : Nat → Nat) (ext : va_W) (x1 : Int32) (x2 : Int32) : yy_Mi l D κ ext yX10_shared cX10_shared 3 (some .int) rm_X10_shared 0 0 [.ref (κ 4 + 112), .int x1, .int x2] (mm_X10_shared x1 x2) := by
  intro sz τ res h
  refine yy_ofW (by decide) (Nat.le_of_ble_eq_true rfl) ?_
  intro p e s m args below meth c ls hsz E
  obtain ⟨C, hr, hlk, Z, hl⟩ := E
  subst hsz
  exact ww_X10_shared_E  C hr hlk Z hl h
/-! MovedLinesModel.stays(III)I -/
noncomputable def mm_X10_stays_127 (x1 : Int32) (x2 : Int32) (x3 : Int32) (x4 : Int32) (x5 : Int32) (x6 : Int32) (x7 : Int32) (x8 : Int32) : yy_M ((Int32 × Int32) ⊕ ((Int32))) :=
  yy_rt (.inl (x7, (x8 + 1)))
noncomputable def mm_X10_stays_64b (x1 : Int32) (x2 : Int32) (x3 : Int32) (x4 : Int32) (x5 : Int32) (x6 : Int32) (x7 : Int32) (x8 : Int32) : yy_M ((Int32 × Int32) ⊕ ((Int32))) :=
  yy_cl (mm_X10_wordsOf 1 x3) (fun r5 => yy_br (r5 ≤ x8) (yy_rt (.inr x7)) (yy_br (x7 = ((-1))) (yy_cl (mm_X10_word 0 x1 x6) (fun r6 => yy_cl (mm_X10_word 1 x3 x8) (fun r7 => yy_br (r6 = r7) (yy_rA 123 81 (((9 * x6) + 10) + x8) fun v8 => yy_br (v8 = (x4 - 1)) (mm_X10_stays_127 x1 x2 x3 x4 x5 x6 x8 x8) (mm_X10_stays_127 x1 x2 x3 x4 x5 x6 x7 x8)) (mm_X10_stays_127 x1 x2 x3 x4 x5 x6 x7 x8)))) (yy_rt (.inr x7))))
noncomputable def mm_X10_stays_160 (x1 : Int32) (x2 : Int32) (x3 : Int32) (x4 : Int32) (x5 : Int32) (x6 : Int32) : yy_M ((Int32 × Int32 × Int32) ⊕ ((Unit) ⊕ (Int32))) :=
  yy_rt (.inl (x4, x5, (x6 + 1)))
noncomputable def mm_X10_stays_133 (x1 : Int32) (x2 : Int32) (x3 : Int32) (x4 : Int32) (x5 : Int32) (x6 : Int32) (x7 : Int32) : yy_M ((Int32 × Int32 × Int32) ⊕ ((Unit) ⊕ (Int32))) :=
  yy_br (x6 = x2) (yy_rt (.inr (.inr x7))) (yy_br (x7 = ((-1))) (mm_X10_stays_160 x1 x2 x3 x4 x5 x6) (mm_X10_stays_160 x1 x2 x3 (x4 + (-1)) (x7 + 1) x6))
noncomputable def mm_X10_stays_64 (x1 : Int32) (x2 : Int32) (x3 : Int32) (x4 : Int32) (x5 : Int32) (x6 : Int32) (x7 : Int32) (x8 : Int32) : yy_M ((Int32 × Int32 × Int32) ⊕ ((Unit) ⊕ (Int32))) :=
  yy_cl (yy_lp (fun (w : Int32 × Int32) => mm_X10_stays_64b x1 x2 x3 x4 x5 x6 w.1 w.2) (x7, x8)) (fun w => mm_X10_stays_133 x1 x2 x3 x4 x5 x6 w)
noncomputable def mm_X10_stays_46b (x1 : Int32) (x2 : Int32) (x3 : Int32) (x4 : Int32) (x5 : Int32) (x6 : Int32) : yy_M ((Int32 × Int32 × Int32) ⊕ ((Unit) ⊕ (Int32))) :=
  yy_br (x2 < x6) (yy_rt (.inr (.inl ()))) (yy_br (x4 ≤ 0) (yy_rt (.inr (.inl ()))) (mm_X10_stays_64 x1 x2 x3 x4 x5 x6 ((-1)) x5))
noncomputable def mm_X10_stays_166 : yy_M Int32 :=
  yy_rt ((-1))
noncomputable def mm_X10_stays_139 (x7 : Int32) : yy_M Int32 :=
  yy_rt x7
noncomputable def mm_X10_stays_46 (x1 : Int32) (x2 : Int32) (x3 : Int32) (x4 : Int32) (x5 : Int32) (x6 : Int32) : yy_M Int32 :=
  yy_cl (yy_lp (fun (w : Int32 × Int32 × Int32) => mm_X10_stays_46b x1 x2 x3 w.1 w.2.1 w.2.2) (x4, x5, x6)) (Sum.elim (fun w => mm_X10_stays_166 ) (fun w => mm_X10_stays_139 w))
noncomputable def mm_X10_stays (x1 : Int32) (x2 : Int32) (x3 : Int32) : yy_M Int32 :=
  yy_wF 112 0 0 (yy_cl (mm_X10_areLines x1 x3) (fun r1 => yy_br (r1 = 0) (yy_rt ((-1))) (yy_cl (mm_X10_wordsOf 0 x1) (fun r2 => yy_cl (mm_X10_isIn x2 0 (r2 - 1)) (fun r3 => yy_br (r3 = 0) (yy_rt ((-1))) (yy_cl (mm_X10_sharedOf x1 x3) (fun r4 => mm_X10_stays_46 x1 x2 x3 r4 0 0)))))))
theorem kw_X10_stays : yy_wV RX10 yX10_stays cX10_stays 9 (some .int) 3 := ⟨⟨tw_985, tw_986, tw_61, tw_987⟩, by decide +kernel⟩
abbrev rm_X10_stays : Room := { frames := 4, cells := 0, slots := 0, locals := 86 }
set_option maxHeartbeats 4000000 in
set_option maxRecDepth 100000 in
theorem ww_X10_stays_127 {x1 : Int32} {x2 : Int32} {x3 : Int32} {x4 : Int32} {x5 : Int32} {x6 : Int32} {x7 : Int32} {x8 : Int32} {res : ((Int32 × Int32) ⊕ ((Int32))) × yy_T} {Q : State → Prop} (C : yy_C D κ p m c cX10_stays 9 s args RX10) (Z : yy_Z D κ ext A s.heap τ H locs) (hl : lv_has ls 9 [(0, .ref (κ 4 + 112)), (1, .int x1), (2, .int x2), (3, .int x3), (4, .int x4), (5, .int x5), (6, .int x6), (7, .int x7), (8, .int x8)]) (h : mm_X10_stays_127 x1 x2 x3 x4 x5 x6 x7 x8 τ = some res)
    (kI : ∀ (w : Int32 × Int32) (τ1 : yy_T) (H1 : Heap) (locs1 : List Loc) (ls1 : Array Slot), res = (.inl w, τ1) → yy_Z D κ ext A s.heap τ1 H1 locs1 → lv_has ls1 9 [(0, .ref (κ 4 + 112)), (1, .int x1), (2, .int x2), (3, .int x3), (4, .int x4), (5, .int x5), (6, .int x6), (7, .int w.1), (8, .int w.2)] → W p l e rm_X10_stays s m args below meth c H1 locs1 0 0 Q (F0 m 64 ls1 [])) : W p l e rm_X10_stays s m args below meth c H locs 0 0 Q (F0 m 127 ls []) := by
  unfold mm_X10_stays_127 at h
  refine lv_iinc (v := x8 + 1) (lv' := [(8, .int (x8 + 1)), (0, .ref (κ 4 + 112)), (1, .int x1), (2, .int x2), (3, .int x3), (4, .int x4), (5, .int x5), (6, .int x6), (7, .int x7)]) C.1.1 C.1.2.1 dX10_stays_127 hl (k := 8) rfl (by rfl) (by decide) rfl (fun ls hl => ?_)
  refine lv_goto (tgt := 64) C.1.1 C.1.2.1 dX10_stays_130 (by decide) ?_
  exact kI _ _ _ _ _ (yy_rt_of h) Z (lv_sub hl [1, 2, 3, 4, 5, 6, 7, 8, 0] rfl)
set_option maxHeartbeats 4000000 in
set_option maxRecDepth 100000 in
theorem ww_X10_stays_64b {x1 : Int32} {x2 : Int32} {x3 : Int32} {x4 : Int32} {x5 : Int32} {x6 : Int32} {x7 : Int32} {x8 : Int32} {res : ((Int32 × Int32) ⊕ ((Int32))) × yy_T} {Q : State → Prop} (C : yy_C D κ p m c cX10_stays 9 s args RX10) (Z : yy_Z D κ ext A s.heap τ H locs) (hl : lv_has ls 9 [(0, .ref (κ 4 + 112)), (1, .int x1), (2, .int x2), (3, .int x3), (4, .int x4), (5, .int x5), (6, .int x6), (7, .int x7), (8, .int x8)]) (h : mm_X10_stays_64b x1 x2 x3 x4 x5 x6 x7 x8 τ = some res)
    (kI : ∀ (w : Int32 × Int32) (τ1 : yy_T) (H1 : Heap) (locs1 : List Loc) (ls1 : Array Slot), res = (.inl w, τ1) → yy_Z D κ ext A s.heap τ1 H1 locs1 → lv_has ls1 9 [(0, .ref (κ 4 + 112)), (1, .int x1), (2, .int x2), (3, .int x3), (4, .int x4), (5, .int x5), (6, .int x6), (7, .int w.1), (8, .int w.2)] → W p l e rm_X10_stays s m args below meth c H1 locs1 0 0 Q (F0 m 64 ls1 []))
    (kR0 : ∀ (w : Int32) (τ1 : yy_T) (H1 : Heap) (locs1 : List Loc) (ls1 : Array Slot), res = (.inr w, τ1) → yy_Z D κ ext A s.heap τ1 H1 locs1 → lv_has ls1 9 [(0, .ref (κ 4 + 112)), (1, .int x1), (2, .int x2), (3, .int x3), (4, .int x4), (5, .int x5), (6, .int x6), (7, .int w)] → W p l e rm_X10_stays s m args below meth c H1 locs1 0 0 Q (F0 m 133 ls1 [])) : W p l e rm_X10_stays s m args below meth c H locs 0 0 Q (F0 m 64 ls []) := by
  unfold mm_X10_stays_64b at h
  refine lv_iload C.1.1 C.1.2.1 dX10_stays_64 (lv_at hl 8 rfl) ?_
  refine lv_aload_n C.1.1 C.1.2.1 dX10_stays_66 rfl (lv_at hl 0 rfl) ?_
  refine lv_iconst (v := 1) C.1.1 C.1.2.1 dX10_stays_67 (by decide) ?_
  refine lv_iload_n C.1.1 C.1.2.1 dX10_stays_68 rfl (lv_at hl 3 rfl) ?_
  refine yy_cVi0 (As := [.int 1, .int x3]) (rest := [.int x8]) (id := 112) (ci := 10) (q := (RX10, TX10, 20)) C Z (ss_X10_wordsOf l D κ ext 1 x3) (by decide) (yy_ent_112 _) rfl tw_910 kw_X10_wordsOf ⟨⟨rfl, rfl⟩, ⟨Nat.le_of_ble_eq_true rfl, Nat.le_of_ble_eq_true rfl⟩, Nat.le_of_ble_eq_true rfl, Nat.le_of_ble_eq_true rfl⟩ hl.1 rfl (Nat.le_of_ble_eq_true rfl) dX10_stays_69 h (fun r5 τ H locs Z h => ?_)
  refine yy_icmp_ge (tgt := 133) C dX10_stays_72 (by decide) h (fun h => ?_) (fun h => ?_)
  · exact kR0 _ _ _ _ _ (yy_rt_of h) Z (lv_sub hl [0, 1, 2, 3, 4, 5, 6, 7] rfl)
  · refine lv_iload C.1.1 C.1.2.1 dX10_stays_75 (lv_at hl 7 rfl) ?_
    refine lv_iconst (v := (-1)) C.1.1 C.1.2.1 dX10_stays_77 (by decide) ?_
    refine yy_icmp_ne (tgt := 133) C dX10_stays_78 (by decide) h (fun h => ?_) (fun h => ?_)
    · exact kR0 _ _ _ _ _ (yy_rt_of h) Z (lv_sub hl [0, 1, 2, 3, 4, 5, 6, 7] rfl)
    · refine lv_aload_n C.1.1 C.1.2.1 dX10_stays_81 rfl (lv_at hl 0 rfl) ?_
      refine lv_iconst (v := 0) C.1.1 C.1.2.1 dX10_stays_82 (by decide) ?_
      refine lv_iload_n C.1.1 C.1.2.1 dX10_stays_83 rfl (lv_at hl 1 rfl) ?_
      refine lv_iload C.1.1 C.1.2.1 dX10_stays_84 (lv_at hl 6 rfl) ?_
      refine yy_cVi0 (As := [.int 0, .int x1, .int x6]) (rest := []) (id := 112) (ci := 10) (q := (RX10, TX10, 20)) C Z (ss_X10_word l D κ ext 0 x1 x6) (by decide) (yy_ent_112 _) rfl tw_917 kw_X10_word ⟨⟨rfl, rfl⟩, ⟨Nat.le_of_ble_eq_true rfl, Nat.le_of_ble_eq_true rfl⟩, Nat.le_of_ble_eq_true rfl, Nat.le_of_ble_eq_true rfl⟩ hl.1 rfl (Nat.le_of_ble_eq_true rfl) dX10_stays_86 h (fun r6 τ H locs Z h => ?_)
      refine lv_aload_n C.1.1 C.1.2.1 dX10_stays_89 rfl (lv_at hl 0 rfl) ?_
      refine lv_iconst (v := 1) C.1.1 C.1.2.1 dX10_stays_90 (by decide) ?_
      refine lv_iload_n C.1.1 C.1.2.1 dX10_stays_91 rfl (lv_at hl 3 rfl) ?_
      refine lv_iload C.1.1 C.1.2.1 dX10_stays_92 (lv_at hl 8 rfl) ?_
      refine yy_cVi0 (As := [.int 1, .int x3, .int x8]) (rest := [.int r6]) (id := 112) (ci := 10) (q := (RX10, TX10, 20)) C Z (ss_X10_word l D κ ext 1 x3 x8) (by decide) (yy_ent_112 _) rfl tw_917 kw_X10_word ⟨⟨rfl, rfl⟩, ⟨Nat.le_of_ble_eq_true rfl, Nat.le_of_ble_eq_true rfl⟩, Nat.le_of_ble_eq_true rfl, Nat.le_of_ble_eq_true rfl⟩ hl.1 rfl (Nat.le_of_ble_eq_true rfl) dX10_stays_94 h (fun r7 τ H locs Z h => ?_)
      refine yy_icmp_ne (tgt := 127) C dX10_stays_97 (by decide) h (fun h => ?_) (fun h => ?_)
      · exact ww_X10_stays_127  C Z (lv_sub hl [0, 1, 2, 3, 4, 5, 6, 7, 8] rfl) h kI
      · refine lv_aload_n C.1.1 C.1.2.1 dX10_stays_100 rfl (lv_at hl 0 rfl) ?_
        refine yg_X10_19 C Z tw_811 dX10_stays_101 ?_
        refine lv_bipush (v := 9) C.1.1 C.1.2.1 dX10_stays_104 (by decide) ?_
        refine lv_iload C.1.1 C.1.2.1 dX10_stays_106 (lv_at hl 6 rfl) ?_
        refine lv_imul C.1.1 C.1.2.1 dX10_stays_108 ?_
        refine lv_bipush (v := 10) C.1.1 C.1.2.1 dX10_stays_109 (by decide) ?_
        refine lv_iadd C.1.1 C.1.2.1 dX10_stays_111 ?_
        refine lv_iload C.1.1 C.1.2.1 dX10_stays_112 (lv_at hl 8 rfl) ?_
        refine lv_iadd C.1.1 C.1.2.1 dX10_stays_114 ?_
        refine yy_iald C Z (by decide) rfl dX10_stays_115 h (fun v8 h => ?_)
        refine lv_iload C.1.1 C.1.2.1 dX10_stays_116 (lv_at hl 4 rfl) ?_
        refine lv_iconst (v := 1) C.1.1 C.1.2.1 dX10_stays_118 (by decide) ?_
        refine lv_isub C.1.1 C.1.2.1 dX10_stays_119 ?_
        refine yy_icmp_ne (tgt := 127) C dX10_stays_120 (by decide) h (fun h => ?_) (fun h => ?_)
        · exact ww_X10_stays_127  C Z (lv_sub hl [0, 1, 2, 3, 4, 5, 6, 7, 8] rfl) h kI
        · refine lv_iload C.1.1 C.1.2.1 dX10_stays_123 (lv_at hl 8 rfl) ?_
          refine lv_istore (lv' := [(7, .int x8), (0, .ref (κ 4 + 112)), (1, .int x1), (2, .int x2), (3, .int x3), (4, .int x4), (5, .int x5), (6, .int x6), (8, .int x8)]) C.1.1 C.1.2.1 dX10_stays_125 hl (by decide) rfl (fun ls hl => ?_)
          exact ww_X10_stays_127  C Z (lv_sub hl [1, 2, 3, 4, 5, 6, 7, 0, 8] rfl) h kI
set_option maxHeartbeats 4000000 in
set_option maxRecDepth 100000 in
theorem ww_X10_stays_160 {x1 : Int32} {x2 : Int32} {x3 : Int32} {x4 : Int32} {x5 : Int32} {x6 : Int32} {res : ((Int32 × Int32 × Int32) ⊕ ((Unit) ⊕ (Int32))) × yy_T} {Q : State → Prop} (C : yy_C D κ p m c cX10_stays 9 s args RX10) (Z : yy_Z D κ ext A s.heap τ H locs) (hl : lv_has ls 9 [(0, .ref (κ 4 + 112)), (1, .int x1), (2, .int x2), (3, .int x3), (4, .int x4), (5, .int x5), (6, .int x6)]) (h : mm_X10_stays_160 x1 x2 x3 x4 x5 x6 τ = some res)
    (kI : ∀ (w : Int32 × Int32 × Int32) (τ1 : yy_T) (H1 : Heap) (locs1 : List Loc) (ls1 : Array Slot), res = (.inl w, τ1) → yy_Z D κ ext A s.heap τ1 H1 locs1 → lv_has ls1 9 [(0, .ref (κ 4 + 112)), (1, .int x1), (2, .int x2), (3, .int x3), (4, .int w.1), (5, .int w.2.1), (6, .int w.2.2)] → W p l e rm_X10_stays s m args below meth c H1 locs1 0 0 Q (F0 m 46 ls1 [])) : W p l e rm_X10_stays s m args below meth c H locs 0 0 Q (F0 m 160 ls []) := by
  unfold mm_X10_stays_160 at h
  refine lv_iinc (v := x6 + 1) (lv' := [(6, .int (x6 + 1)), (0, .ref (κ 4 + 112)), (1, .int x1), (2, .int x2), (3, .int x3), (4, .int x4), (5, .int x5)]) C.1.1 C.1.2.1 dX10_stays_160 hl (k := 6) rfl (by rfl) (by decide) rfl (fun ls hl => ?_)
  refine lv_goto (tgt := 46) C.1.1 C.1.2.1 dX10_stays_163 (by decide) ?_
  exact kI _ _ _ _ _ (yy_rt_of h) Z (lv_sub hl [1, 2, 3, 4, 5, 6, 0] rfl)
set_option maxHeartbeats 4000000 in
set_option maxRecDepth 100000 in
theorem ww_X10_stays_133 {x1 : Int32} {x2 : Int32} {x3 : Int32} {x4 : Int32} {x5 : Int32} {x6 : Int32} {x7 : Int32} {res : ((Int32 × Int32 × Int32) ⊕ ((Unit) ⊕ (Int32))) × yy_T} {Q : State → Prop} (C : yy_C D κ p m c cX10_stays 9 s args RX10) (Z : yy_Z D κ ext A s.heap τ H locs) (hl : lv_has ls 9 [(0, .ref (κ 4 + 112)), (1, .int x1), (2, .int x2), (3, .int x3), (4, .int x4), (5, .int x5), (6, .int x6), (7, .int x7)]) (h : mm_X10_stays_133 x1 x2 x3 x4 x5 x6 x7 τ = some res)
    (kI : ∀ (w : Int32 × Int32 × Int32) (τ1 : yy_T) (H1 : Heap) (locs1 : List Loc) (ls1 : Array Slot), res = (.inl w, τ1) → yy_Z D κ ext A s.heap τ1 H1 locs1 → lv_has ls1 9 [(0, .ref (κ 4 + 112)), (1, .int x1), (2, .int x2), (3, .int x3), (4, .int w.1), (5, .int w.2.1), (6, .int w.2.2)] → W p l e rm_X10_stays s m args below meth c H1 locs1 0 0 Q (F0 m 46 ls1 []))
    (kR1 : ∀ (w : Int32) (τ1 : yy_T) (H1 : Heap) (locs1 : List Loc) (ls1 : Array Slot), res = (.inr (.inr w), τ1) → yy_Z D κ ext A s.heap τ1 H1 locs1 → lv_has ls1 9 [(7, .int w)] → W p l e rm_X10_stays s m args below meth c H1 locs1 0 0 Q (F0 m 139 ls1 [])) : W p l e rm_X10_stays s m args below meth c H locs 0 0 Q (F0 m 133 ls []) := by
  unfold mm_X10_stays_133 at h
  refine lv_iload C.1.1 C.1.2.1 dX10_stays_133 (lv_at hl 6 rfl) ?_
  refine lv_iload_n C.1.1 C.1.2.1 dX10_stays_135 rfl (lv_at hl 2 rfl) ?_
  refine yy_icmp_ne (tgt := 142) C dX10_stays_136 (by decide) h (fun h => ?_) (fun h => ?_)
  · refine lv_iload C.1.1 C.1.2.1 dX10_stays_142 (lv_at hl 7 rfl) ?_
    refine lv_iconst (v := (-1)) C.1.1 C.1.2.1 dX10_stays_144 (by decide) ?_
    refine yy_icmp_ne (tgt := 151) C dX10_stays_145 (by decide) h (fun h => ?_) (fun h => ?_)
    · refine lv_iload C.1.1 C.1.2.1 dX10_stays_151 (lv_at hl 7 rfl) ?_
      refine lv_iconst (v := 1) C.1.1 C.1.2.1 dX10_stays_153 (by decide) ?_
      refine lv_iadd C.1.1 C.1.2.1 dX10_stays_154 ?_
      refine lv_istore (lv' := [(5, .int (x7 + 1)), (0, .ref (κ 4 + 112)), (1, .int x1), (2, .int x2), (3, .int x3), (4, .int x4), (6, .int x6), (7, .int x7)]) C.1.1 C.1.2.1 dX10_stays_155 hl (by decide) rfl (fun ls hl => ?_)
      refine lv_iinc (v := x4 + (-1)) (lv' := [(4, .int (x4 + (-1))), (5, .int (x7 + 1)), (0, .ref (κ 4 + 112)), (1, .int x1), (2, .int x2), (3, .int x3), (6, .int x6), (7, .int x7)]) C.1.1 C.1.2.1 dX10_stays_157 hl (k := 5) rfl (by rfl) (by decide) rfl (fun ls hl => ?_)
      exact ww_X10_stays_160  C Z (lv_sub hl [2, 3, 4, 5, 0, 1, 6] rfl) h kI
    · refine lv_goto (tgt := 160) C.1.1 C.1.2.1 dX10_stays_148 (by decide) ?_
      exact ww_X10_stays_160  C Z (lv_sub hl [0, 1, 2, 3, 4, 5, 6] rfl) h kI
  · exact kR1 _ _ _ _ _ (yy_rt_of h) Z (lv_sub hl [7] rfl)
set_option maxHeartbeats 4000000 in
set_option maxRecDepth 100000 in
theorem ww_X10_stays_64 {x1 : Int32} {x2 : Int32} {x3 : Int32} {x4 : Int32} {x5 : Int32} {x6 : Int32} {x7 : Int32} {x8 : Int32} {res : ((Int32 × Int32 × Int32) ⊕ ((Unit) ⊕ (Int32))) × yy_T} {Q : State → Prop} (C : yy_C D κ p m c cX10_stays 9 s args RX10) (Z : yy_Z D κ ext A s.heap τ H locs) (hl : lv_has ls 9 [(0, .ref (κ 4 + 112)), (1, .int x1), (2, .int x2), (3, .int x3), (4, .int x4), (5, .int x5), (6, .int x6), (7, .int x7), (8, .int x8)]) (h : mm_X10_stays_64 x1 x2 x3 x4 x5 x6 x7 x8 τ = some res)
    (kI : ∀ (w : Int32 × Int32 × Int32) (τ1 : yy_T) (H1 : Heap) (locs1 : List Loc) (ls1 : Array Slot), res = (.inl w, τ1) → yy_Z D κ ext A s.heap τ1 H1 locs1 → lv_has ls1 9 [(0, .ref (κ 4 + 112)), (1, .int x1), (2, .int x2), (3, .int x3), (4, .int w.1), (5, .int w.2.1), (6, .int w.2.2)] → W p l e rm_X10_stays s m args below meth c H1 locs1 0 0 Q (F0 m 46 ls1 []))
    (kR1 : ∀ (w : Int32) (τ1 : yy_T) (H1 : Heap) (locs1 : List Loc) (ls1 : Array Slot), res = (.inr (.inr w), τ1) → yy_Z D κ ext A s.heap τ1 H1 locs1 → lv_has ls1 9 [(7, .int w)] → W p l e rm_X10_stays s m args below meth c H1 locs1 0 0 Q (F0 m 139 ls1 [])) : W p l e rm_X10_stays s m args below meth c H locs 0 0 Q (F0 m 64 ls []) := by
  unfold mm_X10_stays_64 at h
  refine yy_loop h (fun (w : Int32 × Int32) (τ : yy_T) => ∀ (H : Heap) (locs : List Loc) (ls : Array Slot), yy_Z D κ ext A s.heap τ H locs → lv_has ls 9 [(0, .ref (κ 4 + 112)), (1, .int x1), (2, .int x2), (3, .int x3), (4, .int x4), (5, .int x5), (6, .int x6), (7, .int w.1), (8, .int w.2)] → W p l e rm_X10_stays s m args below meth c H locs 0 0 Q (F0 m 64 ls [])) ?_ H locs ls Z hl
  intro w τ y hy hI hX H locs ls Z hl
  refine ww_X10_stays_64b  C Z hl hy (fun w τ H locs ls ey Z hl => hI w τ ey H locs ls Z hl) (fun w τ H locs ls ey Z hl => ?_)
  · have h := hX _ _ ey
    exact ww_X10_stays_133  C Z (lv_sub hl [0, 1, 2, 3, 4, 5, 6, 7] rfl) h kI kR1
set_option maxHeartbeats 4000000 in
set_option maxRecDepth 100000 in
theorem ww_X10_stays_46b {x1 : Int32} {x2 : Int32} {x3 : Int32} {x4 : Int32} {x5 : Int32} {x6 : Int32} {res : ((Int32 × Int32 × Int32) ⊕ ((Unit) ⊕ (Int32))) × yy_T} {Q : State → Prop} (C : yy_C D κ p m c cX10_stays 9 s args RX10) (Z : yy_Z D κ ext A s.heap τ H locs) (hl : lv_has ls 9 [(0, .ref (κ 4 + 112)), (1, .int x1), (2, .int x2), (3, .int x3), (4, .int x4), (5, .int x5), (6, .int x6)]) (h : mm_X10_stays_46b x1 x2 x3 x4 x5 x6 τ = some res)
    (kI : ∀ (w : Int32 × Int32 × Int32) (τ1 : yy_T) (H1 : Heap) (locs1 : List Loc) (ls1 : Array Slot), res = (.inl w, τ1) → yy_Z D κ ext A s.heap τ1 H1 locs1 → lv_has ls1 9 [(0, .ref (κ 4 + 112)), (1, .int x1), (2, .int x2), (3, .int x3), (4, .int w.1), (5, .int w.2.1), (6, .int w.2.2)] → W p l e rm_X10_stays s m args below meth c H1 locs1 0 0 Q (F0 m 46 ls1 []))
    (kR0 : ∀ (w : Unit) (τ1 : yy_T) (H1 : Heap) (locs1 : List Loc) (ls1 : Array Slot), res = (.inr (.inl w), τ1) → yy_Z D κ ext A s.heap τ1 H1 locs1 → lv_has ls1 9 [] → W p l e rm_X10_stays s m args below meth c H1 locs1 0 0 Q (F0 m 166 ls1 []))
    (kR1 : ∀ (w : Int32) (τ1 : yy_T) (H1 : Heap) (locs1 : List Loc) (ls1 : Array Slot), res = (.inr (.inr w), τ1) → yy_Z D κ ext A s.heap τ1 H1 locs1 → lv_has ls1 9 [(7, .int w)] → W p l e rm_X10_stays s m args below meth c H1 locs1 0 0 Q (F0 m 139 ls1 [])) : W p l e rm_X10_stays s m args below meth c H locs 0 0 Q (F0 m 46 ls []) := by
  unfold mm_X10_stays_46b at h
  refine lv_iload C.1.1 C.1.2.1 dX10_stays_46 (lv_at hl 6 rfl) ?_
  refine lv_iload_n C.1.1 C.1.2.1 dX10_stays_48 rfl (lv_at hl 2 rfl) ?_
  refine yy_icmp_gt (tgt := 166) C dX10_stays_49 (by decide) h (fun h => ?_) (fun h => ?_)
  · exact kR0 _ _ _ _ _ (yy_rt_of h) Z (lv_sub hl [] rfl)
  · refine lv_iload C.1.1 C.1.2.1 dX10_stays_52 (lv_at hl 4 rfl) ?_
    refine yy_if_le (tgt := 166) C dX10_stays_54 (by decide) h (fun h => ?_) (fun h => ?_)
    · exact kR0 _ _ _ _ _ (yy_rt_of h) Z (lv_sub hl [] rfl)
    · refine lv_iconst (v := (-1)) C.1.1 C.1.2.1 dX10_stays_57 (by decide) ?_
      refine lv_istore (lv' := [(7, .int (-1)), (0, .ref (κ 4 + 112)), (1, .int x1), (2, .int x2), (3, .int x3), (4, .int x4), (5, .int x5), (6, .int x6)]) C.1.1 C.1.2.1 dX10_stays_58 hl (by decide) rfl (fun ls hl => ?_)
      refine lv_iload C.1.1 C.1.2.1 dX10_stays_60 (lv_at hl 6 rfl) ?_
      refine lv_istore (lv' := [(8, .int x5), (7, .int (-1)), (0, .ref (κ 4 + 112)), (1, .int x1), (2, .int x2), (3, .int x3), (4, .int x4), (5, .int x5), (6, .int x6)]) C.1.1 C.1.2.1 dX10_stays_62 hl (by decide) rfl (fun ls hl => ?_)
      exact ww_X10_stays_64  C Z (lv_sub hl [2, 3, 4, 5, 6, 7, 8, 1, 0] rfl) h kI kR1
set_option maxHeartbeats 4000000 in
set_option maxRecDepth 100000 in
theorem ww_X10_stays_166 {res : Int32 × yy_T} (C : yy_C D κ p m c cX10_stays 9 s args RX10) (hr : meth.sig.returnType = (some .int)) (hlk : meth.locks = false) (Z : yy_Z D κ ext A s.heap τ H locs) (hl : lv_has ls 9 []) (h : mm_X10_stays_166  τ = some res) : W p l e rm_X10_stays s m args below meth c H locs 0 0 (MQ below (yy_Qi D κ ext A res) args s 0 0 A) (F0 m 166 ls []) := by
  unfold mm_X10_stays_166 at h
  refine lv_iconst (v := (-1)) C.1.1 C.1.2.1 dX10_stays_166 (by decide) ?_
  exact yy_iret C Z hr hlk rfl dX10_stays_167 h
set_option maxHeartbeats 4000000 in
set_option maxRecDepth 100000 in
theorem ww_X10_stays_139 {x7 : Int32} {res : Int32 × yy_T} (C : yy_C D κ p m c cX10_stays 9 s args RX10) (hr : meth.sig.returnType = (some .int)) (hlk : meth.locks = false) (Z : yy_Z D κ ext A s.heap τ H locs) (hl : lv_has ls 9 [(7, .int x7)]) (h : mm_X10_stays_139 x7 τ = some res) : W p l e rm_X10_stays s m args below meth c H locs 0 0 (MQ below (yy_Qi D κ ext A res) args s 0 0 A) (F0 m 139 ls []) := by
  unfold mm_X10_stays_139 at h
  refine lv_iload C.1.1 C.1.2.1 dX10_stays_139 (lv_at hl 0 rfl) ?_
  exact yy_iret C Z hr hlk rfl dX10_stays_141 h
set_option maxHeartbeats 4000000 in
set_option maxRecDepth 100000 in
theorem ww_X10_stays_46 {x1 : Int32} {x2 : Int32} {x3 : Int32} {x4 : Int32} {x5 : Int32} {x6 : Int32} {res : Int32 × yy_T} (C : yy_C D κ p m c cX10_stays 9 s args RX10) (hr : meth.sig.returnType = (some .int)) (hlk : meth.locks = false) (Z : yy_Z D κ ext A s.heap τ H locs) (hl : lv_has ls 9 [(0, .ref (κ 4 + 112)), (1, .int x1), (2, .int x2), (3, .int x3), (4, .int x4), (5, .int x5), (6, .int x6)]) (h : mm_X10_stays_46 x1 x2 x3 x4 x5 x6 τ = some res) : W p l e rm_X10_stays s m args below meth c H locs 0 0 (MQ below (yy_Qi D κ ext A res) args s 0 0 A) (F0 m 46 ls []) := by
  unfold mm_X10_stays_46 at h
  refine yy_loop h (fun (w : Int32 × Int32 × Int32) (τ : yy_T) => ∀ (H : Heap) (locs : List Loc) (ls : Array Slot), yy_Z D κ ext A s.heap τ H locs → lv_has ls 9 [(0, .ref (κ 4 + 112)), (1, .int x1), (2, .int x2), (3, .int x3), (4, .int w.1), (5, .int w.2.1), (6, .int w.2.2)] → W p l e rm_X10_stays s m args below meth c H locs 0 0 (MQ below (yy_Qi D κ ext A res) args s 0 0 A) (F0 m 46 ls [])) ?_ H locs ls Z hl
  intro w τ y hy hI hX H locs ls Z hl
  refine ww_X10_stays_46b  C Z hl hy (fun w τ H locs ls ey Z hl => hI w τ ey H locs ls Z hl) (fun w τ H locs ls ey Z hl => ?_) (fun w τ H locs ls ey Z hl => ?_)
  · have h := hX _ _ ey
    exact ww_X10_stays_166  C hr hlk Z (lv_sub hl [] rfl) h
  · have h := hX _ _ ey
    exact ww_X10_stays_139  C hr hlk Z (lv_sub hl [0] rfl) h
set_option maxHeartbeats 4000000 in
set_option maxRecDepth 100000 in
theorem ww_X10_stays_E {x1 : Int32} {x2 : Int32} {x3 : Int32} {res : Int32 × yy_T} (C : yy_C D κ p m c cX10_stays 9 s args RX10) (hr : meth.sig.returnType = (some .int)) (hlk : meth.locks = false) (Z : yy_Z D κ ext A s.heap τ H locs) (hl : lv_has ls 9 [(0, .ref (κ 4 + 112)), (1, .int x1), (2, .int x2), (3, .int x3)]) (h : mm_X10_stays x1 x2 x3 τ = some res) : W p l e rm_X10_stays s m args below meth c H locs 0 0 (MQ below (yy_Qi D κ ext A res) args s 0 0 A) (F0 m 0 ls []) := by
  unfold mm_X10_stays at h
  refine lv_aload_n C.1.1 C.1.2.1 dX10_stays_0 rfl (lv_at hl 0 rfl) ?_
  refine lv_iconst (v := 0) C.1.1 C.1.2.1 dX10_stays_1 (by decide) ?_
  refine yp_X10_0 C Z tw_792 dX10_stays_2 h (fun H locs τ Z h => ?_)
  refine lv_aload_n C.1.1 C.1.2.1 dX10_stays_5 rfl (lv_at hl 0 rfl) ?_
  refine lv_iload_n C.1.1 C.1.2.1 dX10_stays_6 rfl (lv_at hl 1 rfl) ?_
  refine lv_iload_n C.1.1 C.1.2.1 dX10_stays_7 rfl (lv_at hl 3 rfl) ?_
  refine yy_cVi0 (As := [.int x1, .int x3]) (rest := []) (id := 112) (ci := 10) (q := (RX10, TX10, 20)) C Z (ss_X10_areLines l D κ ext x1 x3) (by decide) (yy_ent_112 _) rfl tw_980 kw_X10_areLines ⟨⟨rfl, rfl⟩, ⟨Nat.le_of_ble_eq_true rfl, Nat.le_of_ble_eq_true rfl⟩, Nat.le_of_ble_eq_true rfl, Nat.le_of_ble_eq_true rfl⟩ hl.1 rfl (Nat.le_of_ble_eq_true rfl) dX10_stays_8 h (fun r1 τ H locs Z h => ?_)
  refine yy_if_eq (tgt := 30) C dX10_stays_11 (by decide) h (fun h => ?_) (fun h => ?_)
  · refine lv_iconst (v := (-1)) C.1.1 C.1.2.1 dX10_stays_30 (by decide) ?_
    exact yy_iret C Z hr hlk rfl dX10_stays_31 h
  · refine lv_iload_n C.1.1 C.1.2.1 dX10_stays_14 rfl (lv_at hl 2 rfl) ?_
    refine lv_iconst (v := 0) C.1.1 C.1.2.1 dX10_stays_15 (by decide) ?_
    refine lv_aload_n C.1.1 C.1.2.1 dX10_stays_16 rfl (lv_at hl 0 rfl) ?_
    refine lv_iconst (v := 0) C.1.1 C.1.2.1 dX10_stays_17 (by decide) ?_
    refine lv_iload_n C.1.1 C.1.2.1 dX10_stays_18 rfl (lv_at hl 1 rfl) ?_
    refine yy_cVi0 (As := [.int 0, .int x1]) (rest := [.int 0, .int x2]) (id := 112) (ci := 10) (q := (RX10, TX10, 20)) C Z (ss_X10_wordsOf l D κ ext 0 x1) (by decide) (yy_ent_112 _) rfl tw_910 kw_X10_wordsOf ⟨⟨rfl, rfl⟩, ⟨Nat.le_of_ble_eq_true rfl, Nat.le_of_ble_eq_true rfl⟩, Nat.le_of_ble_eq_true rfl, Nat.le_of_ble_eq_true rfl⟩ hl.1 rfl (Nat.le_of_ble_eq_true rfl) dX10_stays_19 h (fun r2 τ H locs Z h => ?_)
    refine lv_iconst (v := 1) C.1.1 C.1.2.1 dX10_stays_22 (by decide) ?_
    refine lv_isub C.1.1 C.1.2.1 dX10_stays_23 ?_
    refine yy_cSi0 (As := [.int x2, .int 0, .int (r2 - 1)]) (rest := [])  C Z (ss_X10_isIn l D κ ext x2 0 (r2 - 1)) tw_860 kw_X10_isIn ⟨⟨rfl, rfl⟩, ⟨Nat.le_of_ble_eq_true rfl, Nat.le_of_ble_eq_true rfl⟩, Nat.le_of_ble_eq_true rfl, Nat.le_of_ble_eq_true rfl⟩ hl.1 rfl (Nat.le_of_ble_eq_true rfl) dX10_stays_24 h (fun r3 τ H locs Z h => ?_)
    refine yy_if_ne (tgt := 32) C dX10_stays_27 (by decide) h (fun h => ?_) (fun h => ?_)
    · refine lv_aload_n C.1.1 C.1.2.1 dX10_stays_32 rfl (lv_at hl 0 rfl) ?_
      refine lv_iload_n C.1.1 C.1.2.1 dX10_stays_33 rfl (lv_at hl 1 rfl) ?_
      refine lv_iload_n C.1.1 C.1.2.1 dX10_stays_34 rfl (lv_at hl 3 rfl) ?_
      refine yy_cVi0 (As := [.int x1, .int x3]) (rest := []) (id := 112) (ci := 10) (q := (RX10, TX10, 20)) C Z (ss_X10_sharedOf l D κ ext x1 x3) (by decide) (yy_ent_112 _) rfl tw_945 kw_X10_sharedOf ⟨⟨rfl, rfl⟩, ⟨Nat.le_of_ble_eq_true rfl, Nat.le_of_ble_eq_true rfl⟩, Nat.le_of_ble_eq_true rfl, Nat.le_of_ble_eq_true rfl⟩ hl.1 rfl (Nat.le_of_ble_eq_true rfl) dX10_stays_35 h (fun r4 τ H locs Z h => ?_)
      refine lv_istore (lv' := [(4, .int r4), (0, .ref (κ 4 + 112)), (1, .int x1), (2, .int x2), (3, .int x3)]) C.1.1 C.1.2.1 dX10_stays_38 hl (by decide) rfl (fun ls hl => ?_)
      refine lv_iconst (v := 0) C.1.1 C.1.2.1 dX10_stays_40 (by decide) ?_
      refine lv_istore (lv' := [(5, .int 0), (4, .int r4), (0, .ref (κ 4 + 112)), (1, .int x1), (2, .int x2), (3, .int x3)]) C.1.1 C.1.2.1 dX10_stays_41 hl (by decide) rfl (fun ls hl => ?_)
      refine lv_iconst (v := 0) C.1.1 C.1.2.1 dX10_stays_43 (by decide) ?_
      refine lv_istore (lv' := [(6, .int 0), (5, .int 0), (4, .int r4), (0, .ref (κ 4 + 112)), (1, .int x1), (2, .int x2), (3, .int x3)]) C.1.1 C.1.2.1 dX10_stays_44 hl (by decide) rfl (fun ls hl => ?_)
      exact ww_X10_stays_46  C hr hlk Z (lv_sub hl [3, 4, 5, 6, 2, 1, 0] rfl) h
    · refine lv_iconst (v := (-1)) C.1.1 C.1.2.1 dX10_stays_30 (by decide) ?_
      exact yy_iret C Z hr hlk rfl dX10_stays_31 h
set_option maxHeartbeats 4000000 in
set_option maxRecDepth 100000 in
theorem ss_X10_stays (l : Launch) (D : va_G) (κ : Nat → Nat) (ext : va_W) (x1 : Int32) (x2 : Int32) (x3 : Int32) : yy_Mi l D κ ext yX10_stays cX10_stays 9 (some .int) rm_X10_stays 0 0 [.ref (κ 4 + 112), .int x1, .int x2, .int x3] (mm_X10_stays x1 x2 x3) := by
  intro sz τ res h
  refine yy_ofW (by decide) (Nat.le_of_ble_eq_true rfl) ?_
  intro p e s m args below meth c ls hsz E
  obtain ⟨C, hr, hlk, Z, hl⟩ := E
  subst hsz
  exact ww_X10_stays_E  C hr hlk Z hl h
/-! MovedLinesModel.copiesLine(II)V -/
noncomputable def mm_X10_copiesLine_2b (x1 : Int32) (x2 : Int32) (x3 : Int32) : yy_M ((Int32) ⊕ ((Unit))) :=
  yy_br (9 ≤ x3) (yy_rt (.inr ())) (yy_rA 114 254 (x2 + x3) fun v1 => yy_wA 114 254 (x1 + x3) v1 (yy_rt (.inl (x3 + 1))))
noncomputable def mm_X10_copiesLine_30 : yy_M Unit :=
  yy_rt ()
noncomputable def mm_X10_copiesLine_2 (x1 : Int32) (x2 : Int32) (x3 : Int32) : yy_M Unit :=
  yy_cl (yy_lp (fun (w : Int32) => mm_X10_copiesLine_2b x1 x2 w) x3) (fun w => mm_X10_copiesLine_30 )
noncomputable def mm_X10_copiesLine (x1 : Int32) (x2 : Int32) : yy_M Unit :=
  mm_X10_copiesLine_2 x1 x2 0
theorem kw_X10_copiesLine : yy_wV RX10 yX10_copiesLine cX10_copiesLine 4 none 2 := ⟨⟨tw_1006, tw_45, tw_61, tw_1007⟩, by decide +kernel⟩
abbrev rm_X10_copiesLine : Room := { frames := 0, cells := 0, slots := 0, locals := 0 }
set_option maxHeartbeats 4000000 in
set_option maxRecDepth 100000 in
theorem ww_X10_copiesLine_2b {x1 : Int32} {x2 : Int32} {x3 : Int32} {res : ((Int32) ⊕ ((Unit))) × yy_T} {Q : State → Prop} (C : yy_C D κ p m c cX10_copiesLine 4 s args RX10) (Z : yy_Z D κ ext A s.heap τ H locs) (hl : lv_has ls 4 [(0, .ref (κ 4 + 112)), (1, .int x1), (2, .int x2), (3, .int x3)]) (h : mm_X10_copiesLine_2b x1 x2 x3 τ = some res)
    (kI : ∀ (w : Int32) (τ1 : yy_T) (H1 : Heap) (locs1 : List Loc) (ls1 : Array Slot), res = (.inl w, τ1) → yy_Z D κ ext A s.heap τ1 H1 locs1 → lv_has ls1 4 [(0, .ref (κ 4 + 112)), (1, .int x1), (2, .int x2), (3, .int w)] → W p l e rm_X10_copiesLine s m args below meth c H1 locs1 0 0 Q (F0 m 2 ls1 []))
    (kR0 : ∀ (w : Unit) (τ1 : yy_T) (H1 : Heap) (locs1 : List Loc) (ls1 : Array Slot), res = (.inr w, τ1) → yy_Z D κ ext A s.heap τ1 H1 locs1 → lv_has ls1 4 [] → W p l e rm_X10_copiesLine s m args below meth c H1 locs1 0 0 Q (F0 m 30 ls1 [])) : W p l e rm_X10_copiesLine s m args below meth c H locs 0 0 Q (F0 m 2 ls []) := by
  unfold mm_X10_copiesLine_2b at h
  refine lv_iload_n C.1.1 C.1.2.1 dX10_copiesLine_2 rfl (lv_at hl 3 rfl) ?_
  refine lv_bipush (v := 9) C.1.1 C.1.2.1 dX10_copiesLine_3 (by decide) ?_
  refine yy_icmp_ge (tgt := 30) C dX10_copiesLine_5 (by decide) h (fun h => ?_) (fun h => ?_)
  · exact kR0 _ _ _ _ _ (yy_rt_of h) Z (lv_sub hl [] rfl)
  · refine lv_aload_n C.1.1 C.1.2.1 dX10_copiesLine_8 rfl (lv_at hl 0 rfl) ?_
    refine yg_X10_3 C Z tw_795 dX10_copiesLine_9 ?_
    refine lv_iload_n C.1.1 C.1.2.1 dX10_copiesLine_12 rfl (lv_at hl 1 rfl) ?_
    refine lv_iload_n C.1.1 C.1.2.1 dX10_copiesLine_13 rfl (lv_at hl 3 rfl) ?_
    refine lv_iadd C.1.1 C.1.2.1 dX10_copiesLine_14 ?_
    refine lv_aload_n C.1.1 C.1.2.1 dX10_copiesLine_15 rfl (lv_at hl 0 rfl) ?_
    refine yg_X10_3 C Z tw_795 dX10_copiesLine_16 ?_
    refine lv_iload_n C.1.1 C.1.2.1 dX10_copiesLine_19 rfl (lv_at hl 2 rfl) ?_
    refine lv_iload_n C.1.1 C.1.2.1 dX10_copiesLine_20 rfl (lv_at hl 3 rfl) ?_
    refine lv_iadd C.1.1 C.1.2.1 dX10_copiesLine_21 ?_
    refine yy_iald C Z (by decide) rfl dX10_copiesLine_22 h (fun v1 h => ?_)
    refine yy_iast C Z (by decide) rfl dX10_copiesLine_23 h (fun H locs τ Z h => ?_)
    refine lv_iinc (v := x3 + 1) (lv' := [(3, .int (x3 + 1)), (0, .ref (κ 4 + 112)), (1, .int x1), (2, .int x2)]) C.1.1 C.1.2.1 dX10_copiesLine_24 hl (k := 3) rfl (by rfl) (by decide) rfl (fun ls hl => ?_)
    refine lv_goto (tgt := 2) C.1.1 C.1.2.1 dX10_copiesLine_27 (by decide) ?_
    exact kI _ _ _ _ _ (yy_rt_of h) Z (lv_sub hl [1, 2, 3, 0] rfl)
set_option maxHeartbeats 4000000 in
set_option maxRecDepth 100000 in
theorem ww_X10_copiesLine_30 {res : Unit × yy_T} (C : yy_C D κ p m c cX10_copiesLine 4 s args RX10) (hr : meth.sig.returnType = none) (hlk : meth.locks = false) (Z : yy_Z D κ ext A s.heap τ H locs) (hl : lv_has ls 4 []) (h : mm_X10_copiesLine_30  τ = some res) : W p l e rm_X10_copiesLine s m args below meth c H locs 0 0 (MQ below (yy_Qv D κ ext A res) args s 0 0 A) (F0 m 30 ls []) := by
  unfold mm_X10_copiesLine_30 at h
  exact yy_vret C Z hr hlk dX10_copiesLine_30 h
set_option maxHeartbeats 4000000 in
set_option maxRecDepth 100000 in
theorem ww_X10_copiesLine_2 {x1 : Int32} {x2 : Int32} {x3 : Int32} {res : Unit × yy_T} (C : yy_C D κ p m c cX10_copiesLine 4 s args RX10) (hr : meth.sig.returnType = none) (hlk : meth.locks = false) (Z : yy_Z D κ ext A s.heap τ H locs) (hl : lv_has ls 4 [(0, .ref (κ 4 + 112)), (1, .int x1), (2, .int x2), (3, .int x3)]) (h : mm_X10_copiesLine_2 x1 x2 x3 τ = some res) : W p l e rm_X10_copiesLine s m args below meth c H locs 0 0 (MQ below (yy_Qv D κ ext A res) args s 0 0 A) (F0 m 2 ls []) := by
  unfold mm_X10_copiesLine_2 at h
  refine yy_loop h (fun (w : Int32) (τ : yy_T) => ∀ (H : Heap) (locs : List Loc) (ls : Array Slot), yy_Z D κ ext A s.heap τ H locs → lv_has ls 4 [(0, .ref (κ 4 + 112)), (1, .int x1), (2, .int x2), (3, .int w)] → W p l e rm_X10_copiesLine s m args below meth c H locs 0 0 (MQ below (yy_Qv D κ ext A res) args s 0 0 A) (F0 m 2 ls [])) ?_ H locs ls Z hl
  intro w τ y hy hI hX H locs ls Z hl
  refine ww_X10_copiesLine_2b  C Z hl hy (fun w τ H locs ls ey Z hl => hI w τ ey H locs ls Z hl) (fun w τ H locs ls ey Z hl => ?_)
  · have h := hX _ _ ey
    exact ww_X10_copiesLine_30  C hr hlk Z (lv_sub hl [] rfl) h
set_option maxHeartbeats 4000000 in
set_option maxRecDepth 100000 in
theorem ww_X10_copiesLine_E {x1 : Int32} {x2 : Int32} {res : Unit × yy_T} (C : yy_C D κ p m c cX10_copiesLine 4 s args RX10) (hr : meth.sig.returnType = none) (hlk : meth.locks = false) (Z : yy_Z D κ ext A s.heap τ H locs) (hl : lv_has ls 4 [(0, .ref (κ 4 + 112)), (1, .int x1), (2, .int x2)]) (h : mm_X10_copiesLine x1 x2 τ = some res) : W p l e rm_X10_copiesLine s m args below meth c H locs 0 0 (MQ below (yy_Qv D κ ext A res) args s 0 0 A) (F0 m 0 ls []) := by
  unfold mm_X10_copiesLine at h
  refine lv_iconst (v := 0) C.1.1 C.1.2.1 dX10_copiesLine_0 (by decide) ?_
  refine lv_istore_n (lv' := [(3, .int 0), (0, .ref (κ 4 + 112)), (1, .int x1), (2, .int x2)]) C.1.1 C.1.2.1 dX10_copiesLine_1 rfl hl (by decide) rfl (fun ls hl => ?_)
  exact ww_X10_copiesLine_2  C hr hlk Z (lv_sub hl [1, 2, 3, 0] rfl) h
set_option maxHeartbeats 4000000 in
set_option maxRecDepth 100000 in
theorem ss_X10_copiesLine (l : Launch) (D : va_G) (κ : Nat → Nat) (ext : va_W) (x1 : Int32) (x2 : Int32) : yy_Mv l D κ ext yX10_copiesLine cX10_copiesLine 4 none rm_X10_copiesLine 0 0 [.ref (κ 4 + 112), .int x1, .int x2] (mm_X10_copiesLine x1 x2) := by
  intro sz τ res h
  refine yy_ofW (by decide) (Nat.le_of_ble_eq_true rfl) ?_
  intro p e s m args below meth c ls hsz E
  obtain ⟨C, hr, hlk, Z, hl⟩ := E
  subst hsz
  exact ww_X10_copiesLine_E  C hr hlk Z hl h
/-! MovedLinesModel.snap()V -/
noncomputable def mm_X10_snap_52b (x1 : Int32) : yy_M ((Int32) ⊕ ((Unit))) :=
  yy_br (254 ≤ x1) (yy_rt (.inr ())) (yy_rF 112 6 fun v2 => yy_rA 114 254 x1 fun v3 => yy_wA 116 2540 ((254 * v2) + x1) v3 (yy_rt (.inl (x1 + 1))))
noncomputable def mm_X10_snap_86 : yy_M Unit :=
  yy_rF 112 6 fun v4 => yy_wF 112 6 (v4 + 1) (yy_rt ())
noncomputable def mm_X10_snap_52 (x1 : Int32) : yy_M Unit :=
  yy_cl (yy_lp (fun (w : Int32) => mm_X10_snap_52b w) x1) (fun w => mm_X10_snap_86 )
noncomputable def mm_X10_snap_50 : yy_M Unit :=
  mm_X10_snap_52 0
noncomputable def mm_X10_snap_11b (x1 : Int32) : yy_M ((Int32) ⊕ ((Unit))) :=
  yy_br (2286 ≤ x1) (yy_rt (.inr ())) (yy_rA 116 2540 (x1 + 254) fun v5 => yy_wA 116 2540 x1 v5 (yy_rt (.inl (x1 + 1))))
noncomputable def mm_X10_snap_40 : yy_M Unit :=
  yy_rF 112 6 fun v6 => yy_wF 112 6 (v6 - 1) (mm_X10_snap_50 )
noncomputable def mm_X10_snap_11 (x1 : Int32) : yy_M Unit :=
  yy_cl (yy_lp (fun (w : Int32) => mm_X10_snap_11b w) x1) (fun w => mm_X10_snap_40 )
noncomputable def mm_X10_snap : yy_M Unit :=
  yy_rF 112 6 fun v1 => yy_br (v1 = 10) (mm_X10_snap_11 0) (mm_X10_snap_50 )
theorem kw_X10_snap : yy_wV RX10 yX10_snap cX10_snap 2 none 0 := ⟨⟨tw_1014, tw_46, tw_61, tw_1015⟩, by decide +kernel⟩
abbrev rm_X10_snap : Room := { frames := 0, cells := 0, slots := 0, locals := 0 }
set_option maxHeartbeats 4000000 in
set_option maxRecDepth 100000 in
theorem ww_X10_snap_52b {x1 : Int32} {res : ((Int32) ⊕ ((Unit))) × yy_T} {Q : State → Prop} (C : yy_C D κ p m c cX10_snap 2 s args RX10) (Z : yy_Z D κ ext A s.heap τ H locs) (hl : lv_has ls 2 [(0, .ref (κ 4 + 112)), (1, .int x1)]) (h : mm_X10_snap_52b x1 τ = some res)
    (kI : ∀ (w : Int32) (τ1 : yy_T) (H1 : Heap) (locs1 : List Loc) (ls1 : Array Slot), res = (.inl w, τ1) → yy_Z D κ ext A s.heap τ1 H1 locs1 → lv_has ls1 2 [(0, .ref (κ 4 + 112)), (1, .int w)] → W p l e rm_X10_snap s m args below meth c H1 locs1 0 0 Q (F0 m 52 ls1 []))
    (kR0 : ∀ (w : Unit) (τ1 : yy_T) (H1 : Heap) (locs1 : List Loc) (ls1 : Array Slot), res = (.inr w, τ1) → yy_Z D κ ext A s.heap τ1 H1 locs1 → lv_has ls1 2 [(0, .ref (κ 4 + 112))] → W p l e rm_X10_snap s m args below meth c H1 locs1 0 0 Q (F0 m 86 ls1 [])) : W p l e rm_X10_snap s m args below meth c H locs 0 0 Q (F0 m 52 ls []) := by
  unfold mm_X10_snap_52b at h
  refine lv_iload_n C.1.1 C.1.2.1 dX10_snap_52 rfl (lv_at hl 1 rfl) ?_
  refine lv_sipush (v := 254) C.1.1 C.1.2.1 dX10_snap_53 (by decide) ?_
  refine yy_icmp_ge (tgt := 86) C dX10_snap_56 (by decide) h (fun h => ?_) (fun h => ?_)
  · exact kR0 _ _ _ _ _ (yy_rt_of h) Z (lv_sub hl [0] rfl)
  · refine lv_aload_n C.1.1 C.1.2.1 dX10_snap_59 rfl (lv_at hl 0 rfl) ?_
    refine yg_X10_5 C Z tw_797 dX10_snap_60 ?_
    refine lv_sipush (v := 254) C.1.1 C.1.2.1 dX10_snap_63 (by decide) ?_
    refine lv_aload_n C.1.1 C.1.2.1 dX10_snap_66 rfl (lv_at hl 0 rfl) ?_
    refine yg_X10_6 C Z tw_798 dX10_snap_67 h (fun v2 h => ?_)
    refine lv_imul C.1.1 C.1.2.1 dX10_snap_70 ?_
    refine lv_iload_n C.1.1 C.1.2.1 dX10_snap_71 rfl (lv_at hl 1 rfl) ?_
    refine lv_iadd C.1.1 C.1.2.1 dX10_snap_72 ?_
    refine lv_aload_n C.1.1 C.1.2.1 dX10_snap_73 rfl (lv_at hl 0 rfl) ?_
    refine yg_X10_3 C Z tw_795 dX10_snap_74 ?_
    refine lv_iload_n C.1.1 C.1.2.1 dX10_snap_77 rfl (lv_at hl 1 rfl) ?_
    refine yy_iald C Z (by decide) rfl dX10_snap_78 h (fun v3 h => ?_)
    refine yy_iast C Z (by decide) rfl dX10_snap_79 h (fun H locs τ Z h => ?_)
    refine lv_iinc (v := x1 + 1) (lv' := [(1, .int (x1 + 1)), (0, .ref (κ 4 + 112))]) C.1.1 C.1.2.1 dX10_snap_80 hl (k := 1) rfl (by rfl) (by decide) rfl (fun ls hl => ?_)
    refine lv_goto (tgt := 52) C.1.1 C.1.2.1 dX10_snap_83 (by decide) ?_
    exact kI _ _ _ _ _ (yy_rt_of h) Z (lv_sub hl [1, 0] rfl)
set_option maxHeartbeats 4000000 in
set_option maxRecDepth 100000 in
theorem ww_X10_snap_86 {res : Unit × yy_T} (C : yy_C D κ p m c cX10_snap 2 s args RX10) (hr : meth.sig.returnType = none) (hlk : meth.locks = false) (Z : yy_Z D κ ext A s.heap τ H locs) (hl : lv_has ls 2 [(0, .ref (κ 4 + 112))]) (h : mm_X10_snap_86  τ = some res) : W p l e rm_X10_snap s m args below meth c H locs 0 0 (MQ below (yy_Qv D κ ext A res) args s 0 0 A) (F0 m 86 ls []) := by
  unfold mm_X10_snap_86 at h
  refine lv_aload_n C.1.1 C.1.2.1 dX10_snap_86 rfl (lv_at hl 0 rfl) ?_
  refine lv_dup C.1.1 C.1.2.1 dX10_snap_87 rfl ?_
  refine yg_X10_6 C Z tw_798 dX10_snap_88 h (fun v4 h => ?_)
  refine lv_iconst (v := 1) C.1.1 C.1.2.1 dX10_snap_91 (by decide) ?_
  refine lv_iadd C.1.1 C.1.2.1 dX10_snap_92 ?_
  refine yp_X10_6 C Z tw_798 dX10_snap_93 h (fun H locs τ Z h => ?_)
  exact yy_vret C Z hr hlk dX10_snap_96 h
set_option maxHeartbeats 4000000 in
set_option maxRecDepth 100000 in
theorem ww_X10_snap_52 {x1 : Int32} {res : Unit × yy_T} (C : yy_C D κ p m c cX10_snap 2 s args RX10) (hr : meth.sig.returnType = none) (hlk : meth.locks = false) (Z : yy_Z D κ ext A s.heap τ H locs) (hl : lv_has ls 2 [(0, .ref (κ 4 + 112)), (1, .int x1)]) (h : mm_X10_snap_52 x1 τ = some res) : W p l e rm_X10_snap s m args below meth c H locs 0 0 (MQ below (yy_Qv D κ ext A res) args s 0 0 A) (F0 m 52 ls []) := by
  unfold mm_X10_snap_52 at h
  refine yy_loop h (fun (w : Int32) (τ : yy_T) => ∀ (H : Heap) (locs : List Loc) (ls : Array Slot), yy_Z D κ ext A s.heap τ H locs → lv_has ls 2 [(0, .ref (κ 4 + 112)), (1, .int w)] → W p l e rm_X10_snap s m args below meth c H locs 0 0 (MQ below (yy_Qv D κ ext A res) args s 0 0 A) (F0 m 52 ls [])) ?_ H locs ls Z hl
  intro w τ y hy hI hX H locs ls Z hl
  refine ww_X10_snap_52b  C Z hl hy (fun w τ H locs ls ey Z hl => hI w τ ey H locs ls Z hl) (fun w τ H locs ls ey Z hl => ?_)
  · have h := hX _ _ ey
    exact ww_X10_snap_86  C hr hlk Z (lv_sub hl [0] rfl) h
set_option maxHeartbeats 4000000 in
set_option maxRecDepth 100000 in
theorem ww_X10_snap_50 {res : Unit × yy_T} (C : yy_C D κ p m c cX10_snap 2 s args RX10) (hr : meth.sig.returnType = none) (hlk : meth.locks = false) (Z : yy_Z D κ ext A s.heap τ H locs) (hl : lv_has ls 2 [(0, .ref (κ 4 + 112))]) (h : mm_X10_snap_50  τ = some res) : W p l e rm_X10_snap s m args below meth c H locs 0 0 (MQ below (yy_Qv D κ ext A res) args s 0 0 A) (F0 m 50 ls []) := by
  unfold mm_X10_snap_50 at h
  refine lv_iconst (v := 0) C.1.1 C.1.2.1 dX10_snap_50 (by decide) ?_
  refine lv_istore_n (lv' := [(1, .int 0), (0, .ref (κ 4 + 112))]) C.1.1 C.1.2.1 dX10_snap_51 rfl hl (by decide) rfl (fun ls hl => ?_)
  exact ww_X10_snap_52  C hr hlk Z (lv_sub hl [1, 0] rfl) h
set_option maxHeartbeats 4000000 in
set_option maxRecDepth 100000 in
theorem ww_X10_snap_11b {x1 : Int32} {res : ((Int32) ⊕ ((Unit))) × yy_T} {Q : State → Prop} (C : yy_C D κ p m c cX10_snap 2 s args RX10) (Z : yy_Z D κ ext A s.heap τ H locs) (hl : lv_has ls 2 [(0, .ref (κ 4 + 112)), (1, .int x1)]) (h : mm_X10_snap_11b x1 τ = some res)
    (kI : ∀ (w : Int32) (τ1 : yy_T) (H1 : Heap) (locs1 : List Loc) (ls1 : Array Slot), res = (.inl w, τ1) → yy_Z D κ ext A s.heap τ1 H1 locs1 → lv_has ls1 2 [(0, .ref (κ 4 + 112)), (1, .int w)] → W p l e rm_X10_snap s m args below meth c H1 locs1 0 0 Q (F0 m 11 ls1 []))
    (kR0 : ∀ (w : Unit) (τ1 : yy_T) (H1 : Heap) (locs1 : List Loc) (ls1 : Array Slot), res = (.inr w, τ1) → yy_Z D κ ext A s.heap τ1 H1 locs1 → lv_has ls1 2 [(0, .ref (κ 4 + 112))] → W p l e rm_X10_snap s m args below meth c H1 locs1 0 0 Q (F0 m 40 ls1 [])) : W p l e rm_X10_snap s m args below meth c H locs 0 0 Q (F0 m 11 ls []) := by
  unfold mm_X10_snap_11b at h
  refine lv_iload_n C.1.1 C.1.2.1 dX10_snap_11 rfl (lv_at hl 1 rfl) ?_
  refine lv_sipush (v := 2286) C.1.1 C.1.2.1 dX10_snap_12 (by decide) ?_
  refine yy_icmp_ge (tgt := 40) C dX10_snap_15 (by decide) h (fun h => ?_) (fun h => ?_)
  · exact kR0 _ _ _ _ _ (yy_rt_of h) Z (lv_sub hl [0] rfl)
  · refine lv_aload_n C.1.1 C.1.2.1 dX10_snap_18 rfl (lv_at hl 0 rfl) ?_
    refine yg_X10_5 C Z tw_797 dX10_snap_19 ?_
    refine lv_iload_n C.1.1 C.1.2.1 dX10_snap_22 rfl (lv_at hl 1 rfl) ?_
    refine lv_aload_n C.1.1 C.1.2.1 dX10_snap_23 rfl (lv_at hl 0 rfl) ?_
    refine yg_X10_5 C Z tw_797 dX10_snap_24 ?_
    refine lv_iload_n C.1.1 C.1.2.1 dX10_snap_27 rfl (lv_at hl 1 rfl) ?_
    refine lv_sipush (v := 254) C.1.1 C.1.2.1 dX10_snap_28 (by decide) ?_
    refine lv_iadd C.1.1 C.1.2.1 dX10_snap_31 ?_
    refine yy_iald C Z (by decide) rfl dX10_snap_32 h (fun v5 h => ?_)
    refine yy_iast C Z (by decide) rfl dX10_snap_33 h (fun H locs τ Z h => ?_)
    refine lv_iinc (v := x1 + 1) (lv' := [(1, .int (x1 + 1)), (0, .ref (κ 4 + 112))]) C.1.1 C.1.2.1 dX10_snap_34 hl (k := 1) rfl (by rfl) (by decide) rfl (fun ls hl => ?_)
    refine lv_goto (tgt := 11) C.1.1 C.1.2.1 dX10_snap_37 (by decide) ?_
    exact kI _ _ _ _ _ (yy_rt_of h) Z (lv_sub hl [1, 0] rfl)
set_option maxHeartbeats 4000000 in
set_option maxRecDepth 100000 in
theorem ww_X10_snap_40 {res : Unit × yy_T} (C : yy_C D κ p m c cX10_snap 2 s args RX10) (hr : meth.sig.returnType = none) (hlk : meth.locks = false) (Z : yy_Z D κ ext A s.heap τ H locs) (hl : lv_has ls 2 [(0, .ref (κ 4 + 112))]) (h : mm_X10_snap_40  τ = some res) : W p l e rm_X10_snap s m args below meth c H locs 0 0 (MQ below (yy_Qv D κ ext A res) args s 0 0 A) (F0 m 40 ls []) := by
  unfold mm_X10_snap_40 at h
  refine lv_aload_n C.1.1 C.1.2.1 dX10_snap_40 rfl (lv_at hl 0 rfl) ?_
  refine lv_dup C.1.1 C.1.2.1 dX10_snap_41 rfl ?_
  refine yg_X10_6 C Z tw_798 dX10_snap_42 h (fun v6 h => ?_)
  refine lv_iconst (v := 1) C.1.1 C.1.2.1 dX10_snap_45 (by decide) ?_
  refine lv_isub C.1.1 C.1.2.1 dX10_snap_46 ?_
  refine yp_X10_6 C Z tw_798 dX10_snap_47 h (fun H locs τ Z h => ?_)
  exact ww_X10_snap_50  C hr hlk Z (lv_sub hl [0] rfl) h
set_option maxHeartbeats 4000000 in
set_option maxRecDepth 100000 in
theorem ww_X10_snap_11 {x1 : Int32} {res : Unit × yy_T} (C : yy_C D κ p m c cX10_snap 2 s args RX10) (hr : meth.sig.returnType = none) (hlk : meth.locks = false) (Z : yy_Z D κ ext A s.heap τ H locs) (hl : lv_has ls 2 [(0, .ref (κ 4 + 112)), (1, .int x1)]) (h : mm_X10_snap_11 x1 τ = some res) : W p l e rm_X10_snap s m args below meth c H locs 0 0 (MQ below (yy_Qv D κ ext A res) args s 0 0 A) (F0 m 11 ls []) := by
  unfold mm_X10_snap_11 at h
  refine yy_loop h (fun (w : Int32) (τ : yy_T) => ∀ (H : Heap) (locs : List Loc) (ls : Array Slot), yy_Z D κ ext A s.heap τ H locs → lv_has ls 2 [(0, .ref (κ 4 + 112)), (1, .int w)] → W p l e rm_X10_snap s m args below meth c H locs 0 0 (MQ below (yy_Qv D κ ext A res) args s 0 0 A) (F0 m 11 ls [])) ?_ H locs ls Z hl
  intro w τ y hy hI hX H locs ls Z hl
  refine ww_X10_snap_11b  C Z hl hy (fun w τ H locs ls ey Z hl => hI w τ ey H locs ls Z hl) (fun w τ H locs ls ey Z hl => ?_)
  · have h := hX _ _ ey
    exact ww_X10_snap_40  C hr hlk Z (lv_sub hl [0] rfl) h
set_option maxHeartbeats 4000000 in
set_option maxRecDepth 100000 in
theorem ww_X10_snap_E {res : Unit × yy_T} (C : yy_C D κ p m c cX10_snap 2 s args RX10) (hr : meth.sig.returnType = none) (hlk : meth.locks = false) (Z : yy_Z D κ ext A s.heap τ H locs) (hl : lv_has ls 2 [(0, .ref (κ 4 + 112))]) (h : mm_X10_snap  τ = some res) : W p l e rm_X10_snap s m args below meth c H locs 0 0 (MQ below (yy_Qv D κ ext A res) args s 0 0 A) (F0 m 0 ls []) := by
  unfold mm_X10_snap at h
  refine lv_aload_n C.1.1 C.1.2.1 dX10_snap_0 rfl (lv_at hl 0 rfl) ?_
  refine yg_X10_6 C Z tw_798 dX10_snap_1 h (fun v1 h => ?_)
  refine lv_bipush (v := 10) C.1.1 C.1.2.1 dX10_snap_4 (by decide) ?_
  refine yy_icmp_ne (tgt := 50) C dX10_snap_6 (by decide) h (fun h => ?_) (fun h => ?_)
  · exact ww_X10_snap_50  C hr hlk Z (lv_sub hl [0] rfl) h
  · refine lv_iconst (v := 0) C.1.1 C.1.2.1 dX10_snap_9 (by decide) ?_
    refine lv_istore_n (lv' := [(1, .int 0), (0, .ref (κ 4 + 112))]) C.1.1 C.1.2.1 dX10_snap_10 rfl hl (by decide) rfl (fun ls hl => ?_)
    exact ww_X10_snap_11  C hr hlk Z (lv_sub hl [1, 0] rfl) h
set_option maxHeartbeats 4000000 in
set_option maxRecDepth 100000 in
theorem ss_X10_snap (l : Launch) (D : va_G) (κ : Nat → Nat) (ext : va_W) : yy_Mv l D κ ext yX10_snap cX10_snap 2 none rm_X10_snap 0 0 [.ref (κ 4 + 112)] (mm_X10_snap ) := by
  intro sz τ res h
  refine yy_ofW (by decide) (Nat.le_of_ble_eq_true rfl) ?_
  intro p e s m args below meth c ls hsz E
  obtain ⟨C, hr, hlk, Z, hl⟩ := E
  subst hsz
  exact ww_X10_snap_E  C hr hlk Z hl h
/-! MovedLinesModel.opens(II)V -/
noncomputable def mm_X10_opens_6b (x1 : Int32) (x2 : Int32) (x3 : Int32) : yy_M ((Int32) ⊕ ((Unit))) :=
  yy_br (x3 ≤ x2) (yy_rt (.inr ())) (yy_cl (mm_X10_lineAt x1 x3) (fun r2 => yy_cl (mm_X10_lineAt x1 (x3 - 1)) (fun r3 => yy_cl (mm_X10_copiesLine r2 r3) (fun _ => yy_rt (.inl (x3 + (-1)))))))
noncomputable def mm_X10_opens_33 (x1 : Int32) : yy_M Unit :=
  yy_rA 114 254 (127 * x1) fun v4 => yy_wA 114 254 (127 * x1) (v4 + 1) (yy_rt ())
noncomputable def mm_X10_opens_6 (x1 : Int32) (x2 : Int32) (x3 : Int32) : yy_M Unit :=
  yy_cl (yy_lp (fun (w : Int32) => mm_X10_opens_6b x1 x2 w) x3) (fun w => mm_X10_opens_33 x1)
noncomputable def mm_X10_opens (x1 : Int32) (x2 : Int32) : yy_M Unit :=
  yy_cl (mm_X10_many x1) (fun r1 => mm_X10_opens_6 x1 x2 r1)
theorem kw_X10_opens : yy_wV RX10 yX10_opens cX10_opens 4 none 2 := ⟨⟨tw_1018, tw_47, tw_61, tw_1019⟩, by decide +kernel⟩
abbrev rm_X10_opens : Room := { frames := 1, cells := 0, slots := 0, locals := 23 }
set_option maxHeartbeats 4000000 in
set_option maxRecDepth 100000 in
theorem ww_X10_opens_6b {x1 : Int32} {x2 : Int32} {x3 : Int32} {res : ((Int32) ⊕ ((Unit))) × yy_T} {Q : State → Prop} (C : yy_C D κ p m c cX10_opens 4 s args RX10) (Z : yy_Z D κ ext A s.heap τ H locs) (hl : lv_has ls 4 [(0, .ref (κ 4 + 112)), (1, .int x1), (2, .int x2), (3, .int x3)]) (h : mm_X10_opens_6b x1 x2 x3 τ = some res)
    (kI : ∀ (w : Int32) (τ1 : yy_T) (H1 : Heap) (locs1 : List Loc) (ls1 : Array Slot), res = (.inl w, τ1) → yy_Z D κ ext A s.heap τ1 H1 locs1 → lv_has ls1 4 [(0, .ref (κ 4 + 112)), (1, .int x1), (2, .int x2), (3, .int w)] → W p l e rm_X10_opens s m args below meth c H1 locs1 0 0 Q (F0 m 6 ls1 []))
    (kR0 : ∀ (w : Unit) (τ1 : yy_T) (H1 : Heap) (locs1 : List Loc) (ls1 : Array Slot), res = (.inr w, τ1) → yy_Z D κ ext A s.heap τ1 H1 locs1 → lv_has ls1 4 [(0, .ref (κ 4 + 112)), (1, .int x1)] → W p l e rm_X10_opens s m args below meth c H1 locs1 0 0 Q (F0 m 33 ls1 [])) : W p l e rm_X10_opens s m args below meth c H locs 0 0 Q (F0 m 6 ls []) := by
  unfold mm_X10_opens_6b at h
  refine lv_iload_n C.1.1 C.1.2.1 dX10_opens_6 rfl (lv_at hl 3 rfl) ?_
  refine lv_iload_n C.1.1 C.1.2.1 dX10_opens_7 rfl (lv_at hl 2 rfl) ?_
  refine yy_icmp_le (tgt := 33) C dX10_opens_8 (by decide) h (fun h => ?_) (fun h => ?_)
  · exact kR0 _ _ _ _ _ (yy_rt_of h) Z (lv_sub hl [0, 1] rfl)
  · refine lv_aload_n C.1.1 C.1.2.1 dX10_opens_11 rfl (lv_at hl 0 rfl) ?_
    refine lv_iload_n C.1.1 C.1.2.1 dX10_opens_12 rfl (lv_at hl 1 rfl) ?_
    refine lv_iload_n C.1.1 C.1.2.1 dX10_opens_13 rfl (lv_at hl 3 rfl) ?_
    refine yy_cSi0 (As := [.int x1, .int x3]) (rest := [.ref (κ 4 + 112)])  C Z (ss_X10_lineAt l D κ ext x1 x3) tw_914 kw_X10_lineAt ⟨⟨rfl, rfl⟩, ⟨Nat.le_of_ble_eq_true rfl, Nat.le_of_ble_eq_true rfl⟩, Nat.le_of_ble_eq_true rfl, Nat.le_of_ble_eq_true rfl⟩ hl.1 rfl (Nat.le_of_ble_eq_true rfl) dX10_opens_14 h (fun r2 τ H locs Z h => ?_)
    refine lv_iload_n C.1.1 C.1.2.1 dX10_opens_17 rfl (lv_at hl 1 rfl) ?_
    refine lv_iload_n C.1.1 C.1.2.1 dX10_opens_18 rfl (lv_at hl 3 rfl) ?_
    refine lv_iconst (v := 1) C.1.1 C.1.2.1 dX10_opens_19 (by decide) ?_
    refine lv_isub C.1.1 C.1.2.1 dX10_opens_20 ?_
    refine yy_cSi0 (As := [.int x1, .int (x3 - 1)]) (rest := [.int r2, .ref (κ 4 + 112)])  C Z (ss_X10_lineAt l D κ ext x1 (x3 - 1)) tw_914 kw_X10_lineAt ⟨⟨rfl, rfl⟩, ⟨Nat.le_of_ble_eq_true rfl, Nat.le_of_ble_eq_true rfl⟩, Nat.le_of_ble_eq_true rfl, Nat.le_of_ble_eq_true rfl⟩ hl.1 rfl (Nat.le_of_ble_eq_true rfl) dX10_opens_21 h (fun r3 τ H locs Z h => ?_)
    refine yy_cVv0 (As := [.int r2, .int r3]) (rest := []) (id := 112) (ci := 10) (q := (RX10, TX10, 20)) C Z (ss_X10_copiesLine l D κ ext r2 r3) (by decide) (yy_ent_112 _) rfl tw_1004 kw_X10_copiesLine ⟨⟨rfl, rfl⟩, ⟨Nat.le_of_ble_eq_true rfl, Nat.le_of_ble_eq_true rfl⟩, Nat.le_of_ble_eq_true rfl, Nat.le_of_ble_eq_true rfl⟩ hl.1 rfl (Nat.le_of_ble_eq_true rfl) dX10_opens_24 h (fun τ H locs Z h => ?_)
    refine lv_iinc (v := x3 + (-1)) (lv' := [(3, .int (x3 + (-1))), (0, .ref (κ 4 + 112)), (1, .int x1), (2, .int x2)]) C.1.1 C.1.2.1 dX10_opens_27 hl (k := 3) rfl (by rfl) (by decide) rfl (fun ls hl => ?_)
    refine lv_goto (tgt := 6) C.1.1 C.1.2.1 dX10_opens_30 (by decide) ?_
    exact kI _ _ _ _ _ (yy_rt_of h) Z (lv_sub hl [1, 2, 3, 0] rfl)
set_option maxHeartbeats 4000000 in
set_option maxRecDepth 100000 in
theorem ww_X10_opens_33 {x1 : Int32} {res : Unit × yy_T} (C : yy_C D κ p m c cX10_opens 4 s args RX10) (hr : meth.sig.returnType = none) (hlk : meth.locks = false) (Z : yy_Z D κ ext A s.heap τ H locs) (hl : lv_has ls 4 [(0, .ref (κ 4 + 112)), (1, .int x1)]) (h : mm_X10_opens_33 x1 τ = some res) : W p l e rm_X10_opens s m args below meth c H locs 0 0 (MQ below (yy_Qv D κ ext A res) args s 0 0 A) (F0 m 33 ls []) := by
  unfold mm_X10_opens_33 at h
  refine lv_aload_n C.1.1 C.1.2.1 dX10_opens_33 rfl (lv_at hl 0 rfl) ?_
  refine yg_X10_3 C Z tw_795 dX10_opens_34 ?_
  refine lv_bipush (v := 127) C.1.1 C.1.2.1 dX10_opens_37 (by decide) ?_
  refine lv_iload_n C.1.1 C.1.2.1 dX10_opens_39 rfl (lv_at hl 1 rfl) ?_
  refine lv_imul C.1.1 C.1.2.1 dX10_opens_40 ?_
  refine lv_dup2_11 C.1.1 C.1.2.1 dX10_opens_41 rfl rfl ?_
  refine yy_iald C Z (by decide) rfl dX10_opens_42 h (fun v4 h => ?_)
  refine lv_iconst (v := 1) C.1.1 C.1.2.1 dX10_opens_43 (by decide) ?_
  refine lv_iadd C.1.1 C.1.2.1 dX10_opens_44 ?_
  refine yy_iast C Z (by decide) rfl dX10_opens_45 h (fun H locs τ Z h => ?_)
  exact yy_vret C Z hr hlk dX10_opens_46 h
set_option maxHeartbeats 4000000 in
set_option maxRecDepth 100000 in
theorem ww_X10_opens_6 {x1 : Int32} {x2 : Int32} {x3 : Int32} {res : Unit × yy_T} (C : yy_C D κ p m c cX10_opens 4 s args RX10) (hr : meth.sig.returnType = none) (hlk : meth.locks = false) (Z : yy_Z D κ ext A s.heap τ H locs) (hl : lv_has ls 4 [(0, .ref (κ 4 + 112)), (1, .int x1), (2, .int x2), (3, .int x3)]) (h : mm_X10_opens_6 x1 x2 x3 τ = some res) : W p l e rm_X10_opens s m args below meth c H locs 0 0 (MQ below (yy_Qv D κ ext A res) args s 0 0 A) (F0 m 6 ls []) := by
  unfold mm_X10_opens_6 at h
  refine yy_loop h (fun (w : Int32) (τ : yy_T) => ∀ (H : Heap) (locs : List Loc) (ls : Array Slot), yy_Z D κ ext A s.heap τ H locs → lv_has ls 4 [(0, .ref (κ 4 + 112)), (1, .int x1), (2, .int x2), (3, .int w)] → W p l e rm_X10_opens s m args below meth c H locs 0 0 (MQ below (yy_Qv D κ ext A res) args s 0 0 A) (F0 m 6 ls [])) ?_ H locs ls Z hl
  intro w τ y hy hI hX H locs ls Z hl
  refine ww_X10_opens_6b  C Z hl hy (fun w τ H locs ls ey Z hl => hI w τ ey H locs ls Z hl) (fun w τ H locs ls ey Z hl => ?_)
  · have h := hX _ _ ey
    exact ww_X10_opens_33  C hr hlk Z (lv_sub hl [0, 1] rfl) h
set_option maxHeartbeats 4000000 in
set_option maxRecDepth 100000 in
theorem ww_X10_opens_E {x1 : Int32} {x2 : Int32} {res : Unit × yy_T} (C : yy_C D κ p m c cX10_opens 4 s args RX10) (hr : meth.sig.returnType = none) (hlk : meth.locks = false) (Z : yy_Z D κ ext A s.heap τ H locs) (hl : lv_has ls 4 [(0, .ref (κ 4 + 112)), (1, .int x1), (2, .int x2)]) (h : mm_X10_opens x1 x2 τ = some res) : W p l e rm_X10_opens s m args below meth c H locs 0 0 (MQ below (yy_Qv D κ ext A res) args s 0 0 A) (F0 m 0 ls []) := by
  unfold mm_X10_opens at h
  refine lv_aload_n C.1.1 C.1.2.1 dX10_opens_0 rfl (lv_at hl 0 rfl) ?_
  refine lv_iload_n C.1.1 C.1.2.1 dX10_opens_1 rfl (lv_at hl 1 rfl) ?_
  refine yy_cVi0 (As := [.int x1]) (rest := []) (id := 112) (ci := 10) (q := (RX10, TX10, 20)) C Z (ss_X10_many l D κ ext x1) (by decide) (yy_ent_112 _) rfl tw_882 kw_X10_many ⟨⟨rfl, rfl⟩, ⟨Nat.le_of_ble_eq_true rfl, Nat.le_of_ble_eq_true rfl⟩, Nat.le_of_ble_eq_true rfl, Nat.le_of_ble_eq_true rfl⟩ hl.1 rfl (Nat.le_of_ble_eq_true rfl) dX10_opens_2 h (fun r1 τ H locs Z h => ?_)
  refine lv_istore_n (lv' := [(3, .int r1), (0, .ref (κ 4 + 112)), (1, .int x1), (2, .int x2)]) C.1.1 C.1.2.1 dX10_opens_5 rfl hl (by decide) rfl (fun ls hl => ?_)
  exact ww_X10_opens_6  C hr hlk Z (lv_sub hl [1, 2, 3, 0] rfl) h
set_option maxHeartbeats 4000000 in
set_option maxRecDepth 100000 in
theorem ss_X10_opens (l : Launch) (D : va_G) (κ : Nat → Nat) (ext : va_W) (x1 : Int32) (x2 : Int32) : yy_Mv l D κ ext yX10_opens cX10_opens 4 none rm_X10_opens 0 0 [.ref (κ 4 + 112), .int x1, .int x2] (mm_X10_opens x1 x2) := by
  intro sz τ res h
  refine yy_ofW (by decide) (Nat.le_of_ble_eq_true rfl) ?_
  intro p e s m args below meth c ls hsz E
  obtain ⟨C, hr, hlk, Z, hl⟩ := E
  subst hsz
  exact ww_X10_opens_E  C hr hlk Z hl h
/-! MovedLinesModel.closes(II)V -/
noncomputable def mm_X10_closes_2b (x1 : Int32) (x3 : Int32) : yy_M ((Int32) ⊕ ((Unit))) :=
  yy_cl (mm_X10_many x1) (fun r1 => yy_br (r1 ≤ (x3 + 1)) (yy_rt (.inr ())) (yy_cl (mm_X10_lineAt x1 x3) (fun r2 => yy_cl (mm_X10_lineAt x1 (x3 + 1)) (fun r3 => yy_cl (mm_X10_copiesLine r2 r3) (fun _ => yy_rt (.inl (x3 + 1)))))))
noncomputable def mm_X10_closes_35 (x1 : Int32) : yy_M Unit :=
  yy_rA 114 254 (127 * x1) fun v4 => yy_wA 114 254 (127 * x1) (v4 - 1) (yy_rt ())
noncomputable def mm_X10_closes_2 (x1 : Int32) (x3 : Int32) : yy_M Unit :=
  yy_cl (yy_lp (fun (w : Int32) => mm_X10_closes_2b x1 w) x3) (fun w => mm_X10_closes_35 x1)
noncomputable def mm_X10_closes (x1 : Int32) (x2 : Int32) : yy_M Unit :=
  mm_X10_closes_2 x1 x2
theorem kw_X10_closes : yy_wV RX10 yX10_closes cX10_closes 4 none 2 := ⟨⟨tw_1034, tw_49, tw_61, tw_1035⟩, by decide +kernel⟩
abbrev rm_X10_closes : Room := { frames := 1, cells := 0, slots := 0, locals := 23 }
set_option maxHeartbeats 4000000 in
set_option maxRecDepth 100000 in
theorem ww_X10_closes_2b {x1 : Int32} {x3 : Int32} {res : ((Int32) ⊕ ((Unit))) × yy_T} {Q : State → Prop} (C : yy_C D κ p m c cX10_closes 4 s args RX10) (Z : yy_Z D κ ext A s.heap τ H locs) (hl : lv_has ls 4 [(0, .ref (κ 4 + 112)), (1, .int x1), (3, .int x3)]) (h : mm_X10_closes_2b x1 x3 τ = some res)
    (kI : ∀ (w : Int32) (τ1 : yy_T) (H1 : Heap) (locs1 : List Loc) (ls1 : Array Slot), res = (.inl w, τ1) → yy_Z D κ ext A s.heap τ1 H1 locs1 → lv_has ls1 4 [(0, .ref (κ 4 + 112)), (1, .int x1), (3, .int w)] → W p l e rm_X10_closes s m args below meth c H1 locs1 0 0 Q (F0 m 2 ls1 []))
    (kR0 : ∀ (w : Unit) (τ1 : yy_T) (H1 : Heap) (locs1 : List Loc) (ls1 : Array Slot), res = (.inr w, τ1) → yy_Z D κ ext A s.heap τ1 H1 locs1 → lv_has ls1 4 [(0, .ref (κ 4 + 112)), (1, .int x1)] → W p l e rm_X10_closes s m args below meth c H1 locs1 0 0 Q (F0 m 35 ls1 [])) : W p l e rm_X10_closes s m args below meth c H locs 0 0 Q (F0 m 2 ls []) := by
  unfold mm_X10_closes_2b at h
  refine lv_iload_n C.1.1 C.1.2.1 dX10_closes_2 rfl (lv_at hl 2 rfl) ?_
  refine lv_iconst (v := 1) C.1.1 C.1.2.1 dX10_closes_3 (by decide) ?_
  refine lv_iadd C.1.1 C.1.2.1 dX10_closes_4 ?_
  refine lv_aload_n C.1.1 C.1.2.1 dX10_closes_5 rfl (lv_at hl 0 rfl) ?_
  refine lv_iload_n C.1.1 C.1.2.1 dX10_closes_6 rfl (lv_at hl 1 rfl) ?_
  refine yy_cVi0 (As := [.int x1]) (rest := [.int (x3 + 1)]) (id := 112) (ci := 10) (q := (RX10, TX10, 20)) C Z (ss_X10_many l D κ ext x1) (by decide) (yy_ent_112 _) rfl tw_882 kw_X10_many ⟨⟨rfl, rfl⟩, ⟨Nat.le_of_ble_eq_true rfl, Nat.le_of_ble_eq_true rfl⟩, Nat.le_of_ble_eq_true rfl, Nat.le_of_ble_eq_true rfl⟩ hl.1 rfl (Nat.le_of_ble_eq_true rfl) dX10_closes_7 h (fun r1 τ H locs Z h => ?_)
  refine yy_icmp_ge (tgt := 35) C dX10_closes_10 (by decide) h (fun h => ?_) (fun h => ?_)
  · exact kR0 _ _ _ _ _ (yy_rt_of h) Z (lv_sub hl [0, 1] rfl)
  · refine lv_aload_n C.1.1 C.1.2.1 dX10_closes_13 rfl (lv_at hl 0 rfl) ?_
    refine lv_iload_n C.1.1 C.1.2.1 dX10_closes_14 rfl (lv_at hl 1 rfl) ?_
    refine lv_iload_n C.1.1 C.1.2.1 dX10_closes_15 rfl (lv_at hl 2 rfl) ?_
    refine yy_cSi0 (As := [.int x1, .int x3]) (rest := [.ref (κ 4 + 112)])  C Z (ss_X10_lineAt l D κ ext x1 x3) tw_914 kw_X10_lineAt ⟨⟨rfl, rfl⟩, ⟨Nat.le_of_ble_eq_true rfl, Nat.le_of_ble_eq_true rfl⟩, Nat.le_of_ble_eq_true rfl, Nat.le_of_ble_eq_true rfl⟩ hl.1 rfl (Nat.le_of_ble_eq_true rfl) dX10_closes_16 h (fun r2 τ H locs Z h => ?_)
    refine lv_iload_n C.1.1 C.1.2.1 dX10_closes_19 rfl (lv_at hl 1 rfl) ?_
    refine lv_iload_n C.1.1 C.1.2.1 dX10_closes_20 rfl (lv_at hl 2 rfl) ?_
    refine lv_iconst (v := 1) C.1.1 C.1.2.1 dX10_closes_21 (by decide) ?_
    refine lv_iadd C.1.1 C.1.2.1 dX10_closes_22 ?_
    refine yy_cSi0 (As := [.int x1, .int (x3 + 1)]) (rest := [.int r2, .ref (κ 4 + 112)])  C Z (ss_X10_lineAt l D κ ext x1 (x3 + 1)) tw_914 kw_X10_lineAt ⟨⟨rfl, rfl⟩, ⟨Nat.le_of_ble_eq_true rfl, Nat.le_of_ble_eq_true rfl⟩, Nat.le_of_ble_eq_true rfl, Nat.le_of_ble_eq_true rfl⟩ hl.1 rfl (Nat.le_of_ble_eq_true rfl) dX10_closes_23 h (fun r3 τ H locs Z h => ?_)
    refine yy_cVv0 (As := [.int r2, .int r3]) (rest := []) (id := 112) (ci := 10) (q := (RX10, TX10, 20)) C Z (ss_X10_copiesLine l D κ ext r2 r3) (by decide) (yy_ent_112 _) rfl tw_1004 kw_X10_copiesLine ⟨⟨rfl, rfl⟩, ⟨Nat.le_of_ble_eq_true rfl, Nat.le_of_ble_eq_true rfl⟩, Nat.le_of_ble_eq_true rfl, Nat.le_of_ble_eq_true rfl⟩ hl.1 rfl (Nat.le_of_ble_eq_true rfl) dX10_closes_26 h (fun τ H locs Z h => ?_)
    refine lv_iinc (v := x3 + 1) (lv' := [(3, .int (x3 + 1)), (0, .ref (κ 4 + 112)), (1, .int x1)]) C.1.1 C.1.2.1 dX10_closes_29 hl (k := 2) rfl (by rfl) (by decide) rfl (fun ls hl => ?_)
    refine lv_goto (tgt := 2) C.1.1 C.1.2.1 dX10_closes_32 (by decide) ?_
    exact kI _ _ _ _ _ (yy_rt_of h) Z (lv_sub hl [1, 2, 0] rfl)
set_option maxHeartbeats 4000000 in
set_option maxRecDepth 100000 in
theorem ww_X10_closes_35 {x1 : Int32} {res : Unit × yy_T} (C : yy_C D κ p m c cX10_closes 4 s args RX10) (hr : meth.sig.returnType = none) (hlk : meth.locks = false) (Z : yy_Z D κ ext A s.heap τ H locs) (hl : lv_has ls 4 [(0, .ref (κ 4 + 112)), (1, .int x1)]) (h : mm_X10_closes_35 x1 τ = some res) : W p l e rm_X10_closes s m args below meth c H locs 0 0 (MQ below (yy_Qv D κ ext A res) args s 0 0 A) (F0 m 35 ls []) := by
  unfold mm_X10_closes_35 at h
  refine lv_aload_n C.1.1 C.1.2.1 dX10_closes_35 rfl (lv_at hl 0 rfl) ?_
  refine yg_X10_3 C Z tw_795 dX10_closes_36 ?_
  refine lv_bipush (v := 127) C.1.1 C.1.2.1 dX10_closes_39 (by decide) ?_
  refine lv_iload_n C.1.1 C.1.2.1 dX10_closes_41 rfl (lv_at hl 1 rfl) ?_
  refine lv_imul C.1.1 C.1.2.1 dX10_closes_42 ?_
  refine lv_dup2_11 C.1.1 C.1.2.1 dX10_closes_43 rfl rfl ?_
  refine yy_iald C Z (by decide) rfl dX10_closes_44 h (fun v4 h => ?_)
  refine lv_iconst (v := 1) C.1.1 C.1.2.1 dX10_closes_45 (by decide) ?_
  refine lv_isub C.1.1 C.1.2.1 dX10_closes_46 ?_
  refine yy_iast C Z (by decide) rfl dX10_closes_47 h (fun H locs τ Z h => ?_)
  exact yy_vret C Z hr hlk dX10_closes_48 h
set_option maxHeartbeats 4000000 in
set_option maxRecDepth 100000 in
theorem ww_X10_closes_2 {x1 : Int32} {x3 : Int32} {res : Unit × yy_T} (C : yy_C D κ p m c cX10_closes 4 s args RX10) (hr : meth.sig.returnType = none) (hlk : meth.locks = false) (Z : yy_Z D κ ext A s.heap τ H locs) (hl : lv_has ls 4 [(0, .ref (κ 4 + 112)), (1, .int x1), (3, .int x3)]) (h : mm_X10_closes_2 x1 x3 τ = some res) : W p l e rm_X10_closes s m args below meth c H locs 0 0 (MQ below (yy_Qv D κ ext A res) args s 0 0 A) (F0 m 2 ls []) := by
  unfold mm_X10_closes_2 at h
  refine yy_loop h (fun (w : Int32) (τ : yy_T) => ∀ (H : Heap) (locs : List Loc) (ls : Array Slot), yy_Z D κ ext A s.heap τ H locs → lv_has ls 4 [(0, .ref (κ 4 + 112)), (1, .int x1), (3, .int w)] → W p l e rm_X10_closes s m args below meth c H locs 0 0 (MQ below (yy_Qv D κ ext A res) args s 0 0 A) (F0 m 2 ls [])) ?_ H locs ls Z hl
  intro w τ y hy hI hX H locs ls Z hl
  refine ww_X10_closes_2b  C Z hl hy (fun w τ H locs ls ey Z hl => hI w τ ey H locs ls Z hl) (fun w τ H locs ls ey Z hl => ?_)
  · have h := hX _ _ ey
    exact ww_X10_closes_35  C hr hlk Z (lv_sub hl [0, 1] rfl) h
set_option maxHeartbeats 4000000 in
set_option maxRecDepth 100000 in
theorem ww_X10_closes_E {x1 : Int32} {x2 : Int32} {res : Unit × yy_T} (C : yy_C D κ p m c cX10_closes 4 s args RX10) (hr : meth.sig.returnType = none) (hlk : meth.locks = false) (Z : yy_Z D κ ext A s.heap τ H locs) (hl : lv_has ls 4 [(0, .ref (κ 4 + 112)), (1, .int x1), (2, .int x2)]) (h : mm_X10_closes x1 x2 τ = some res) : W p l e rm_X10_closes s m args below meth c H locs 0 0 (MQ below (yy_Qv D κ ext A res) args s 0 0 A) (F0 m 0 ls []) := by
  unfold mm_X10_closes at h
  refine lv_iload_n C.1.1 C.1.2.1 dX10_closes_0 rfl (lv_at hl 2 rfl) ?_
  refine lv_istore_n (lv' := [(3, .int x2), (0, .ref (κ 4 + 112)), (1, .int x1), (2, .int x2)]) C.1.1 C.1.2.1 dX10_closes_1 rfl hl (by decide) rfl (fun ls hl => ?_)
  exact ww_X10_closes_2  C hr hlk Z (lv_sub hl [1, 2, 0] rfl) h
set_option maxHeartbeats 4000000 in
set_option maxRecDepth 100000 in
theorem ss_X10_closes (l : Launch) (D : va_G) (κ : Nat → Nat) (ext : va_W) (x1 : Int32) (x2 : Int32) : yy_Mv l D κ ext yX10_closes cX10_closes 4 none rm_X10_closes 0 0 [.ref (κ 4 + 112), .int x1, .int x2] (mm_X10_closes x1 x2) := by
  intro sz τ res h
  refine yy_ofW (by decide) (Nat.le_of_ble_eq_true rfl) ?_
  intro p e s m args below meth c ls hsz E
  obtain ⟨C, hr, hlk, Z, hl⟩ := E
  subst hsz
  exact ww_X10_closes_E  C hr hlk Z hl h
end
