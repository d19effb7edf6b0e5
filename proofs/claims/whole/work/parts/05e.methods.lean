section
variable {p : Program} {l : Launch} {e : Env} {s : State} {m : MethodId} {args : Array Value} {below : List Frame} {meth : Method} {c : Code} {H : Heap} {locs : List Loc} {ls : Array Slot} {D : va_G} {κ : Nat → Nat} {ext : va_W} {A : Nat → Prop} {τ : yy_T}
/-! MovedLines.letterIn(II)I -/
noncomputable def mm_X9_letterIn (x0 : Int32) (x1 : Int32) : yy_M Int32 :=
  yy_rt (((Int32.toUInt32 x0 >>> (Int32.toUInt32 (5 * x1) &&& Int32.toUInt32 31)).toInt32) &&& 31)
theorem kw_X9_letterIn : yy_wS RX9 yX9_letterIn cX9_letterIn 2 (some .int) 2 := ⟨⟨tw_582, tw_51, tw_583⟩, by decide +kernel⟩
abbrev rm_X9_letterIn : Room := { frames := 0, cells := 0, slots := 0, locals := 0 }
set_option maxHeartbeats 4000000 in
set_option maxRecDepth 100000 in
theorem ww_X9_letterIn_E {x0 : Int32} {x1 : Int32} {res : Int32 × yy_T} (C : yy_C D κ p m c cX9_letterIn 2 s args RX9) (hr : meth.sig.returnType = (some .int)) (hlk : meth.locks = false) (Z : yy_Z D κ ext A s.heap τ H locs) (hl : lv_has ls 2 [(0, .int x0), (1, .int x1)]) (h : mm_X9_letterIn x0 x1 τ = some res) : W p l e rm_X9_letterIn s m args below meth c H locs 0 0 (MQ below (yy_Qi D κ ext A res) args s 0 0 A) (F0 m 0 ls []) := by
  unfold mm_X9_letterIn at h
  refine lv_iload_n C.1.1 C.1.2.1 dX9_letterIn_0 rfl (lv_at hl 0 rfl) ?_
  refine lv_iconst (v := 5) C.1.1 C.1.2.1 dX9_letterIn_1 (by decide) ?_
  refine lv_iload_n C.1.1 C.1.2.1 dX9_letterIn_2 rfl (lv_at hl 1 rfl) ?_
  refine lv_imul C.1.1 C.1.2.1 dX9_letterIn_3 ?_
  refine lv_iushr C.1.1 C.1.2.1 dX9_letterIn_4 rfl ?_
  refine lv_bipush (v := 31) C.1.1 C.1.2.1 dX9_letterIn_5 (by decide) ?_
  refine lv_iand C.1.1 C.1.2.1 dX9_letterIn_7 ?_
  exact yy_iret C Z hr hlk rfl dX9_letterIn_8 h
set_option maxHeartbeats 4000000 in
set_option maxRecDepth 100000 in
theorem ss_X9_letterIn (l : Launch) (D : va_G) (κ : Nat → Nat) (ext : va_W) (x0 : Int32) (x1 : Int32) : yy_Mi l D κ ext yX9_letterIn cX9_letterIn 2 (some .int) rm_X9_letterIn 0 0 [.int x0, .int x1] (mm_X9_letterIn x0 x1) := by
  intro sz τ res h
  refine yy_ofW (by decide) (Nat.le_of_ble_eq_true rfl) ?_
  intro p e s m args below meth c ls hsz E
  obtain ⟨C, hr, hlk, Z, hl⟩ := E
  subst hsz
  exact ww_X9_letterIn_E  C hr hlk Z hl h
/-! MovedLines$Edition.lettersOf(II)I -/
noncomputable def mm_X2_lettersOf_10b (x3 : Int32) (x4 : Int32) : yy_M ((Int32) ⊕ ((Int32))) :=
  yy_br (6 ≤ x4) (yy_rt (.inr x4)) (yy_cl (mm_X9_letterIn x3 x4) (fun r2 => yy_br (r2 = 0) (yy_rt (.inr x4)) (yy_rt (.inl (x4 + 1)))))
noncomputable def mm_X2_lettersOf_32 (x4 : Int32) : yy_M Int32 :=
  yy_rt x4
noncomputable def mm_X2_lettersOf_10 (x3 : Int32) (x4 : Int32) : yy_M Int32 :=
  yy_cl (yy_lp (fun (w : Int32) => mm_X2_lettersOf_10b x3 w) x4) (fun w => mm_X2_lettersOf_32 w)
noncomputable def mm_X2_lettersOf (k0 : Nat) (x1 : Int32) (x2 : Int32) : yy_M Int32 :=
  yy_cl (mm_X2_wordAt k0 x1 x2) (fun r1 => mm_X2_lettersOf_10 r1 0)
theorem kw_X2_lettersOf : yy_wV RX2 yX2_lettersOf cX2_lettersOf 5 (some .int) 2 := ⟨⟨tw_573, tw_574, tw_54, tw_575⟩, by decide +kernel⟩
abbrev rm_X2_lettersOf : Room := { frames := 3, cells := 0, slots := 0, locals := 64 }
set_option maxHeartbeats 4000000 in
set_option maxRecDepth 100000 in
theorem ww_X2_lettersOf_10b {x3 : Int32} {x4 : Int32} {res : ((Int32) ⊕ ((Int32))) × yy_T} {Q : State → Prop} (C : yy_C D κ p m c cX2_lettersOf 5 s args RX2) (Z : yy_Z D κ ext A s.heap τ H locs) (hl : lv_has ls 5 [(3, .int x3), (4, .int x4)]) (h : mm_X2_lettersOf_10b x3 x4 τ = some res)
    (kI : ∀ (w : Int32) (τ1 : yy_T) (H1 : Heap) (locs1 : List Loc) (ls1 : Array Slot), res = (.inl w, τ1) → yy_Z D κ ext A s.heap τ1 H1 locs1 → lv_has ls1 5 [(3, .int x3), (4, .int w)] → W p l e rm_X2_lettersOf s m args below meth c H1 locs1 0 0 Q (F0 m 10 ls1 []))
    (kR0 : ∀ (w : Int32) (τ1 : yy_T) (H1 : Heap) (locs1 : List Loc) (ls1 : Array Slot), res = (.inr w, τ1) → yy_Z D κ ext A s.heap τ1 H1 locs1 → lv_has ls1 5 [(4, .int w)] → W p l e rm_X2_lettersOf s m args below meth c H1 locs1 0 0 Q (F0 m 32 ls1 [])) : W p l e rm_X2_lettersOf s m args below meth c H locs 0 0 Q (F0 m 10 ls []) := by
  unfold mm_X2_lettersOf_10b at h
  refine lv_iload C.1.1 C.1.2.1 dX2_lettersOf_10 (lv_at hl 1 rfl) ?_
  refine lv_bipush (v := 6) C.1.1 C.1.2.1 dX2_lettersOf_12 (by decide) ?_
  refine yy_icmp_ge (tgt := 32) C dX2_lettersOf_14 (by decide) h (fun h => ?_) (fun h => ?_)
  · exact kR0 _ _ _ _ _ (yy_rt_of h) Z (lv_sub hl [1] rfl)
  · refine lv_iload_n C.1.1 C.1.2.1 dX2_lettersOf_17 rfl (lv_at hl 0 rfl) ?_
    refine lv_iload C.1.1 C.1.2.1 dX2_lettersOf_18 (lv_at hl 1 rfl) ?_
    refine yy_cNi0 (As := [.int x3, .int x4]) (rest := []) (Cn := RX9) C Z (ss_X9_letterIn l D κ ext x3 x4) (by decide +kernel) kw_X9_letterIn ⟨⟨rfl, rfl⟩, ⟨Nat.le_of_ble_eq_true rfl, Nat.le_of_ble_eq_true rfl⟩, Nat.le_of_ble_eq_true rfl, Nat.le_of_ble_eq_true rfl⟩ hl.1 rfl (Nat.le_of_ble_eq_true rfl) dX2_lettersOf_20 h (fun r2 τ H locs Z h => ?_)
    refine yy_if_eq (tgt := 32) C dX2_lettersOf_23 (by decide) h (fun h => ?_) (fun h => ?_)
    · exact kR0 _ _ _ _ _ (yy_rt_of h) Z (lv_sub hl [1] rfl)
    · refine lv_iinc (v := x4 + 1) (lv' := [(4, .int (x4 + 1)), (3, .int x3)]) C.1.1 C.1.2.1 dX2_lettersOf_26 hl (k := 1) rfl (by rfl) (by decide) rfl (fun ls hl => ?_)
      refine lv_goto (tgt := 10) C.1.1 C.1.2.1 dX2_lettersOf_29 (by decide) ?_
      exact kI _ _ _ _ _ (yy_rt_of h) Z (lv_sub hl [1, 0] rfl)
set_option maxHeartbeats 4000000 in
set_option maxRecDepth 100000 in
theorem ww_X2_lettersOf_32 {x4 : Int32} {res : Int32 × yy_T} (C : yy_C D κ p m c cX2_lettersOf 5 s args RX2) (hr : meth.sig.returnType = (some .int)) (hlk : meth.locks = false) (Z : yy_Z D κ ext A s.heap τ H locs) (hl : lv_has ls 5 [(4, .int x4)]) (h : mm_X2_lettersOf_32 x4 τ = some res) : W p l e rm_X2_lettersOf s m args below meth c H locs 0 0 (MQ below (yy_Qi D κ ext A res) args s 0 0 A) (F0 m 32 ls []) := by
  unfold mm_X2_lettersOf_32 at h
  refine lv_iload C.1.1 C.1.2.1 dX2_lettersOf_32 (lv_at hl 0 rfl) ?_
  exact yy_iret C Z hr hlk rfl dX2_lettersOf_34 h
set_option maxHeartbeats 4000000 in
set_option maxRecDepth 100000 in
theorem ww_X2_lettersOf_10 {x3 : Int32} {x4 : Int32} {res : Int32 × yy_T} (C : yy_C D κ p m c cX2_lettersOf 5 s args RX2) (hr : meth.sig.returnType = (some .int)) (hlk : meth.locks = false) (Z : yy_Z D κ ext A s.heap τ H locs) (hl : lv_has ls 5 [(3, .int x3), (4, .int x4)]) (h : mm_X2_lettersOf_10 x3 x4 τ = some res) : W p l e rm_X2_lettersOf s m args below meth c H locs 0 0 (MQ below (yy_Qi D κ ext A res) args s 0 0 A) (F0 m 10 ls []) := by
  unfold mm_X2_lettersOf_10 at h
  refine yy_loop h (fun (w : Int32) (τ : yy_T) => ∀ (H : Heap) (locs : List Loc) (ls : Array Slot), yy_Z D κ ext A s.heap τ H locs → lv_has ls 5 [(3, .int x3), (4, .int w)] → W p l e rm_X2_lettersOf s m args below meth c H locs 0 0 (MQ below (yy_Qi D κ ext A res) args s 0 0 A) (F0 m 10 ls [])) ?_ H locs ls Z hl
  intro w τ y hy hI hX H locs ls Z hl
  refine ww_X2_lettersOf_10b  C Z hl hy (fun w τ H locs ls ey Z hl => hI w τ ey H locs ls Z hl) (fun w τ H locs ls ey Z hl => ?_)
  · have h := hX _ _ ey
    exact ww_X2_lettersOf_32  C hr hlk Z (lv_sub hl [0] rfl) h
set_option maxHeartbeats 4000000 in
set_option maxRecDepth 100000 in
theorem ww_X2_lettersOf_E {k0 : Nat} {x1 : Int32} {x2 : Int32} (hk0 : k0 ∈ yy_Eds) {res : Int32 × yy_T} (C : yy_C D κ p m c cX2_lettersOf 5 s args RX2) (hr : meth.sig.returnType = (some .int)) (hlk : meth.locks = false) (Z : yy_Z D κ ext A s.heap τ H locs) (hl : lv_has ls 5 [(0, .ref (κ 4 + k0)), (1, .int x1), (2, .int x2)]) (h : mm_X2_lettersOf k0 x1 x2 τ = some res) : W p l e rm_X2_lettersOf s m args below meth c H locs 0 0 (MQ below (yy_Qi D κ ext A res) args s 0 0 A) (F0 m 0 ls []) := by
  unfold mm_X2_lettersOf at h
  refine lv_aload_n C.1.1 C.1.2.1 dX2_lettersOf_0 rfl (lv_at hl 0 rfl) ?_
  refine lv_iload_n C.1.1 C.1.2.1 dX2_lettersOf_1 rfl (lv_at hl 1 rfl) ?_
  refine lv_iload_n C.1.1 C.1.2.1 dX2_lettersOf_2 rfl (lv_at hl 2 rfl) ?_
  refine yy_cVi0 (As := [.int x1, .int x2]) (rest := []) (id := k0) (ci := 2) (q := (RX2, TX2, 3)) C Z (ss_X2_wordAt l D κ ext k0 x1 x2 hk0) (yy_Eds_lt _ hk0) (yy_ent_Eds hk0 _) rfl tw_576 kw_X2_wordAt ⟨⟨rfl, rfl⟩, ⟨Nat.le_of_ble_eq_true rfl, Nat.le_of_ble_eq_true rfl⟩, Nat.le_of_ble_eq_true rfl, Nat.le_of_ble_eq_true rfl⟩ hl.1 rfl (Nat.le_of_ble_eq_true rfl) dX2_lettersOf_3 h (fun r1 τ H locs Z h => ?_)
  refine lv_istore_n (lv' := [(3, .int r1), (0, .ref (κ 4 + k0)), (1, .int x1), (2, .int x2)]) C.1.1 C.1.2.1 dX2_lettersOf_6 rfl hl (by decide) rfl (fun ls hl => ?_)
  refine lv_iconst (v := 0) C.1.1 C.1.2.1 dX2_lettersOf_7 (by decide) ?_
  refine lv_istore (lv' := [(4, .int 0), (3, .int r1), (0, .ref (κ 4 + k0)), (1, .int x1), (2, .int x2)]) C.1.1 C.1.2.1 dX2_lettersOf_8 hl (by decide) rfl (fun ls hl => ?_)
  exact ww_X2_lettersOf_10  C hr hlk Z (lv_sub hl [1, 0] rfl) h
set_option maxHeartbeats 4000000 in
set_option maxRecDepth 100000 in
theorem ss_X2_lettersOf (l : Launch) (D : va_G) (κ : Nat → Nat) (ext : va_W) (k0 : Nat) (x1 : Int32) (x2 : Int32) (hk0 : k0 ∈ yy_Eds) : yy_Mi l D κ ext yX2_lettersOf cX2_lettersOf 5 (some .int) rm_X2_lettersOf 0 0 [.ref (κ 4 + k0), .int x1, .int x2] (mm_X2_lettersOf k0 x1 x2) := by
  intro sz τ res h
  refine yy_ofW (by decide) (Nat.le_of_ble_eq_true rfl) ?_
  intro p e s m args below meth c ls hsz E
  obtain ⟨C, hr, hlk, Z, hl⟩ := E
  subst hsz
  exact ww_X2_lettersOf_E hk0 C hr hlk Z hl h
/-! MovedLines$Edition.setLine(ILMovedLines$Edition;I)V -/
noncomputable def mm_X2_setLine (k0 : Nat) (x1 : Int32) (k2 : Nat) (x3 : Int32) : yy_M Unit :=
  yy_cl (mm_X2_has k0 x1) (fun r1 => yy_br (r1 = 0) (yy_rt ()) (yy_cl (mm_X2_has k2 x3) (fun r2 => yy_br (r2 = 0) (yy_rt ()) (yy_rA (k2 + 1) 14 x3 fun v3 => yy_wA (k0 + 1) 14 x1 v3 (yy_rA (k0 + 1) 14 x1 fun v4 => yy_cp (k2 + 2) 112 (x3 * 8) (k0 + 2) 112 (x1 * 8) v4 (yy_rt ()))))))
theorem kw_X2_setLine : yy_wV RX2 yX2_setLine cX2_setLine 4 none 3 := ⟨⟨tw_417, tw_418, tw_54, tw_419⟩, by decide +kernel⟩
abbrev rm_X2_setLine : Room := { frames := 1, cells := 0, slots := 0, locals := 48 }
set_option maxHeartbeats 4000000 in
set_option maxRecDepth 100000 in
theorem ww_X2_setLine_E {k0 : Nat} {x1 : Int32} {k2 : Nat} {x3 : Int32} (hk0 : k0 ∈ yy_Eds) (hk2 : k2 ∈ yy_Eds) {res : Unit × yy_T} (C : yy_C D κ p m c cX2_setLine 4 s args RX2) (hr : meth.sig.returnType = none) (hlk : meth.locks = false) (Z : yy_Z D κ ext A s.heap τ H locs) (hl : lv_has ls 4 [(0, .ref (κ 4 + k0)), (1, .int x1), (2, .ref (κ 4 + k2)), (3, .int x3)]) (h : mm_X2_setLine k0 x1 k2 x3 τ = some res) : W p l e rm_X2_setLine s m args below meth c H locs 0 0 (MQ below (yy_Qv D κ ext A res) args s 0 0 A) (F0 m 0 ls []) := by
  unfold mm_X2_setLine at h
  refine lv_aload_n C.1.1 C.1.2.1 dX2_setLine_0 rfl (lv_at hl 0 rfl) ?_
  refine lv_iload_n C.1.1 C.1.2.1 dX2_setLine_1 rfl (lv_at hl 1 rfl) ?_
  refine yy_cVi0 (As := [.int x1]) (rest := []) (id := k0) (ci := 2) (q := (RX2, TX2, 3)) C Z (ss_X2_has l D κ ext k0 x1 hk0) (yy_Eds_lt _ hk0) (yy_ent_Eds hk0 _) rfl tw_420 kw_X2_has ⟨⟨rfl, rfl⟩, ⟨Nat.le_of_ble_eq_true rfl, Nat.le_of_ble_eq_true rfl⟩, Nat.le_of_ble_eq_true rfl, Nat.le_of_ble_eq_true rfl⟩ hl.1 rfl (Nat.le_of_ble_eq_true rfl) dX2_setLine_2 h (fun r1 τ H locs Z h => ?_)
  refine yy_if_eq (tgt := 16) C dX2_setLine_5 (by decide) h (fun h => ?_) (fun h => ?_)
  · exact yy_vret C Z hr hlk dX2_setLine_16 h
  · refine lv_aload_n C.1.1 C.1.2.1 dX2_setLine_8 rfl (lv_at hl 2 rfl) ?_
    refine lv_iload_n C.1.1 C.1.2.1 dX2_setLine_9 rfl (lv_at hl 3 rfl) ?_
    refine yy_cVi0 (As := [.int x3]) (rest := []) (id := k2) (ci := 2) (q := (RX2, TX2, 3)) C Z (ss_X2_has l D κ ext k2 x3 hk2) (yy_Eds_lt _ hk2) (yy_ent_Eds hk2 _) rfl tw_420 kw_X2_has ⟨⟨rfl, rfl⟩, ⟨Nat.le_of_ble_eq_true rfl, Nat.le_of_ble_eq_true rfl⟩, Nat.le_of_ble_eq_true rfl, Nat.le_of_ble_eq_true rfl⟩ hl.1 rfl (Nat.le_of_ble_eq_true rfl) dX2_setLine_10 h (fun r2 τ H locs Z h => ?_)
    refine yy_if_ne (tgt := 17) C dX2_setLine_13 (by decide) h (fun h => ?_) (fun h => ?_)
    · refine lv_aload_n C.1.1 C.1.2.1 dX2_setLine_17 rfl (lv_at hl 0 rfl) ?_
      refine yg_X2_0 C Z hk0 tw_105 dX2_setLine_18 ?_
      refine lv_iload_n C.1.1 C.1.2.1 dX2_setLine_21 rfl (lv_at hl 1 rfl) ?_
      refine lv_aload_n C.1.1 C.1.2.1 dX2_setLine_22 rfl (lv_at hl 2 rfl) ?_
      refine yg_X2_0 C Z hk2 tw_105 dX2_setLine_23 ?_
      refine lv_iload_n C.1.1 C.1.2.1 dX2_setLine_26 rfl (lv_at hl 3 rfl) ?_
      refine yy_iald C Z (yy_E1 _ hk2) (yy_lenE1 _ hk2) dX2_setLine_27 h (fun v3 h => ?_)
      refine yy_iast C Z (yy_E1 _ hk0) (yy_lenE1 _ hk0) dX2_setLine_28 h (fun H locs τ Z h => ?_)
      refine lv_aload_n C.1.1 C.1.2.1 dX2_setLine_29 rfl (lv_at hl 2 rfl) ?_
      refine yg_X2_1 C Z hk2 tw_107 dX2_setLine_30 ?_
      refine lv_iload_n C.1.1 C.1.2.1 dX2_setLine_33 rfl (lv_at hl 3 rfl) ?_
      refine lv_bipush (v := 8) C.1.1 C.1.2.1 dX2_setLine_34 (by decide) ?_
      refine lv_imul C.1.1 C.1.2.1 dX2_setLine_36 ?_
      refine lv_aload_n C.1.1 C.1.2.1 dX2_setLine_37 rfl (lv_at hl 0 rfl) ?_
      refine yg_X2_1 C Z hk0 tw_107 dX2_setLine_38 ?_
      refine lv_iload_n C.1.1 C.1.2.1 dX2_setLine_41 rfl (lv_at hl 1 rfl) ?_
      refine lv_bipush (v := 8) C.1.1 C.1.2.1 dX2_setLine_42 (by decide) ?_
      refine lv_imul C.1.1 C.1.2.1 dX2_setLine_44 ?_
      refine lv_aload_n C.1.1 C.1.2.1 dX2_setLine_45 rfl (lv_at hl 0 rfl) ?_
      refine yg_X2_0 C Z hk0 tw_105 dX2_setLine_46 ?_
      refine lv_iload_n C.1.1 C.1.2.1 dX2_setLine_49 rfl (lv_at hl 1 rfl) ?_
      refine yy_iald C Z (yy_E1 _ hk0) (yy_lenE1 _ hk0) dX2_setLine_50 h (fun v4 h => ?_)
      refine yy_copy C Z hl.1 (yy_E2 _ hk2) (yy_lenE2 _ hk2) (yy_E2 _ hk0) (yy_lenE2 _ hk0) tw_424 yy_cpw.1 yy_cpw.2.1 yy_cpw.2.2 (Nat.le_of_ble_eq_true rfl) (Nat.le_of_ble_eq_true rfl) dX2_setLine_51 h (fun H locs τ Z h => ?_)
      exact yy_vret C Z hr hlk dX2_setLine_54 h
    · exact yy_vret C Z hr hlk dX2_setLine_16 h
set_option maxHeartbeats 4000000 in
set_option maxRecDepth 100000 in
theorem ss_X2_setLine (l : Launch) (D : va_G) (κ : Nat → Nat) (ext : va_W) (k0 : Nat) (x1 : Int32) (k2 : Nat) (x3 : Int32) (hk0 : k0 ∈ yy_Eds) (hk2 : k2 ∈ yy_Eds) : yy_Mv l D κ ext yX2_setLine cX2_setLine 4 none rm_X2_setLine 0 0 [.ref (κ 4 + k0), .int x1, .ref (κ 4 + k2), .int x3] (mm_X2_setLine k0 x1 k2 x3) := by
  intro sz τ res h
  refine yy_ofW (by decide) (Nat.le_of_ble_eq_true rfl) ?_
  intro p e s m args below meth c ls hsz E
  obtain ⟨C, hr, hlk, Z, hl⟩ := E
  subst hsz
  exact ww_X2_setLine_E hk0 hk2 C hr hlk Z hl h
/-! MovedLines$Edition.copyAll(LMovedLines$Edition;)V -/
noncomputable def mm_X2_copyAll_10b (k0 : Nat) (k1 : Nat) (x2 : Int32) : yy_M ((Int32) ⊕ ((Unit))) :=
  yy_rF k0 2 fun v2 => yy_br (v2 ≤ x2) (yy_rt (.inr ())) (yy_cl (mm_X2_setLine k0 x2 k1 x2) (fun _ => yy_rt (.inl (x2 + 1))))
noncomputable def mm_X2_copyAll_31 : yy_M Unit :=
  yy_rt ()
noncomputable def mm_X2_copyAll_10 (k0 : Nat) (k1 : Nat) (x2 : Int32) : yy_M Unit :=
  yy_cl (yy_lp (fun (w : Int32) => mm_X2_copyAll_10b k0 k1 w) x2) (fun w => mm_X2_copyAll_31 )
noncomputable def mm_X2_copyAll (k0 : Nat) (k1 : Nat) : yy_M Unit :=
  yy_rF k1 2 fun v1 => yy_wF k0 2 v1 (mm_X2_copyAll_10 k0 k1 0)
theorem kw_X2_copyAll : yy_wV RX2 yX2_copyAll cX2_copyAll 3 none 1 := ⟨⟨tw_413, tw_414, tw_54, tw_415⟩, by decide +kernel⟩
abbrev rm_X2_copyAll : Room := { frames := 2, cells := 0, slots := 0, locals := 71 }
set_option maxHeartbeats 4000000 in
set_option maxRecDepth 100000 in
theorem ww_X2_copyAll_10b {k0 : Nat} {k1 : Nat} {x2 : Int32} (hk0 : k0 ∈ yy_Eds) (hk1 : k1 ∈ yy_Eds) {res : ((Int32) ⊕ ((Unit))) × yy_T} {Q : State → Prop} (C : yy_C D κ p m c cX2_copyAll 3 s args RX2) (Z : yy_Z D κ ext A s.heap τ H locs) (hl : lv_has ls 3 [(0, .ref (κ 4 + k0)), (1, .ref (κ 4 + k1)), (2, .int x2)]) (h : mm_X2_copyAll_10b k0 k1 x2 τ = some res)
    (kI : ∀ (w : Int32) (τ1 : yy_T) (H1 : Heap) (locs1 : List Loc) (ls1 : Array Slot), res = (.inl w, τ1) → yy_Z D κ ext A s.heap τ1 H1 locs1 → lv_has ls1 3 [(0, .ref (κ 4 + k0)), (1, .ref (κ 4 + k1)), (2, .int w)] → W p l e rm_X2_copyAll s m args below meth c H1 locs1 0 0 Q (F0 m 10 ls1 []))
    (kR0 : ∀ (w : Unit) (τ1 : yy_T) (H1 : Heap) (locs1 : List Loc) (ls1 : Array Slot), res = (.inr w, τ1) → yy_Z D κ ext A s.heap τ1 H1 locs1 → lv_has ls1 3 [] → W p l e rm_X2_copyAll s m args below meth c H1 locs1 0 0 Q (F0 m 31 ls1 [])) : W p l e rm_X2_copyAll s m args below meth c H locs 0 0 Q (F0 m 10 ls []) := by
  unfold mm_X2_copyAll_10b at h
  refine lv_iload_n C.1.1 C.1.2.1 dX2_copyAll_10 rfl (lv_at hl 2 rfl) ?_
  refine lv_aload_n C.1.1 C.1.2.1 dX2_copyAll_11 rfl (lv_at hl 0 rfl) ?_
  refine yg_X2_2 C Z hk0 tw_111 dX2_copyAll_12 h (fun v2 h => ?_)
  refine yy_icmp_ge (tgt := 31) C dX2_copyAll_15 (by decide) h (fun h => ?_) (fun h => ?_)
  · exact kR0 _ _ _ _ _ (yy_rt_of h) Z (lv_sub hl [] rfl)
  · refine lv_aload_n C.1.1 C.1.2.1 dX2_copyAll_18 rfl (lv_at hl 0 rfl) ?_
    refine lv_iload_n C.1.1 C.1.2.1 dX2_copyAll_19 rfl (lv_at hl 2 rfl) ?_
    refine lv_aload_n C.1.1 C.1.2.1 dX2_copyAll_20 rfl (lv_at hl 1 rfl) ?_
    refine lv_iload_n C.1.1 C.1.2.1 dX2_copyAll_21 rfl (lv_at hl 2 rfl) ?_
    refine yy_cVv0 (As := [.int x2, .ref (κ 4 + k1), .int x2]) (rest := []) (id := k0) (ci := 2) (q := (RX2, TX2, 3)) C Z (ss_X2_setLine l D κ ext k0 x2 k1 x2 hk0 hk1) (yy_Eds_lt _ hk0) (yy_ent_Eds hk0 _) rfl tw_416 kw_X2_setLine ⟨⟨rfl, rfl⟩, ⟨Nat.le_of_ble_eq_true rfl, Nat.le_of_ble_eq_true rfl⟩, Nat.le_of_ble_eq_true rfl, Nat.le_of_ble_eq_true rfl⟩ hl.1 rfl (Nat.le_of_ble_eq_true rfl) dX2_copyAll_22 h (fun τ H locs Z h => ?_)
    refine lv_iinc (v := x2 + 1) (lv' := [(2, .int (x2 + 1)), (0, .ref (κ 4 + k0)), (1, .ref (κ 4 + k1))]) C.1.1 C.1.2.1 dX2_copyAll_25 hl (k := 2) rfl (by rfl) (by decide) rfl (fun ls hl => ?_)
    refine lv_goto (tgt := 10) C.1.1 C.1.2.1 dX2_copyAll_28 (by decide) ?_
    exact kI _ _ _ _ _ (yy_rt_of h) Z (lv_sub hl [1, 2, 0] rfl)
set_option maxHeartbeats 4000000 in
set_option maxRecDepth 100000 in
theorem ww_X2_copyAll_31 {res : Unit × yy_T} (C : yy_C D κ p m c cX2_copyAll 3 s args RX2) (hr : meth.sig.returnType = none) (hlk : meth.locks = false) (Z : yy_Z D κ ext A s.heap τ H locs) (hl : lv_has ls 3 []) (h : mm_X2_copyAll_31  τ = some res) : W p l e rm_X2_copyAll s m args below meth c H locs 0 0 (MQ below (yy_Qv D κ ext A res) args s 0 0 A) (F0 m 31 ls []) := by
  unfold mm_X2_copyAll_31 at h
  exact yy_vret C Z hr hlk dX2_copyAll_31 h
set_option maxHeartbeats 4000000 in
set_option maxRecDepth 100000 in
theorem ww_X2_copyAll_10 {k0 : Nat} {k1 : Nat} {x2 : Int32} (hk0 : k0 ∈ yy_Eds) (hk1 : k1 ∈ yy_Eds) {res : Unit × yy_T} (C : yy_C D κ p m c cX2_copyAll 3 s args RX2) (hr : meth.sig.returnType = none) (hlk : meth.locks = false) (Z : yy_Z D κ ext A s.heap τ H locs) (hl : lv_has ls 3 [(0, .ref (κ 4 + k0)), (1, .ref (κ 4 + k1)), (2, .int x2)]) (h : mm_X2_copyAll_10 k0 k1 x2 τ = some res) : W p l e rm_X2_copyAll s m args below meth c H locs 0 0 (MQ below (yy_Qv D κ ext A res) args s 0 0 A) (F0 m 10 ls []) := by
  unfold mm_X2_copyAll_10 at h
  refine yy_loop h (fun (w : Int32) (τ : yy_T) => ∀ (H : Heap) (locs : List Loc) (ls : Array Slot), yy_Z D κ ext A s.heap τ H locs → lv_has ls 3 [(0, .ref (κ 4 + k0)), (1, .ref (κ 4 + k1)), (2, .int w)] → W p l e rm_X2_copyAll s m args below meth c H locs 0 0 (MQ below (yy_Qv D κ ext A res) args s 0 0 A) (F0 m 10 ls [])) ?_ H locs ls Z hl
  intro w τ y hy hI hX H locs ls Z hl
  refine ww_X2_copyAll_10b hk0 hk1 C Z hl hy (fun w τ H locs ls ey Z hl => hI w τ ey H locs ls Z hl) (fun w τ H locs ls ey Z hl => ?_)
  · have h := hX _ _ ey
    exact ww_X2_copyAll_31  C hr hlk Z (lv_sub hl [] rfl) h
set_option maxHeartbeats 4000000 in
set_option maxRecDepth 100000 in
theorem ww_X2_copyAll_E {k0 : Nat} {k1 : Nat} (hk0 : k0 ∈ yy_Eds) (hk1 : k1 ∈ yy_Eds) {res : Unit × yy_T} (C : yy_C D κ p m c cX2_copyAll 3 s args RX2) (hr : meth.sig.returnType = none) (hlk : meth.locks = false) (Z : yy_Z D κ ext A s.heap τ H locs) (hl : lv_has ls 3 [(0, .ref (κ 4 + k0)), (1, .ref (κ 4 + k1))]) (h : mm_X2_copyAll k0 k1 τ = some res) : W p l e rm_X2_copyAll s m args below meth c H locs 0 0 (MQ below (yy_Qv D κ ext A res) args s 0 0 A) (F0 m 0 ls []) := by
  unfold mm_X2_copyAll at h
  refine lv_aload_n C.1.1 C.1.2.1 dX2_copyAll_0 rfl (lv_at hl 0 rfl) ?_
  refine lv_aload_n C.1.1 C.1.2.1 dX2_copyAll_1 rfl (lv_at hl 1 rfl) ?_
  refine yg_X2_2 C Z hk1 tw_111 dX2_copyAll_2 h (fun v1 h => ?_)
  refine yp_X2_2 C Z hk0 tw_111 dX2_copyAll_5 h (fun H locs τ Z h => ?_)
  refine lv_iconst (v := 0) C.1.1 C.1.2.1 dX2_copyAll_8 (by decide) ?_
  refine lv_istore_n (lv' := [(2, .int 0), (0, .ref (κ 4 + k0)), (1, .ref (κ 4 + k1))]) C.1.1 C.1.2.1 dX2_copyAll_9 rfl hl (by decide) rfl (fun ls hl => ?_)
  exact ww_X2_copyAll_10 hk0 hk1 C hr hlk Z (lv_sub hl [1, 2, 0] rfl) h
set_option maxHeartbeats 4000000 in
set_option maxRecDepth 100000 in
theorem ss_X2_copyAll (l : Launch) (D : va_G) (κ : Nat → Nat) (ext : va_W) (k0 : Nat) (k1 : Nat) (hk0 : k0 ∈ yy_Eds) (hk1 : k1 ∈ yy_Eds) : yy_Mv l D κ ext yX2_copyAll cX2_copyAll 3 none rm_X2_copyAll 0 0 [.ref (κ 4 + k0), .ref (κ 4 + k1)] (mm_X2_copyAll k0 k1) := by
  intro sz τ res h
  refine yy_ofW (by decide) (Nat.le_of_ble_eq_true rfl) ?_
  intro p e s m args below meth c ls hsz E
  obtain ⟨C, hr, hlk, Z, hl⟩ := E
  subst hsz
  exact ww_X2_copyAll_E hk0 hk1 C hr hlk Z hl h
/-! MovedLines$Edition.insertLine(ILMovedLines$Edition;I)V -/
noncomputable def mm_X2_insertLine_28b (k0 : Nat) (x1 : Int32) (k2 : Nat) (x3 : Int32) (x4 : Int32) : yy_M ((Int32) ⊕ ((Unit))) :=
  yy_br (x4 ≤ x1) (yy_rt (.inr ())) (yy_cl (mm_X2_setLine k0 x4 k0 (x4 - 1)) (fun _ => yy_rt (.inl (x4 + (-1)))))
noncomputable def mm_X2_insertLine_51 (k0 : Nat) (x1 : Int32) (k2 : Nat) (x3 : Int32) : yy_M Unit :=
  yy_cl (mm_X2_setLine k0 x1 k2 x3) (fun _ => yy_rt ())
noncomputable def mm_X2_insertLine_28 (k0 : Nat) (x1 : Int32) (k2 : Nat) (x3 : Int32) (x4 : Int32) : yy_M Unit :=
  yy_cl (yy_lp (fun (w : Int32) => mm_X2_insertLine_28b k0 x1 k2 x3 w) x4) (fun w => mm_X2_insertLine_51 k0 x1 k2 x3)
noncomputable def mm_X2_insertLine (k0 : Nat) (x1 : Int32) (k2 : Nat) (x3 : Int32) : yy_M Unit :=
  yy_rF k0 2 fun v1 => yy_br (v1 < 14) (yy_rF k0 2 fun v2 => yy_wF k0 2 (v2 + 1) (yy_rF k0 2 fun v3 => mm_X2_insertLine_28 k0 x1 k2 x3 (v3 - 1))) (yy_rt ())
theorem kw_X2_insertLine : yy_wV RX2 yX2_insertLine cX2_insertLine 5 none 3 := ⟨⟨tw_657, tw_658, tw_54, tw_659⟩, by decide +kernel⟩
abbrev rm_X2_insertLine : Room := { frames := 2, cells := 0, slots := 0, locals := 71 }
set_option maxHeartbeats 4000000 in
set_option maxRecDepth 100000 in
theorem ww_X2_insertLine_28b {k0 : Nat} {x1 : Int32} {k2 : Nat} {x3 : Int32} {x4 : Int32} (hk0 : k0 ∈ yy_Eds) (hk2 : k2 ∈ yy_Eds) {res : ((Int32) ⊕ ((Unit))) × yy_T} {Q : State → Prop} (C : yy_C D κ p m c cX2_insertLine 5 s args RX2) (Z : yy_Z D κ ext A s.heap τ H locs) (hl : lv_has ls 5 [(0, .ref (κ 4 + k0)), (1, .int x1), (2, .ref (κ 4 + k2)), (3, .int x3), (4, .int x4)]) (h : mm_X2_insertLine_28b k0 x1 k2 x3 x4 τ = some res)
    (kI : ∀ (w : Int32) (τ1 : yy_T) (H1 : Heap) (locs1 : List Loc) (ls1 : Array Slot), res = (.inl w, τ1) → yy_Z D κ ext A s.heap τ1 H1 locs1 → lv_has ls1 5 [(0, .ref (κ 4 + k0)), (1, .int x1), (2, .ref (κ 4 + k2)), (3, .int x3), (4, .int w)] → W p l e rm_X2_insertLine s m args below meth c H1 locs1 0 0 Q (F0 m 28 ls1 []))
    (kR0 : ∀ (w : Unit) (τ1 : yy_T) (H1 : Heap) (locs1 : List Loc) (ls1 : Array Slot), res = (.inr w, τ1) → yy_Z D κ ext A s.heap τ1 H1 locs1 → lv_has ls1 5 [(0, .ref (κ 4 + k0)), (1, .int x1), (2, .ref (κ 4 + k2)), (3, .int x3)] → W p l e rm_X2_insertLine s m args below meth c H1 locs1 0 0 Q (F0 m 51 ls1 [])) : W p l e rm_X2_insertLine s m args below meth c H locs 0 0 Q (F0 m 28 ls []) := by
  unfold mm_X2_insertLine_28b at h
  refine lv_iload C.1.1 C.1.2.1 dX2_insertLine_28 (lv_at hl 4 rfl) ?_
  refine lv_iload_n C.1.1 C.1.2.1 dX2_insertLine_30 rfl (lv_at hl 1 rfl) ?_
  refine yy_icmp_le (tgt := 51) C dX2_insertLine_31 (by decide) h (fun h => ?_) (fun h => ?_)
  · exact kR0 _ _ _ _ _ (yy_rt_of h) Z (lv_sub hl [0, 1, 2, 3] rfl)
  · refine lv_aload_n C.1.1 C.1.2.1 dX2_insertLine_34 rfl (lv_at hl 0 rfl) ?_
    refine lv_iload C.1.1 C.1.2.1 dX2_insertLine_35 (lv_at hl 4 rfl) ?_
    refine lv_aload_n C.1.1 C.1.2.1 dX2_insertLine_37 rfl (lv_at hl 0 rfl) ?_
    refine lv_iload C.1.1 C.1.2.1 dX2_insertLine_38 (lv_at hl 4 rfl) ?_
    refine lv_iconst (v := 1) C.1.1 C.1.2.1 dX2_insertLine_40 (by decide) ?_
    refine lv_isub C.1.1 C.1.2.1 dX2_insertLine_41 ?_
    refine yy_cVv0 (As := [.int x4, .ref (κ 4 + k0), .int (x4 - 1)]) (rest := []) (id := k0) (ci := 2) (q := (RX2, TX2, 3)) C Z (ss_X2_setLine l D κ ext k0 x4 k0 (x4 - 1) hk0 hk0) (yy_Eds_lt _ hk0) (yy_ent_Eds hk0 _) rfl tw_416 kw_X2_setLine ⟨⟨rfl, rfl⟩, ⟨Nat.le_of_ble_eq_true rfl, Nat.le_of_ble_eq_true rfl⟩, Nat.le_of_ble_eq_true rfl, Nat.le_of_ble_eq_true rfl⟩ hl.1 rfl (Nat.le_of_ble_eq_true rfl) dX2_insertLine_42 h (fun τ H locs Z h => ?_)
    refine lv_iinc (v := x4 + (-1)) (lv' := [(4, .int (x4 + (-1))), (0, .ref (κ 4 + k0)), (1, .int x1), (2, .ref (κ 4 + k2)), (3, .int x3)]) C.1.1 C.1.2.1 dX2_insertLine_45 hl (k := 4) rfl (by rfl) (by decide) rfl (fun ls hl => ?_)
    refine lv_goto (tgt := 28) C.1.1 C.1.2.1 dX2_insertLine_48 (by decide) ?_
    exact kI _ _ _ _ _ (yy_rt_of h) Z (lv_sub hl [1, 2, 3, 4, 0] rfl)
set_option maxHeartbeats 4000000 in
set_option maxRecDepth 100000 in
theorem ww_X2_insertLine_51 {k0 : Nat} {x1 : Int32} {k2 : Nat} {x3 : Int32} (hk0 : k0 ∈ yy_Eds) (hk2 : k2 ∈ yy_Eds) {res : Unit × yy_T} (C : yy_C D κ p m c cX2_insertLine 5 s args RX2) (hr : meth.sig.returnType = none) (hlk : meth.locks = false) (Z : yy_Z D κ ext A s.heap τ H locs) (hl : lv_has ls 5 [(0, .ref (κ 4 + k0)), (1, .int x1), (2, .ref (κ 4 + k2)), (3, .int x3)]) (h : mm_X2_insertLine_51 k0 x1 k2 x3 τ = some res) : W p l e rm_X2_insertLine s m args below meth c H locs 0 0 (MQ below (yy_Qv D κ ext A res) args s 0 0 A) (F0 m 51 ls []) := by
  unfold mm_X2_insertLine_51 at h
  refine lv_aload_n C.1.1 C.1.2.1 dX2_insertLine_51 rfl (lv_at hl 0 rfl) ?_
  refine lv_iload_n C.1.1 C.1.2.1 dX2_insertLine_52 rfl (lv_at hl 1 rfl) ?_
  refine lv_aload_n C.1.1 C.1.2.1 dX2_insertLine_53 rfl (lv_at hl 2 rfl) ?_
  refine lv_iload_n C.1.1 C.1.2.1 dX2_insertLine_54 rfl (lv_at hl 3 rfl) ?_
  refine yy_cVv0 (As := [.int x1, .ref (κ 4 + k2), .int x3]) (rest := []) (id := k0) (ci := 2) (q := (RX2, TX2, 3)) C Z (ss_X2_setLine l D κ ext k0 x1 k2 x3 hk0 hk2) (yy_Eds_lt _ hk0) (yy_ent_Eds hk0 _) rfl tw_416 kw_X2_setLine ⟨⟨rfl, rfl⟩, ⟨Nat.le_of_ble_eq_true rfl, Nat.le_of_ble_eq_true rfl⟩, Nat.le_of_ble_eq_true rfl, Nat.le_of_ble_eq_true rfl⟩ hl.1 rfl (Nat.le_of_ble_eq_true rfl) dX2_insertLine_55 h (fun τ H locs Z h => ?_)
  exact yy_vret C Z hr hlk dX2_insertLine_58 h
set_option maxHeartbeats 4000000 in
set_option maxRecDepth 100000 in
theorem ww_X2_insertLine_28 {k0 : Nat} {x1 : Int32} {k2 : Nat} {x3 : Int32} {x4 : Int32} (hk0 : k0 ∈ yy_Eds) (hk2 : k2 ∈ yy_Eds) {res : Unit × yy_T} (C : yy_C D κ p m c cX2_insertLine 5 s args RX2) (hr : meth.sig.returnType = none) (hlk : meth.locks = false) (Z : yy_Z D κ ext A s.heap τ H locs) (hl : lv_has ls 5 [(0, .ref (κ 4 + k0)), (1, .int x1), (2, .ref (κ 4 + k2)), (3, .int x3), (4, .int x4)]) (h : mm_X2_insertLine_28 k0 x1 k2 x3 x4 τ = some res) : W p l e rm_X2_insertLine s m args below meth c H locs 0 0 (MQ below (yy_Qv D κ ext A res) args s 0 0 A) (F0 m 28 ls []) := by
  unfold mm_X2_insertLine_28 at h
  refine yy_loop h (fun (w : Int32) (τ : yy_T) => ∀ (H : Heap) (locs : List Loc) (ls : Array Slot), yy_Z D κ ext A s.heap τ H locs → lv_has ls 5 [(0, .ref (κ 4 + k0)), (1, .int x1), (2, .ref (κ 4 + k2)), (3, .int x3), (4, .int w)] → W p l e rm_X2_insertLine s m args below meth c H locs 0 0 (MQ below (yy_Qv D κ ext A res) args s 0 0 A) (F0 m 28 ls [])) ?_ H locs ls Z hl
  intro w τ y hy hI hX H locs ls Z hl
  refine ww_X2_insertLine_28b hk0 hk2 C Z hl hy (fun w τ H locs ls ey Z hl => hI w τ ey H locs ls Z hl) (fun w τ H locs ls ey Z hl => ?_)
  · have h := hX _ _ ey
    exact ww_X2_insertLine_51 hk0 hk2 C hr hlk Z (lv_sub hl [0, 1, 2, 3] rfl) h
set_option maxHeartbeats 4000000 in
set_option maxRecDepth 100000 in
theorem ww_X2_insertLine_E {k0 : Nat} {x1 : Int32} {k2 : Nat} {x3 : Int32} (hk0 : k0 ∈ yy_Eds) (hk2 : k2 ∈ yy_Eds) {res : Unit × yy_T} (C : yy_C D κ p m c cX2_insertLine 5 s args RX2) (hr : meth.sig.returnType = none) (hlk : meth.locks = false) (Z : yy_Z D κ ext A s.heap τ H locs) (hl : lv_has ls 5 [(0, .ref (κ 4 + k0)), (1, .int x1), (2, .ref (κ 4 + k2)), (3, .int x3)]) (h : mm_X2_insertLine k0 x1 k2 x3 τ = some res) : W p l e rm_X2_insertLine s m args below meth c H locs 0 0 (MQ below (yy_Qv D κ ext A res) args s 0 0 A) (F0 m 0 ls []) := by
  unfold mm_X2_insertLine at h
  refine lv_aload_n C.1.1 C.1.2.1 dX2_insertLine_0 rfl (lv_at hl 0 rfl) ?_
  refine yg_X2_2 C Z hk0 tw_111 dX2_insertLine_1 h (fun v1 h => ?_)
  refine lv_bipush (v := 14) C.1.1 C.1.2.1 dX2_insertLine_4 (by decide) ?_
  refine yy_icmp_lt (tgt := 10) C dX2_insertLine_6 (by decide) h (fun h => ?_) (fun h => ?_)
  · refine lv_aload_n C.1.1 C.1.2.1 dX2_insertLine_10 rfl (lv_at hl 0 rfl) ?_
    refine lv_dup C.1.1 C.1.2.1 dX2_insertLine_11 rfl ?_
    refine yg_X2_2 C Z hk0 tw_111 dX2_insertLine_12 h (fun v2 h => ?_)
    refine lv_iconst (v := 1) C.1.1 C.1.2.1 dX2_insertLine_15 (by decide) ?_
    refine lv_iadd C.1.1 C.1.2.1 dX2_insertLine_16 ?_
    refine yp_X2_2 C Z hk0 tw_111 dX2_insertLine_17 h (fun H locs τ Z h => ?_)
    refine lv_aload_n C.1.1 C.1.2.1 dX2_insertLine_20 rfl (lv_at hl 0 rfl) ?_
    refine yg_X2_2 C Z hk0 tw_111 dX2_insertLine_21 h (fun v3 h => ?_)
    refine lv_iconst (v := 1) C.1.1 C.1.2.1 dX2_insertLine_24 (by decide) ?_
    refine lv_isub C.1.1 C.1.2.1 dX2_insertLine_25 ?_
    refine lv_istore (lv' := [(4, .int (v3 - 1)), (0, .ref (κ 4 + k0)), (1, .int x1), (2, .ref (κ 4 + k2)), (3, .int x3)]) C.1.1 C.1.2.1 dX2_insertLine_26 hl (by decide) rfl (fun ls hl => ?_)
    exact ww_X2_insertLine_28 hk0 hk2 C hr hlk Z (lv_sub hl [1, 2, 3, 4, 0] rfl) h
  · exact yy_vret C Z hr hlk dX2_insertLine_9 h
set_option maxHeartbeats 4000000 in
set_option maxRecDepth 100000 in
theorem ss_X2_insertLine (l : Launch) (D : va_G) (κ : Nat → Nat) (ext : va_W) (k0 : Nat) (x1 : Int32) (k2 : Nat) (x3 : Int32) (hk0 : k0 ∈ yy_Eds) (hk2 : k2 ∈ yy_Eds) : yy_Mv l D κ ext yX2_insertLine cX2_insertLine 5 none rm_X2_insertLine 0 0 [.ref (κ 4 + k0), .int x1, .ref (κ 4 + k2), .int x3] (mm_X2_insertLine k0 x1 k2 x3) := by
  intro sz τ res h
  refine yy_ofW (by decide) (Nat.le_of_ble_eq_true rfl) ?_
  intro p e s m args below meth c ls hsz E
  obtain ⟨C, hr, hlk, Z, hl⟩ := E
  subst hsz
  exact ww_X2_insertLine_E hk0 hk2 C hr hlk Z hl h
/-! MovedLines$Edition.removeLine(I)V -/
noncomputable def mm_X2_removeLine_13b (k0 : Nat) (x2 : Int32) : yy_M ((Int32) ⊕ ((Unit))) :=
  yy_rF k0 2 fun v2 => yy_br (v2 ≤ x2) (yy_rt (.inr ())) (yy_cl (mm_X2_setLine k0 (x2 - 1) k0 x2) (fun _ => yy_rt (.inl (x2 + 1))))
noncomputable def mm_X2_removeLine_36 (k0 : Nat) : yy_M Unit :=
  yy_rF k0 2 fun v3 => yy_wF k0 2 (v3 - 1) (yy_rt ())
noncomputable def mm_X2_removeLine_13 (k0 : Nat) (x2 : Int32) : yy_M Unit :=
  yy_cl (yy_lp (fun (w : Int32) => mm_X2_removeLine_13b k0 w) x2) (fun w => mm_X2_removeLine_36 k0)
noncomputable def mm_X2_removeLine (k0 : Nat) (x1 : Int32) : yy_M Unit :=
  yy_cl (mm_X2_has k0 x1) (fun r1 => yy_br (r1 = 0) (yy_rt ()) (mm_X2_removeLine_13 k0 (x1 + 1)))
theorem kw_X2_removeLine : yy_wV RX2 yX2_removeLine cX2_removeLine 3 none 1 := ⟨⟨tw_669, tw_670, tw_54, tw_671⟩, by decide +kernel⟩
abbrev rm_X2_removeLine : Room := { frames := 2, cells := 0, slots := 0, locals := 71 }
set_option maxHeartbeats 4000000 in
set_option maxRecDepth 100000 in
theorem ww_X2_removeLine_13b {k0 : Nat} {x2 : Int32} (hk0 : k0 ∈ yy_Eds) {res : ((Int32) ⊕ ((Unit))) × yy_T} {Q : State → Prop} (C : yy_C D κ p m c cX2_removeLine 3 s args RX2) (Z : yy_Z D κ ext A s.heap τ H locs) (hl : lv_has ls 3 [(0, .ref (κ 4 + k0)), (2, .int x2)]) (h : mm_X2_removeLine_13b k0 x2 τ = some res)
    (kI : ∀ (w : Int32) (τ1 : yy_T) (H1 : Heap) (locs1 : List Loc) (ls1 : Array Slot), res = (.inl w, τ1) → yy_Z D κ ext A s.heap τ1 H1 locs1 → lv_has ls1 3 [(0, .ref (κ 4 + k0)), (2, .int w)] → W p l e rm_X2_removeLine s m args below meth c H1 locs1 0 0 Q (F0 m 13 ls1 []))
    (kR0 : ∀ (w : Unit) (τ1 : yy_T) (H1 : Heap) (locs1 : List Loc) (ls1 : Array Slot), res = (.inr w, τ1) → yy_Z D κ ext A s.heap τ1 H1 locs1 → lv_has ls1 3 [(0, .ref (κ 4 + k0))] → W p l e rm_X2_removeLine s m args below meth c H1 locs1 0 0 Q (F0 m 36 ls1 [])) : W p l e rm_X2_removeLine s m args below meth c H locs 0 0 Q (F0 m 13 ls []) := by
  unfold mm_X2_removeLine_13b at h
  refine lv_iload_n C.1.1 C.1.2.1 dX2_removeLine_13 rfl (lv_at hl 1 rfl) ?_
  refine lv_aload_n C.1.1 C.1.2.1 dX2_removeLine_14 rfl (lv_at hl 0 rfl) ?_
  refine yg_X2_2 C Z hk0 tw_111 dX2_removeLine_15 h (fun v2 h => ?_)
  refine yy_icmp_ge (tgt := 36) C dX2_removeLine_18 (by decide) h (fun h => ?_) (fun h => ?_)
  · exact kR0 _ _ _ _ _ (yy_rt_of h) Z (lv_sub hl [0] rfl)
  · refine lv_aload_n C.1.1 C.1.2.1 dX2_removeLine_21 rfl (lv_at hl 0 rfl) ?_
    refine lv_iload_n C.1.1 C.1.2.1 dX2_removeLine_22 rfl (lv_at hl 1 rfl) ?_
    refine lv_iconst (v := 1) C.1.1 C.1.2.1 dX2_removeLine_23 (by decide) ?_
    refine lv_isub C.1.1 C.1.2.1 dX2_removeLine_24 ?_
    refine lv_aload_n C.1.1 C.1.2.1 dX2_removeLine_25 rfl (lv_at hl 0 rfl) ?_
    refine lv_iload_n C.1.1 C.1.2.1 dX2_removeLine_26 rfl (lv_at hl 1 rfl) ?_
    refine yy_cVv0 (As := [.int (x2 - 1), .ref (κ 4 + k0), .int x2]) (rest := []) (id := k0) (ci := 2) (q := (RX2, TX2, 3)) C Z (ss_X2_setLine l D κ ext k0 (x2 - 1) k0 x2 hk0 hk0) (yy_Eds_lt _ hk0) (yy_ent_Eds hk0 _) rfl tw_416 kw_X2_setLine ⟨⟨rfl, rfl⟩, ⟨Nat.le_of_ble_eq_true rfl, Nat.le_of_ble_eq_true rfl⟩, Nat.le_of_ble_eq_true rfl, Nat.le_of_ble_eq_true rfl⟩ hl.1 rfl (Nat.le_of_ble_eq_true rfl) dX2_removeLine_27 h (fun τ H locs Z h => ?_)
    refine lv_iinc (v := x2 + 1) (lv' := [(2, .int (x2 + 1)), (0, .ref (κ 4 + k0))]) C.1.1 C.1.2.1 dX2_removeLine_30 hl (k := 1) rfl (by rfl) (by decide) rfl (fun ls hl => ?_)
    refine lv_goto (tgt := 13) C.1.1 C.1.2.1 dX2_removeLine_33 (by decide) ?_
    exact kI _ _ _ _ _ (yy_rt_of h) Z (lv_sub hl [1, 0] rfl)
set_option maxHeartbeats 4000000 in
set_option maxRecDepth 100000 in
theorem ww_X2_removeLine_36 {k0 : Nat} (hk0 : k0 ∈ yy_Eds) {res : Unit × yy_T} (C : yy_C D κ p m c cX2_removeLine 3 s args RX2) (hr : meth.sig.returnType = none) (hlk : meth.locks = false) (Z : yy_Z D κ ext A s.heap τ H locs) (hl : lv_has ls 3 [(0, .ref (κ 4 + k0))]) (h : mm_X2_removeLine_36 k0 τ = some res) : W p l e rm_X2_removeLine s m args below meth c H locs 0 0 (MQ below (yy_Qv D κ ext A res) args s 0 0 A) (F0 m 36 ls []) := by
  unfold mm_X2_removeLine_36 at h
  refine lv_aload_n C.1.1 C.1.2.1 dX2_removeLine_36 rfl (lv_at hl 0 rfl) ?_
  refine lv_dup C.1.1 C.1.2.1 dX2_removeLine_37 rfl ?_
  refine yg_X2_2 C Z hk0 tw_111 dX2_removeLine_38 h (fun v3 h => ?_)
  refine lv_iconst (v := 1) C.1.1 C.1.2.1 dX2_removeLine_41 (by decide) ?_
  refine lv_isub C.1.1 C.1.2.1 dX2_removeLine_42 ?_
  refine yp_X2_2 C Z hk0 tw_111 dX2_removeLine_43 h (fun H locs τ Z h => ?_)
  exact yy_vret C Z hr hlk dX2_removeLine_46 h
set_option maxHeartbeats 4000000 in
set_option maxRecDepth 100000 in
theorem ww_X2_removeLine_13 {k0 : Nat} {x2 : Int32} (hk0 : k0 ∈ yy_Eds) {res : Unit × yy_T} (C : yy_C D κ p m c cX2_removeLine 3 s args RX2) (hr : meth.sig.returnType = none) (hlk : meth.locks = false) (Z : yy_Z D κ ext A s.heap τ H locs) (hl : lv_has ls 3 [(0, .ref (κ 4 + k0)), (2, .int x2)]) (h : mm_X2_removeLine_13 k0 x2 τ = some res) : W p l e rm_X2_removeLine s m args below meth c H locs 0 0 (MQ below (yy_Qv D κ ext A res) args s 0 0 A) (F0 m 13 ls []) := by
  unfold mm_X2_removeLine_13 at h
  refine yy_loop h (fun (w : Int32) (τ : yy_T) => ∀ (H : Heap) (locs : List Loc) (ls : Array Slot), yy_Z D κ ext A s.heap τ H locs → lv_has ls 3 [(0, .ref (κ 4 + k0)), (2, .int w)] → W p l e rm_X2_removeLine s m args below meth c H locs 0 0 (MQ below (yy_Qv D κ ext A res) args s 0 0 A) (F0 m 13 ls [])) ?_ H locs ls Z hl
  intro w τ y hy hI hX H locs ls Z hl
  refine ww_X2_removeLine_13b hk0 C Z hl hy (fun w τ H locs ls ey Z hl => hI w τ ey H locs ls Z hl) (fun w τ H locs ls ey Z hl => ?_)
  · have h := hX _ _ ey
    exact ww_X2_removeLine_36 hk0 C hr hlk Z (lv_sub hl [0] rfl) h
set_option maxHeartbeats 4000000 in
set_option maxRecDepth 100000 in
theorem ww_X2_removeLine_E {k0 : Nat} {x1 : Int32} (hk0 : k0 ∈ yy_Eds) {res : Unit × yy_T} (C : yy_C D κ p m c cX2_removeLine 3 s args RX2) (hr : meth.sig.returnType = none) (hlk : meth.locks = false) (Z : yy_Z D κ ext A s.heap τ H locs) (hl : lv_has ls 3 [(0, .ref (κ 4 + k0)), (1, .int x1)]) (h : mm_X2_removeLine k0 x1 τ = some res) : W p l e rm_X2_removeLine s m args below meth c H locs 0 0 (MQ below (yy_Qv D κ ext A res) args s 0 0 A) (F0 m 0 ls []) := by
  unfold mm_X2_removeLine at h
  refine lv_aload_n C.1.1 C.1.2.1 dX2_removeLine_0 rfl (lv_at hl 0 rfl) ?_
  refine lv_iload_n C.1.1 C.1.2.1 dX2_removeLine_1 rfl (lv_at hl 1 rfl) ?_
  refine yy_cVi0 (As := [.int x1]) (rest := []) (id := k0) (ci := 2) (q := (RX2, TX2, 3)) C Z (ss_X2_has l D κ ext k0 x1 hk0) (yy_Eds_lt _ hk0) (yy_ent_Eds hk0 _) rfl tw_420 kw_X2_has ⟨⟨rfl, rfl⟩, ⟨Nat.le_of_ble_eq_true rfl, Nat.le_of_ble_eq_true rfl⟩, Nat.le_of_ble_eq_true rfl, Nat.le_of_ble_eq_true rfl⟩ hl.1 rfl (Nat.le_of_ble_eq_true rfl) dX2_removeLine_2 h (fun r1 τ H locs Z h => ?_)
  refine yy_if_ne (tgt := 9) C dX2_removeLine_5 (by decide) h (fun h => ?_) (fun h => ?_)
  · refine lv_iload_n C.1.1 C.1.2.1 dX2_removeLine_9 rfl (lv_at hl 1 rfl) ?_
    refine lv_iconst (v := 1) C.1.1 C.1.2.1 dX2_removeLine_10 (by decide) ?_
    refine lv_iadd C.1.1 C.1.2.1 dX2_removeLine_11 ?_
    refine lv_istore_n (lv' := [(2, .int (x1 + 1)), (0, .ref (κ 4 + k0)), (1, .int x1)]) C.1.1 C.1.2.1 dX2_removeLine_12 rfl hl (by decide) rfl (fun ls hl => ?_)
    exact ww_X2_removeLine_13 hk0 C hr hlk Z (lv_sub hl [1, 0] rfl) h
  · exact yy_vret C Z hr hlk dX2_removeLine_8 h
set_option maxHeartbeats 4000000 in
set_option maxRecDepth 100000 in
theorem ss_X2_removeLine (l : Launch) (D : va_G) (κ : Nat → Nat) (ext : va_W) (k0 : Nat) (x1 : Int32) (hk0 : k0 ∈ yy_Eds) : yy_Mv l D κ ext yX2_removeLine cX2_removeLine 3 none rm_X2_removeLine 0 0 [.ref (κ 4 + k0), .int x1] (mm_X2_removeLine k0 x1) := by
  intro sz τ res h
  refine yy_ofW (by decide) (Nat.le_of_ble_eq_true rfl) ?_
  intro p e s m args below meth c ls hsz E
  obtain ⟨C, hr, hlk, Z, hl⟩ := E
  subst hsz
  exact ww_X2_removeLine_E hk0 C hr hlk Z hl h
/-! MovedLines$Edition.sourceOf(IIII)I -/
noncomputable def mm_X2_sourceOf_30 (x1 : Int32) (x2 : Int32) (s0 : Int32) : yy_M Int32 :=
  yy_br (x1 ≤ s0) (yy_rt (s0 + x2)) (yy_rt s0)
noncomputable def mm_X2_sourceOf_18 (x0 : Int32) (x1 : Int32) (x2 : Int32) (x3 : Int32) : yy_M Int32 :=
  yy_br (x3 ≤ x0) (mm_X2_sourceOf_30 x1 x2 (x0 - x2)) (mm_X2_sourceOf_30 x1 x2 x0)
noncomputable def mm_X2_sourceOf (x0 : Int32) (x1 : Int32) (x2 : Int32) (x3 : Int32) : yy_M Int32 :=
  yy_br (x0 < x3) (mm_X2_sourceOf_18 x0 x1 x2 x3) (yy_br ((x3 + x2) ≤ x0) (mm_X2_sourceOf_18 x0 x1 x2 x3) (yy_rt ((x1 + x0) - x3)))
theorem kw_X2_sourceOf : yy_wS RX2 yX2_sourceOf cX2_sourceOf 5 (some .int) 4 := ⟨⟨tw_681, tw_54, tw_682⟩, by decide +kernel⟩
abbrev rm_X2_sourceOf : Room := { frames := 0, cells := 0, slots := 0, locals := 0 }
set_option maxHeartbeats 4000000 in
set_option maxRecDepth 100000 in
theorem ww_X2_sourceOf_30 {x1 : Int32} {x2 : Int32} {s0 : Int32} {res : Int32 × yy_T} (C : yy_C D κ p m c cX2_sourceOf 5 s args RX2) (hr : meth.sig.returnType = (some .int)) (hlk : meth.locks = false) (Z : yy_Z D κ ext A s.heap τ H locs) (hl : lv_has ls 5 [(1, .int x1), (2, .int x2)]) (h : mm_X2_sourceOf_30 x1 x2 s0 τ = some res) : W p l e rm_X2_sourceOf s m args below meth c H locs 0 0 (MQ below (yy_Qi D κ ext A res) args s 0 0 A) (F0 m 30 ls [.int s0]) := by
  unfold mm_X2_sourceOf_30 at h
  refine lv_istore (lv' := [(4, .int s0), (1, .int x1), (2, .int x2)]) C.1.1 C.1.2.1 dX2_sourceOf_30 hl (by decide) rfl (fun ls hl => ?_)
  refine lv_iload C.1.1 C.1.2.1 dX2_sourceOf_32 (lv_at hl 0 rfl) ?_
  refine lv_iload_n C.1.1 C.1.2.1 dX2_sourceOf_34 rfl (lv_at hl 1 rfl) ?_
  refine yy_icmp_ge (tgt := 43) C dX2_sourceOf_35 (by decide) h (fun h => ?_) (fun h => ?_)
  · refine lv_iload C.1.1 C.1.2.1 dX2_sourceOf_43 (lv_at hl 0 rfl) ?_
    refine lv_iload_n C.1.1 C.1.2.1 dX2_sourceOf_45 rfl (lv_at hl 2 rfl) ?_
    refine lv_iadd C.1.1 C.1.2.1 dX2_sourceOf_46 ?_
    exact yy_iret C Z hr hlk rfl dX2_sourceOf_47 h
  · refine lv_iload C.1.1 C.1.2.1 dX2_sourceOf_38 (lv_at hl 0 rfl) ?_
    refine lv_goto (tgt := 47) C.1.1 C.1.2.1 dX2_sourceOf_40 (by decide) ?_
    exact yy_iret C Z hr hlk rfl dX2_sourceOf_47 h
set_option maxHeartbeats 4000000 in
set_option maxRecDepth 100000 in
theorem ww_X2_sourceOf_18 {x0 : Int32} {x1 : Int32} {x2 : Int32} {x3 : Int32} {res : Int32 × yy_T} (C : yy_C D κ p m c cX2_sourceOf 5 s args RX2) (hr : meth.sig.returnType = (some .int)) (hlk : meth.locks = false) (Z : yy_Z D κ ext A s.heap τ H locs) (hl : lv_has ls 5 [(0, .int x0), (1, .int x1), (2, .int x2), (3, .int x3)]) (h : mm_X2_sourceOf_18 x0 x1 x2 x3 τ = some res) : W p l e rm_X2_sourceOf s m args below meth c H locs 0 0 (MQ below (yy_Qi D κ ext A res) args s 0 0 A) (F0 m 18 ls []) := by
  unfold mm_X2_sourceOf_18 at h
  refine lv_iload_n C.1.1 C.1.2.1 dX2_sourceOf_18 rfl (lv_at hl 0 rfl) ?_
  refine lv_iload_n C.1.1 C.1.2.1 dX2_sourceOf_19 rfl (lv_at hl 3 rfl) ?_
  refine yy_icmp_ge (tgt := 27) C dX2_sourceOf_20 (by decide) h (fun h => ?_) (fun h => ?_)
  · refine lv_iload_n C.1.1 C.1.2.1 dX2_sourceOf_27 rfl (lv_at hl 0 rfl) ?_
    refine lv_iload_n C.1.1 C.1.2.1 dX2_sourceOf_28 rfl (lv_at hl 2 rfl) ?_
    refine lv_isub C.1.1 C.1.2.1 dX2_sourceOf_29 ?_
    exact ww_X2_sourceOf_30  C hr hlk Z (lv_sub hl [1, 2] rfl) h
  · refine lv_iload_n C.1.1 C.1.2.1 dX2_sourceOf_23 rfl (lv_at hl 0 rfl) ?_
    refine lv_goto (tgt := 30) C.1.1 C.1.2.1 dX2_sourceOf_24 (by decide) ?_
    exact ww_X2_sourceOf_30  C hr hlk Z (lv_sub hl [1, 2] rfl) h
set_option maxHeartbeats 4000000 in
set_option maxRecDepth 100000 in
theorem ww_X2_sourceOf_E {x0 : Int32} {x1 : Int32} {x2 : Int32} {x3 : Int32} {res : Int32 × yy_T} (C : yy_C D κ p m c cX2_sourceOf 5 s args RX2) (hr : meth.sig.returnType = (some .int)) (hlk : meth.locks = false) (Z : yy_Z D κ ext A s.heap τ H locs) (hl : lv_has ls 5 [(0, .int x0), (1, .int x1), (2, .int x2), (3, .int x3)]) (h : mm_X2_sourceOf x0 x1 x2 x3 τ = some res) : W p l e rm_X2_sourceOf s m args below meth c H locs 0 0 (MQ below (yy_Qi D κ ext A res) args s 0 0 A) (F0 m 0 ls []) := by
  unfold mm_X2_sourceOf at h
  refine lv_iload_n C.1.1 C.1.2.1 dX2_sourceOf_0 rfl (lv_at hl 0 rfl) ?_
  refine lv_iload_n C.1.1 C.1.2.1 dX2_sourceOf_1 rfl (lv_at hl 3 rfl) ?_
  refine yy_icmp_lt (tgt := 18) C dX2_sourceOf_2 (by decide) h (fun h => ?_) (fun h => ?_)
  · exact ww_X2_sourceOf_18  C hr hlk Z (lv_sub hl [0, 1, 2, 3] rfl) h
  · refine lv_iload_n C.1.1 C.1.2.1 dX2_sourceOf_5 rfl (lv_at hl 0 rfl) ?_
    refine lv_iload_n C.1.1 C.1.2.1 dX2_sourceOf_6 rfl (lv_at hl 3 rfl) ?_
    refine lv_iload_n C.1.1 C.1.2.1 dX2_sourceOf_7 rfl (lv_at hl 2 rfl) ?_
    refine lv_iadd C.1.1 C.1.2.1 dX2_sourceOf_8 ?_
    refine yy_icmp_ge (tgt := 18) C dX2_sourceOf_9 (by decide) h (fun h => ?_) (fun h => ?_)
    · exact ww_X2_sourceOf_18  C hr hlk Z (lv_sub hl [0, 1, 2, 3] rfl) h
    · refine lv_iload_n C.1.1 C.1.2.1 dX2_sourceOf_12 rfl (lv_at hl 1 rfl) ?_
      refine lv_iload_n C.1.1 C.1.2.1 dX2_sourceOf_13 rfl (lv_at hl 0 rfl) ?_
      refine lv_iadd C.1.1 C.1.2.1 dX2_sourceOf_14 ?_
      refine lv_iload_n C.1.1 C.1.2.1 dX2_sourceOf_15 rfl (lv_at hl 3 rfl) ?_
      refine lv_isub C.1.1 C.1.2.1 dX2_sourceOf_16 ?_
      exact yy_iret C Z hr hlk rfl dX2_sourceOf_17 h
set_option maxHeartbeats 4000000 in
set_option maxRecDepth 100000 in
theorem ss_X2_sourceOf (l : Launch) (D : va_G) (κ : Nat → Nat) (ext : va_W) (x0 : Int32) (x1 : Int32) (x2 : Int32) (x3 : Int32) : yy_Mi l D κ ext yX2_sourceOf cX2_sourceOf 5 (some .int) rm_X2_sourceOf 0 0 [.int x0, .int x1, .int x2, .int x3] (mm_X2_sourceOf x0 x1 x2 x3) := by
  intro sz τ res h
  refine yy_ofW (by decide) (Nat.le_of_ble_eq_true rfl) ?_
  intro p e s m args below meth c ls hsz E
  obtain ⟨C, hr, hlk, Z, hl⟩ := E
  subst hsz
  exact ww_X2_sourceOf_E  C hr hlk Z hl h
/-! MovedLines$Edition.arrangeFrom(LMovedLines$Edition;III)V -/
noncomputable def mm_X2_arrangeFrom_3b (k0 : Nat) (k1 : Nat) (x2 : Int32) (x3 : Int32) (x4 : Int32) (x5 : Int32) : yy_M ((Int32) ⊕ ((Unit))) :=
  yy_rF k0 2 fun v1 => yy_br (v1 ≤ x5) (yy_rt (.inr ())) (yy_cl (mm_X2_sourceOf x5 x2 x3 x4) (fun r2 => yy_cl (mm_X2_setLine k0 x5 k1 r2) (fun _ => yy_rt (.inl (x5 + 1)))))
noncomputable def mm_X2_arrangeFrom_34 : yy_M Unit :=
  yy_rt ()
noncomputable def mm_X2_arrangeFrom_3 (k0 : Nat) (k1 : Nat) (x2 : Int32) (x3 : Int32) (x4 : Int32) (x5 : Int32) : yy_M Unit :=
  yy_cl (yy_lp (fun (w : Int32) => mm_X2_arrangeFrom_3b k0 k1 x2 x3 x4 w) x5) (fun w => mm_X2_arrangeFrom_34 )
noncomputable def mm_X2_arrangeFrom (k0 : Nat) (k1 : Nat) (x2 : Int32) (x3 : Int32) (x4 : Int32) : yy_M Unit :=
  mm_X2_arrangeFrom_3 k0 k1 x2 x3 x4 0
theorem kw_X2_arrangeFrom : yy_wV RX2 yX2_arrangeFrom cX2_arrangeFrom 6 none 4 := ⟨⟨tw_677, tw_678, tw_54, tw_679⟩, by decide +kernel⟩
abbrev rm_X2_arrangeFrom : Room := { frames := 2, cells := 0, slots := 0, locals := 71 }
set_option maxHeartbeats 4000000 in
set_option maxRecDepth 100000 in
theorem ww_X2_arrangeFrom_3b {k0 : Nat} {k1 : Nat} {x2 : Int32} {x3 : Int32} {x4 : Int32} {x5 : Int32} (hk0 : k0 ∈ yy_Eds) (hk1 : k1 ∈ yy_Eds) {res : ((Int32) ⊕ ((Unit))) × yy_T} {Q : State → Prop} (C : yy_C D κ p m c cX2_arrangeFrom 6 s args RX2) (Z : yy_Z D κ ext A s.heap τ H locs) (hl : lv_has ls 6 [(0, .ref (κ 4 + k0)), (1, .ref (κ 4 + k1)), (2, .int x2), (3, .int x3), (4, .int x4), (5, .int x5)]) (h : mm_X2_arrangeFrom_3b k0 k1 x2 x3 x4 x5 τ = some res)
    (kI : ∀ (w : Int32) (τ1 : yy_T) (H1 : Heap) (locs1 : List Loc) (ls1 : Array Slot), res = (.inl w, τ1) → yy_Z D κ ext A s.heap τ1 H1 locs1 → lv_has ls1 6 [(0, .ref (κ 4 + k0)), (1, .ref (κ 4 + k1)), (2, .int x2), (3, .int x3), (4, .int x4), (5, .int w)] → W p l e rm_X2_arrangeFrom s m args below meth c H1 locs1 0 0 Q (F0 m 3 ls1 []))
    (kR0 : ∀ (w : Unit) (τ1 : yy_T) (H1 : Heap) (locs1 : List Loc) (ls1 : Array Slot), res = (.inr w, τ1) → yy_Z D κ ext A s.heap τ1 H1 locs1 → lv_has ls1 6 [] → W p l e rm_X2_arrangeFrom s m args below meth c H1 locs1 0 0 Q (F0 m 34 ls1 [])) : W p l e rm_X2_arrangeFrom s m args below meth c H locs 0 0 Q (F0 m 3 ls []) := by
  unfold mm_X2_arrangeFrom_3b at h
  refine lv_iload C.1.1 C.1.2.1 dX2_arrangeFrom_3 (lv_at hl 5 rfl) ?_
  refine lv_aload_n C.1.1 C.1.2.1 dX2_arrangeFrom_5 rfl (lv_at hl 0 rfl) ?_
  refine yg_X2_2 C Z hk0 tw_111 dX2_arrangeFrom_6 h (fun v1 h => ?_)
  refine yy_icmp_ge (tgt := 34) C dX2_arrangeFrom_9 (by decide) h (fun h => ?_) (fun h => ?_)
  · exact kR0 _ _ _ _ _ (yy_rt_of h) Z (lv_sub hl [] rfl)
  · refine lv_aload_n C.1.1 C.1.2.1 dX2_arrangeFrom_12 rfl (lv_at hl 0 rfl) ?_
    refine lv_iload C.1.1 C.1.2.1 dX2_arrangeFrom_13 (lv_at hl 5 rfl) ?_
    refine lv_aload_n C.1.1 C.1.2.1 dX2_arrangeFrom_15 rfl (lv_at hl 1 rfl) ?_
    refine lv_iload C.1.1 C.1.2.1 dX2_arrangeFrom_16 (lv_at hl 5 rfl) ?_
    refine lv_iload_n C.1.1 C.1.2.1 dX2_arrangeFrom_18 rfl (lv_at hl 2 rfl) ?_
    refine lv_iload_n C.1.1 C.1.2.1 dX2_arrangeFrom_19 rfl (lv_at hl 3 rfl) ?_
    refine lv_iload C.1.1 C.1.2.1 dX2_arrangeFrom_20 (lv_at hl 4 rfl) ?_
    refine yy_cSi0 (As := [.int x5, .int x2, .int x3, .int x4]) (rest := [.ref (κ 4 + k1), .int x5, .ref (κ 4 + k0)])  C Z (ss_X2_sourceOf l D κ ext x5 x2 x3 x4) tw_680 kw_X2_sourceOf ⟨⟨rfl, rfl⟩, ⟨Nat.le_of_ble_eq_true rfl, Nat.le_of_ble_eq_true rfl⟩, Nat.le_of_ble_eq_true rfl, Nat.le_of_ble_eq_true rfl⟩ hl.1 rfl (Nat.le_of_ble_eq_true rfl) dX2_arrangeFrom_22 h (fun r2 τ H locs Z h => ?_)
    refine yy_cVv0 (As := [.int x5, .ref (κ 4 + k1), .int r2]) (rest := []) (id := k0) (ci := 2) (q := (RX2, TX2, 3)) C Z (ss_X2_setLine l D κ ext k0 x5 k1 r2 hk0 hk1) (yy_Eds_lt _ hk0) (yy_ent_Eds hk0 _) rfl tw_416 kw_X2_setLine ⟨⟨rfl, rfl⟩, ⟨Nat.le_of_ble_eq_true rfl, Nat.le_of_ble_eq_true rfl⟩, Nat.le_of_ble_eq_true rfl, Nat.le_of_ble_eq_true rfl⟩ hl.1 rfl (Nat.le_of_ble_eq_true rfl) dX2_arrangeFrom_25 h (fun τ H locs Z h => ?_)
    refine lv_iinc (v := x5 + 1) (lv' := [(5, .int (x5 + 1)), (0, .ref (κ 4 + k0)), (1, .ref (κ 4 + k1)), (2, .int x2), (3, .int x3), (4, .int x4)]) C.1.1 C.1.2.1 dX2_arrangeFrom_28 hl (k := 5) rfl (by rfl) (by decide) rfl (fun ls hl => ?_)
    refine lv_goto (tgt := 3) C.1.1 C.1.2.1 dX2_arrangeFrom_31 (by decide) ?_
    exact kI _ _ _ _ _ (yy_rt_of h) Z (lv_sub hl [1, 2, 3, 4, 5, 0] rfl)
set_option maxHeartbeats 4000000 in
set_option maxRecDepth 100000 in
theorem ww_X2_arrangeFrom_34 {res : Unit × yy_T} (C : yy_C D κ p m c cX2_arrangeFrom 6 s args RX2) (hr : meth.sig.returnType = none) (hlk : meth.locks = false) (Z : yy_Z D κ ext A s.heap τ H locs) (hl : lv_has ls 6 []) (h : mm_X2_arrangeFrom_34  τ = some res) : W p l e rm_X2_arrangeFrom s m args below meth c H locs 0 0 (MQ below (yy_Qv D κ ext A res) args s 0 0 A) (F0 m 34 ls []) := by
  unfold mm_X2_arrangeFrom_34 at h
  exact yy_vret C Z hr hlk dX2_arrangeFrom_34 h
set_option maxHeartbeats 4000000 in
set_option maxRecDepth 100000 in
theorem ww_X2_arrangeFrom_3 {k0 : Nat} {k1 : Nat} {x2 : Int32} {x3 : Int32} {x4 : Int32} {x5 : Int32} (hk0 : k0 ∈ yy_Eds) (hk1 : k1 ∈ yy_Eds) {res : Unit × yy_T} (C : yy_C D κ p m c cX2_arrangeFrom 6 s args RX2) (hr : meth.sig.returnType = none) (hlk : meth.locks = false) (Z : yy_Z D κ ext A s.heap τ H locs) (hl : lv_has ls 6 [(0, .ref (κ 4 + k0)), (1, .ref (κ 4 + k1)), (2, .int x2), (3, .int x3), (4, .int x4), (5, .int x5)]) (h : mm_X2_arrangeFrom_3 k0 k1 x2 x3 x4 x5 τ = some res) : W p l e rm_X2_arrangeFrom s m args below meth c H locs 0 0 (MQ below (yy_Qv D κ ext A res) args s 0 0 A) (F0 m 3 ls []) := by
  unfold mm_X2_arrangeFrom_3 at h
  refine yy_loop h (fun (w : Int32) (τ : yy_T) => ∀ (H : Heap) (locs : List Loc) (ls : Array Slot), yy_Z D κ ext A s.heap τ H locs → lv_has ls 6 [(0, .ref (κ 4 + k0)), (1, .ref (κ 4 + k1)), (2, .int x2), (3, .int x3), (4, .int x4), (5, .int w)] → W p l e rm_X2_arrangeFrom s m args below meth c H locs 0 0 (MQ below (yy_Qv D κ ext A res) args s 0 0 A) (F0 m 3 ls [])) ?_ H locs ls Z hl
  intro w τ y hy hI hX H locs ls Z hl
  refine ww_X2_arrangeFrom_3b hk0 hk1 C Z hl hy (fun w τ H locs ls ey Z hl => hI w τ ey H locs ls Z hl) (fun w τ H locs ls ey Z hl => ?_)
  · have h := hX _ _ ey
    exact ww_X2_arrangeFrom_34  C hr hlk Z (lv_sub hl [] rfl) h
set_option maxHeartbeats 4000000 in
set_option maxRecDepth 100000 in
theorem ww_X2_arrangeFrom_E {k0 : Nat} {k1 : Nat} {x2 : Int32} {x3 : Int32} {x4 : Int32} (hk0 : k0 ∈ yy_Eds) (hk1 : k1 ∈ yy_Eds) {res : Unit × yy_T} (C : yy_C D κ p m c cX2_arrangeFrom 6 s args RX2) (hr : meth.sig.returnType = none) (hlk : meth.locks = false) (Z : yy_Z D κ ext A s.heap τ H locs) (hl : lv_has ls 6 [(0, .ref (κ 4 + k0)), (1, .ref (κ 4 + k1)), (2, .int x2), (3, .int x3), (4, .int x4)]) (h : mm_X2_arrangeFrom k0 k1 x2 x3 x4 τ = some res) : W p l e rm_X2_arrangeFrom s m args below meth c H locs 0 0 (MQ below (yy_Qv D κ ext A res) args s 0 0 A) (F0 m 0 ls []) := by
  unfold mm_X2_arrangeFrom at h
  refine lv_iconst (v := 0) C.1.1 C.1.2.1 dX2_arrangeFrom_0 (by decide) ?_
  refine lv_istore (lv' := [(5, .int 0), (0, .ref (κ 4 + k0)), (1, .ref (κ 4 + k1)), (2, .int x2), (3, .int x3), (4, .int x4)]) C.1.1 C.1.2.1 dX2_arrangeFrom_1 hl (by decide) rfl (fun ls hl => ?_)
  exact ww_X2_arrangeFrom_3 hk0 hk1 C hr hlk Z (lv_sub hl [1, 2, 3, 4, 5, 0] rfl) h
set_option maxHeartbeats 4000000 in
set_option maxRecDepth 100000 in
theorem ss_X2_arrangeFrom (l : Launch) (D : va_G) (κ : Nat → Nat) (ext : va_W) (k0 : Nat) (k1 : Nat) (x2 : Int32) (x3 : Int32) (x4 : Int32) (hk0 : k0 ∈ yy_Eds) (hk1 : k1 ∈ yy_Eds) : yy_Mv l D κ ext yX2_arrangeFrom cX2_arrangeFrom 6 none rm_X2_arrangeFrom 0 0 [.ref (κ 4 + k0), .ref (κ 4 + k1), .int x2, .int x3, .int x4] (mm_X2_arrangeFrom k0 k1 x2 x3 x4) := by
  intro sz τ res h
  refine yy_ofW (by decide) (Nat.le_of_ble_eq_true rfl) ?_
  intro p e s m args below meth c ls hsz E
  obtain ⟨C, hr, hlk, Z, hl⟩ := E
  subst hsz
  exact ww_X2_arrangeFrom_E hk0 hk1 C hr hlk Z hl h
/-! MovedLines$Past.keep(ILMovedLines$Edition;)V -/
noncomputable def mm_X5_keep_45 (s0 : Int32) : yy_M Unit :=
  yy_wF 16 3 s0 (yy_rF 16 2 fun v5 => yy_wF 16 2 (if 10 < (v5 + 1) then 10 else (v5 + 1)) (yy_rt ()))
noncomputable def mm_X5_keep (x1 : Int32) (k2 : Nat) : yy_M Unit :=
  yy_rF 16 3 fun v1 => yy_wA 18 10 v1 x1 (yy_rF 16 3 fun v2 => yy_ck (yy_in v2 10 = true) (yy_cl (mm_X2_copyAll (19 + 3 * Int32.toNatClampNeg v2) k2) (fun _ => yy_rF 16 3 fun v4 => yy_br (10 ≤ (v4 + 1)) (mm_X5_keep_45 0) (yy_rF 16 3 fun v6 => mm_X5_keep_45 (v6 + 1)))))
theorem kw_X5_keep : yy_wV RX5 yX5_keep cX5_keep 3 none 2 := ⟨⟨tw_651, tw_652, tw_55, tw_653⟩, by decide +kernel⟩
abbrev rm_X5_keep : Room := { frames := 3, cells := 0, slots := 0, locals := 93 }
set_option maxHeartbeats 4000000 in
set_option maxRecDepth 100000 in
theorem ww_X5_keep_45 {s0 : Int32} {res : Unit × yy_T} (C : yy_C D κ p m c cX5_keep 3 s args RX5) (hr : meth.sig.returnType = none) (hlk : meth.locks = false) (Z : yy_Z D κ ext A s.heap τ H locs) (hl : lv_has ls 3 [(0, .ref (κ 4 + 16))]) (h : mm_X5_keep_45 s0 τ = some res) : W p l e rm_X5_keep s m args below meth c H locs 0 0 (MQ below (yy_Qv D κ ext A res) args s 0 0 A) (F0 m 45 ls [.int s0, .ref (κ 4 + 16)]) := by
  unfold mm_X5_keep_45 at h
  refine yp_X5_3 C Z tw_160 dX5_keep_45 h (fun H locs τ Z h => ?_)
  refine lv_aload_n C.1.1 C.1.2.1 dX5_keep_48 rfl (lv_at hl 0 rfl) ?_
  refine lv_aload_n C.1.1 C.1.2.1 dX5_keep_49 rfl (lv_at hl 0 rfl) ?_
  refine yg_X5_2 C Z tw_158 dX5_keep_50 h (fun v5 h => ?_)
  refine lv_iconst (v := 1) C.1.1 C.1.2.1 dX5_keep_53 (by decide) ?_
  refine lv_iadd C.1.1 C.1.2.1 dX5_keep_54 ?_
  refine lv_bipush (v := 10) C.1.1 C.1.2.1 dX5_keep_55 (by decide) ?_
  refine va_mmin C.1.1 C.1.2.1 (by rw [C.1.2.2.1]; exact hl.1.symm) C.1.2.2.2.1 (C.1.2.2.2.2 _ tw_655) (C.1.2.2.2.2 _ yy_mmin.1) (C.1.2.2.2.2 _ yy_mmin.2.1) (C.1.2.2.2.2 _ yy_mmin.2.2) (Nat.le_of_ble_eq_true rfl) (Nat.le_of_ble_eq_true rfl) (Nat.zero_le _) (Nat.zero_le _) dX5_keep_57 ?_
  refine yp_X5_2 C Z tw_158 dX5_keep_60 h (fun H locs τ Z h => ?_)
  exact yy_vret C Z hr hlk dX5_keep_63 h
set_option maxHeartbeats 4000000 in
set_option maxRecDepth 100000 in
theorem ww_X5_keep_E {x1 : Int32} {k2 : Nat} (hk2 : k2 ∈ yy_Eds) {res : Unit × yy_T} (C : yy_C D κ p m c cX5_keep 3 s args RX5) (hr : meth.sig.returnType = none) (hlk : meth.locks = false) (Z : yy_Z D κ ext A s.heap τ H locs) (hl : lv_has ls 3 [(0, .ref (κ 4 + 16)), (1, .int x1), (2, .ref (κ 4 + k2))]) (h : mm_X5_keep x1 k2 τ = some res) : W p l e rm_X5_keep s m args below meth c H locs 0 0 (MQ below (yy_Qv D κ ext A res) args s 0 0 A) (F0 m 0 ls []) := by
  unfold mm_X5_keep at h
  refine lv_aload_n C.1.1 C.1.2.1 dX5_keep_0 rfl (lv_at hl 0 rfl) ?_
  refine yg_X5_1 C Z tw_156 dX5_keep_1 ?_
  refine lv_aload_n C.1.1 C.1.2.1 dX5_keep_4 rfl (lv_at hl 0 rfl) ?_
  refine yg_X5_3 C Z tw_160 dX5_keep_5 h (fun v1 h => ?_)
  refine lv_iload_n C.1.1 C.1.2.1 dX5_keep_8 rfl (lv_at hl 1 rfl) ?_
  refine yy_iast C Z (by decide) rfl dX5_keep_9 h (fun H locs τ Z h => ?_)
  refine lv_aload_n C.1.1 C.1.2.1 dX5_keep_10 rfl (lv_at hl 0 rfl) ?_
  refine yg_X5_0 C Z tw_154 dX5_keep_11 ?_
  refine lv_aload_n C.1.1 C.1.2.1 dX5_keep_14 rfl (lv_at hl 0 rfl) ?_
  refine yg_X5_3 C Z tw_160 dX5_keep_15 h (fun v2 h => ?_)
  refine yy_aaldE C Z dX5_keep_18 h (fun hn3 h => ?_)
  refine lv_aload_n C.1.1 C.1.2.1 dX5_keep_19 rfl (lv_at hl 2 rfl) ?_
  refine yy_cVv0 (As := [.ref (κ 4 + k2)]) (rest := []) (id := 19 + 3 * Int32.toNatClampNeg v2) (ci := 2) (q := (RX2, TX2, 3)) C Z (ss_X2_copyAll l D κ ext (19 + 3 * Int32.toNatClampNeg v2) k2 (yy_P0 _ hn3) hk2) (yy_Eds_lt _ (yy_P0 _ hn3)) (yy_ent_Eds (yy_P0 _ hn3) _) rfl tw_654 kw_X2_copyAll ⟨⟨rfl, rfl⟩, ⟨Nat.le_of_ble_eq_true rfl, Nat.le_of_ble_eq_true rfl⟩, Nat.le_of_ble_eq_true rfl, Nat.le_of_ble_eq_true rfl⟩ hl.1 rfl (Nat.le_of_ble_eq_true rfl) dX5_keep_20 h (fun τ H locs Z h => ?_)
  refine lv_aload_n C.1.1 C.1.2.1 dX5_keep_23 rfl (lv_at hl 0 rfl) ?_
  refine lv_aload_n C.1.1 C.1.2.1 dX5_keep_24 rfl (lv_at hl 0 rfl) ?_
  refine yg_X5_3 C Z tw_160 dX5_keep_25 h (fun v4 h => ?_)
  refine lv_iconst (v := 1) C.1.1 C.1.2.1 dX5_keep_28 (by decide) ?_
  refine lv_iadd C.1.1 C.1.2.1 dX5_keep_29 ?_
  refine lv_bipush (v := 10) C.1.1 C.1.2.1 dX5_keep_30 (by decide) ?_
  refine yy_icmp_ge (tgt := 44) C dX5_keep_32 (by decide) h (fun h => ?_) (fun h => ?_)
  · refine lv_iconst (v := 0) C.1.1 C.1.2.1 dX5_keep_44 (by decide) ?_
    exact ww_X5_keep_45  C hr hlk Z (lv_sub hl [0] rfl) h
  · refine lv_aload_n C.1.1 C.1.2.1 dX5_keep_35 rfl (lv_at hl 0 rfl) ?_
    refine yg_X5_3 C Z tw_160 dX5_keep_36 h (fun v6 h => ?_)
    refine lv_iconst (v := 1) C.1.1 C.1.2.1 dX5_keep_39 (by decide) ?_
    refine lv_iadd C.1.1 C.1.2.1 dX5_keep_40 ?_
    refine lv_goto (tgt := 45) C.1.1 C.1.2.1 dX5_keep_41 (by decide) ?_
    exact ww_X5_keep_45  C hr hlk Z (lv_sub hl [0] rfl) h
set_option maxHeartbeats 4000000 in
set_option maxRecDepth 100000 in
theorem ss_X5_keep (l : Launch) (D : va_G) (κ : Nat → Nat) (ext : va_W) (x1 : Int32) (k2 : Nat) (hk2 : k2 ∈ yy_Eds) : yy_Mv l D κ ext yX5_keep cX5_keep 3 none rm_X5_keep 0 0 [.ref (κ 4 + 16), .int x1, .ref (κ 4 + k2)] (mm_X5_keep x1 k2) := by
  intro sz τ res h
  refine yy_ofW (by decide) (Nat.le_of_ble_eq_true rfl) ?_
  intro p e s m args below meth c ls hsz E
  obtain ⟨C, hr, hlk, Z, hl⟩ := E
  subst hsz
  exact ww_X5_keep_E hk2 C hr hlk Z hl h
/-! MovedLines$Past.stepBack()I -/
noncomputable def mm_X5_stepBack_19 (s0 : Int32) : yy_M Int32 :=
  yy_wF 16 3 s0 (yy_rF 16 2 fun v2 => yy_wF 16 2 (if (v2 - 1) < 0 then 0 else (v2 - 1)) (yy_rF 16 3 fun v3 => yy_rt v3))
noncomputable def mm_X5_stepBack : yy_M Int32 :=
  yy_rF 16 3 fun v1 => yy_br (v1 ≤ 0) (mm_X5_stepBack_19 9) (yy_rF 16 3 fun v4 => mm_X5_stepBack_19 (v4 - 1))
theorem kw_X5_stepBack : yy_wV RX5 yX5_stepBack cX5_stepBack 1 (some .int) 0 := ⟨⟨tw_692, tw_693, tw_55, tw_694⟩, by decide +kernel⟩
abbrev rm_X5_stepBack : Room := { frames := 1, cells := 0, slots := 0, locals := 21 }
set_option maxHeartbeats 4000000 in
set_option maxRecDepth 100000 in
theorem ww_X5_stepBack_19 {s0 : Int32} {res : Int32 × yy_T} (C : yy_C D κ p m c cX5_stepBack 1 s args RX5) (hr : meth.sig.returnType = (some .int)) (hlk : meth.locks = false) (Z : yy_Z D κ ext A s.heap τ H locs) (hl : lv_has ls 1 [(0, .ref (κ 4 + 16))]) (h : mm_X5_stepBack_19 s0 τ = some res) : W p l e rm_X5_stepBack s m args below meth c H locs 0 0 (MQ below (yy_Qi D κ ext A res) args s 0 0 A) (F0 m 19 ls [.int s0, .ref (κ 4 + 16)]) := by
  unfold mm_X5_stepBack_19 at h
  refine yp_X5_3 C Z tw_160 dX5_stepBack_19 h (fun H locs τ Z h => ?_)
  refine lv_aload_n C.1.1 C.1.2.1 dX5_stepBack_22 rfl (lv_at hl 0 rfl) ?_
  refine lv_aload_n C.1.1 C.1.2.1 dX5_stepBack_23 rfl (lv_at hl 0 rfl) ?_
  refine yg_X5_2 C Z tw_158 dX5_stepBack_24 h (fun v2 h => ?_)
  refine lv_iconst (v := 1) C.1.1 C.1.2.1 dX5_stepBack_27 (by decide) ?_
  refine lv_isub C.1.1 C.1.2.1 dX5_stepBack_28 ?_
  refine lv_iconst (v := 0) C.1.1 C.1.2.1 dX5_stepBack_29 (by decide) ?_
  refine va_mmax C.1.1 C.1.2.1 (by rw [C.1.2.2.1]; exact hl.1.symm) C.1.2.2.2.1 (C.1.2.2.2.2 _ tw_695) (C.1.2.2.2.2 _ yy_mmax.1) (C.1.2.2.2.2 _ yy_mmax.2.1) (C.1.2.2.2.2 _ yy_mmax.2.2) (Nat.le_of_ble_eq_true rfl) (Nat.le_of_ble_eq_true rfl) (Nat.zero_le _) (Nat.zero_le _) dX5_stepBack_30 ?_
  refine yp_X5_2 C Z tw_158 dX5_stepBack_33 h (fun H locs τ Z h => ?_)
  refine lv_aload_n C.1.1 C.1.2.1 dX5_stepBack_36 rfl (lv_at hl 0 rfl) ?_
  refine yg_X5_3 C Z tw_160 dX5_stepBack_37 h (fun v3 h => ?_)
  exact yy_iret C Z hr hlk rfl dX5_stepBack_40 h
set_option maxHeartbeats 4000000 in
set_option maxRecDepth 100000 in
theorem ww_X5_stepBack_E {res : Int32 × yy_T} (C : yy_C D κ p m c cX5_stepBack 1 s args RX5) (hr : meth.sig.returnType = (some .int)) (hlk : meth.locks = false) (Z : yy_Z D κ ext A s.heap τ H locs) (hl : lv_has ls 1 [(0, .ref (κ 4 + 16))]) (h : mm_X5_stepBack  τ = some res) : W p l e rm_X5_stepBack s m args below meth c H locs 0 0 (MQ below (yy_Qi D κ ext A res) args s 0 0 A) (F0 m 0 ls []) := by
  unfold mm_X5_stepBack at h
  refine lv_aload_n C.1.1 C.1.2.1 dX5_stepBack_0 rfl (lv_at hl 0 rfl) ?_
  refine lv_aload_n C.1.1 C.1.2.1 dX5_stepBack_1 rfl (lv_at hl 0 rfl) ?_
  refine yg_X5_3 C Z tw_160 dX5_stepBack_2 h (fun v1 h => ?_)
  refine yy_if_le (tgt := 17) C dX5_stepBack_5 (by decide) h (fun h => ?_) (fun h => ?_)
  · refine lv_bipush (v := 9) C.1.1 C.1.2.1 dX5_stepBack_17 (by decide) ?_
    exact ww_X5_stepBack_19  C hr hlk Z (lv_sub hl [0] rfl) h
  · refine lv_aload_n C.1.1 C.1.2.1 dX5_stepBack_8 rfl (lv_at hl 0 rfl) ?_
    refine yg_X5_3 C Z tw_160 dX5_stepBack_9 h (fun v4 h => ?_)
    refine lv_iconst (v := 1) C.1.1 C.1.2.1 dX5_stepBack_12 (by decide) ?_
    refine lv_isub C.1.1 C.1.2.1 dX5_stepBack_13 ?_
    refine lv_goto (tgt := 19) C.1.1 C.1.2.1 dX5_stepBack_14 (by decide) ?_
    exact ww_X5_stepBack_19  C hr hlk Z (lv_sub hl [0] rfl) h
set_option maxHeartbeats 4000000 in
set_option maxRecDepth 100000 in
theorem ss_X5_stepBack (l : Launch) (D : va_G) (κ : Nat → Nat) (ext : va_W) : yy_Mi l D κ ext yX5_stepBack cX5_stepBack 1 (some .int) rm_X5_stepBack 0 0 [.ref (κ 4 + 16)] (mm_X5_stepBack ) := by
  intro sz τ res h
  refine yy_ofW (by decide) (Nat.le_of_ble_eq_true rfl) ?_
  intro p e s m args below meth c ls hsz E
  obtain ⟨C, hr, hlk, Z, hl⟩ := E
  subst hsz
  exact ww_X5_stepBack_E  C hr hlk Z hl h
/-! MovedLines$Past.forget()V -/
noncomputable def mm_X5_forget : yy_M Unit :=
  yy_wF 16 2 0 (yy_rt ())
theorem kw_X5_forget : yy_wV RX5 yX5_forget cX5_forget 1 none 0 := ⟨⟨tw_428, tw_429, tw_55, tw_430⟩, by decide +kernel⟩
abbrev rm_X5_forget : Room := { frames := 0, cells := 0, slots := 0, locals := 0 }
set_option maxHeartbeats 4000000 in
set_option maxRecDepth 100000 in
theorem ww_X5_forget_E {res : Unit × yy_T} (C : yy_C D κ p m c cX5_forget 1 s args RX5) (hr : meth.sig.returnType = none) (hlk : meth.locks = false) (Z : yy_Z D κ ext A s.heap τ H locs) (hl : lv_has ls 1 [(0, .ref (κ 4 + 16))]) (h : mm_X5_forget  τ = some res) : W p l e rm_X5_forget s m args below meth c H locs 0 0 (MQ below (yy_Qv D κ ext A res) args s 0 0 A) (F0 m 0 ls []) := by
  unfold mm_X5_forget at h
  refine lv_aload_n C.1.1 C.1.2.1 dX5_forget_0 rfl (lv_at hl 0 rfl) ?_
  refine lv_iconst (v := 0) C.1.1 C.1.2.1 dX5_forget_1 (by decide) ?_
  refine yp_X5_2 C Z tw_158 dX5_forget_2 h (fun H locs τ Z h => ?_)
  exact yy_vret C Z hr hlk dX5_forget_5 h
set_option maxHeartbeats 4000000 in
set_option maxRecDepth 100000 in
theorem ss_X5_forget (l : Launch) (D : va_G) (κ : Nat → Nat) (ext : va_W) : yy_Mv l D κ ext yX5_forget cX5_forget 1 none rm_X5_forget 0 0 [.ref (κ 4 + 16)] (mm_X5_forget ) := by
  intro sz τ res h
  refine yy_ofW (by decide) (Nat.le_of_ble_eq_true rfl) ?_
  intro p e s m args below meth c ls hsz E
  obtain ⟨C, hr, hlk, Z, hl⟩ := E
  subst hsz
  exact ww_X5_forget_E  C hr hlk Z hl h
/-! MovedLines$Reader.closeLine()I -/
noncomputable def mm_X6_closeLine : yy_M Int32 :=
  yy_rF 3 3 fun v1 => yy_br (v1 = 0) (yy_rt 1) (yy_rF 4 2 fun v2 => yy_br (v2 < 14) (yy_rF 4 2 fun v3 => yy_rF 3 3 fun v4 => yy_wA (4 + 1) 14 v3 v4 (yy_rF 4 2 fun v5 => yy_wF 4 2 (v5 + 1) (yy_wF 3 3 0 (yy_rt 0)))) (yy_rt 1))
theorem kw_X6_closeLine : yy_wV RX6 yX6_closeLine cX6_closeLine 1 (some .int) 0 := ⟨⟨tw_402, tw_3, tw_53, tw_403⟩, by decide +kernel⟩
abbrev rm_X6_closeLine : Room := { frames := 0, cells := 0, slots := 0, locals := 0 }
set_option maxHeartbeats 4000000 in
set_option maxRecDepth 100000 in
theorem ww_X6_closeLine_E {res : Int32 × yy_T} (C : yy_C D κ p m c cX6_closeLine 1 s args RX6) (hr : meth.sig.returnType = (some .int)) (hlk : meth.locks = false) (Z : yy_Z D κ ext A s.heap τ H locs) (hl : lv_has ls 1 [(0, .ref (κ 4 + 3))]) (h : mm_X6_closeLine  τ = some res) : W p l e rm_X6_closeLine s m args below meth c H locs 0 0 (MQ below (yy_Qi D κ ext A res) args s 0 0 A) (F0 m 0 ls []) := by
  unfold mm_X6_closeLine at h
  refine lv_aload_n C.1.1 C.1.2.1 dX6_closeLine_0 rfl (lv_at hl 0 rfl) ?_
  refine yg_X6_3 C Z tw_130 dX6_closeLine_1 h (fun v1 h => ?_)
  refine yy_if_eq (tgt := 19) C dX6_closeLine_4 (by decide) h (fun h => ?_) (fun h => ?_)
  · refine lv_iconst (v := 1) C.1.1 C.1.2.1 dX6_closeLine_19 (by decide) ?_
    exact yy_iret C Z hr hlk rfl dX6_closeLine_20 h
  · refine lv_aload_n C.1.1 C.1.2.1 dX6_closeLine_7 rfl (lv_at hl 0 rfl) ?_
    refine yg_X6_0 C Z tw_124 dX6_closeLine_8 ?_
    refine yg_X2_2 C Z (by decide) tw_113 dX6_closeLine_11 h (fun v2 h => ?_)
    refine lv_bipush (v := 14) C.1.1 C.1.2.1 dX6_closeLine_14 (by decide) ?_
    refine yy_icmp_lt (tgt := 21) C dX6_closeLine_16 (by decide) h (fun h => ?_) (fun h => ?_)
    · refine lv_aload_n C.1.1 C.1.2.1 dX6_closeLine_21 rfl (lv_at hl 0 rfl) ?_
      refine yg_X6_0 C Z tw_124 dX6_closeLine_22 ?_
      refine yg_X2_0 C Z (by decide) tw_106 dX6_closeLine_25 ?_
      refine lv_aload_n C.1.1 C.1.2.1 dX6_closeLine_28 rfl (lv_at hl 0 rfl) ?_
      refine yg_X6_0 C Z tw_124 dX6_closeLine_29 ?_
      refine yg_X2_2 C Z (by decide) tw_113 dX6_closeLine_32 h (fun v3 h => ?_)
      refine lv_aload_n C.1.1 C.1.2.1 dX6_closeLine_35 rfl (lv_at hl 0 rfl) ?_
      refine yg_X6_3 C Z tw_130 dX6_closeLine_36 h (fun v4 h => ?_)
      refine yy_iast C Z (yy_E1 _ (by decide)) (yy_lenE1 _ (by decide)) dX6_closeLine_39 h (fun H locs τ Z h => ?_)
      refine lv_aload_n C.1.1 C.1.2.1 dX6_closeLine_40 rfl (lv_at hl 0 rfl) ?_
      refine yg_X6_0 C Z tw_124 dX6_closeLine_41 ?_
      refine lv_dup C.1.1 C.1.2.1 dX6_closeLine_44 rfl ?_
      refine yg_X2_2 C Z (by decide) tw_113 dX6_closeLine_45 h (fun v5 h => ?_)
      refine lv_iconst (v := 1) C.1.1 C.1.2.1 dX6_closeLine_48 (by decide) ?_
      refine lv_iadd C.1.1 C.1.2.1 dX6_closeLine_49 ?_
      refine yp_X2_2 C Z (by decide) tw_113 dX6_closeLine_50 h (fun H locs τ Z h => ?_)
      refine lv_aload_n C.1.1 C.1.2.1 dX6_closeLine_53 rfl (lv_at hl 0 rfl) ?_
      refine lv_iconst (v := 0) C.1.1 C.1.2.1 dX6_closeLine_54 (by decide) ?_
      refine yp_X6_3 C Z tw_130 dX6_closeLine_55 h (fun H locs τ Z h => ?_)
      refine lv_iconst (v := 0) C.1.1 C.1.2.1 dX6_closeLine_58 (by decide) ?_
      exact yy_iret C Z hr hlk rfl dX6_closeLine_59 h
    · refine lv_iconst (v := 1) C.1.1 C.1.2.1 dX6_closeLine_19 (by decide) ?_
      exact yy_iret C Z hr hlk rfl dX6_closeLine_20 h
set_option maxHeartbeats 4000000 in
set_option maxRecDepth 100000 in
theorem ss_X6_closeLine (l : Launch) (D : va_G) (κ : Nat → Nat) (ext : va_W) : yy_Mi l D κ ext yX6_closeLine cX6_closeLine 1 (some .int) rm_X6_closeLine 0 0 [.ref (κ 4 + 3)] (mm_X6_closeLine ) := by
  intro sz τ res h
  refine yy_ofW (by decide) (Nat.le_of_ble_eq_true rfl) ?_
  intro p e s m args below meth c ls hsz E
  obtain ⟨C, hr, hlk, Z, hl⟩ := E
  subst hsz
  exact ww_X6_closeLine_E  C hr hlk Z hl h
/-! MovedLines$Reader.readLetter(I)I -/
noncomputable def mm_X6_readLetter_75 (x1 : Int32) : yy_M Int32 :=
  yy_rF 4 2 fun v4 => yy_rF 3 3 fun v5 => yy_rA (4 + 2) 112 (((v4 * 8) + v5) - 1) fun v6 => yy_rF 3 4 fun v7 => yy_wA (4 + 2) 112 (((v4 * 8) + v5) - 1) (v6 ||| (x1 <<< ((5 * v7) &&& 31))) (yy_rF 3 4 fun v8 => yy_wF 3 4 (v8 + 1) (yy_rt 0))
noncomputable def mm_X6_readLetter (x1 : Int32) : yy_M Int32 :=
  yy_rF 4 2 fun v1 => yy_br (14 ≤ v1) (yy_rt 2) (yy_rF 3 4 fun v2 => yy_br (v2 < 6) (yy_rF 3 4 fun v3 => yy_br (v3 = 0) (yy_rF 3 3 fun v9 => yy_br (v9 < 8) (yy_rF 4 2 fun v10 => yy_rF 3 3 fun v11 => yy_wA (4 + 2) 112 ((v10 * 8) + v11) 0 (yy_rF 3 3 fun v12 => yy_wF 3 3 (v12 + 1) (mm_X6_readLetter_75 x1))) (yy_rt 2)) (mm_X6_readLetter_75 x1)) (yy_rt 2))
theorem kw_X6_readLetter : yy_wV RX6 yX6_readLetter cX6_readLetter 2 (some .int) 1 := ⟨⟨tw_398, tw_2, tw_53, tw_399⟩, by decide +kernel⟩
abbrev rm_X6_readLetter : Room := { frames := 0, cells := 0, slots := 0, locals := 0 }
set_option maxHeartbeats 4000000 in
set_option maxRecDepth 100000 in
theorem ww_X6_readLetter_75 {x1 : Int32} {res : Int32 × yy_T} (C : yy_C D κ p m c cX6_readLetter 2 s args RX6) (hr : meth.sig.returnType = (some .int)) (hlk : meth.locks = false) (Z : yy_Z D κ ext A s.heap τ H locs) (hl : lv_has ls 2 [(0, .ref (κ 4 + 3)), (1, .int x1)]) (h : mm_X6_readLetter_75 x1 τ = some res) : W p l e rm_X6_readLetter s m args below meth c H locs 0 0 (MQ below (yy_Qi D κ ext A res) args s 0 0 A) (F0 m 75 ls []) := by
  unfold mm_X6_readLetter_75 at h
  refine lv_aload_n C.1.1 C.1.2.1 dX6_readLetter_75 rfl (lv_at hl 0 rfl) ?_
  refine yg_X6_0 C Z tw_124 dX6_readLetter_76 ?_
  refine yg_X2_1 C Z (by decide) tw_108 dX6_readLetter_79 ?_
  refine lv_aload_n C.1.1 C.1.2.1 dX6_readLetter_82 rfl (lv_at hl 0 rfl) ?_
  refine yg_X6_0 C Z tw_124 dX6_readLetter_83 ?_
  refine yg_X2_2 C Z (by decide) tw_113 dX6_readLetter_86 h (fun v4 h => ?_)
  refine lv_bipush (v := 8) C.1.1 C.1.2.1 dX6_readLetter_89 (by decide) ?_
  refine lv_imul C.1.1 C.1.2.1 dX6_readLetter_91 ?_
  refine lv_aload_n C.1.1 C.1.2.1 dX6_readLetter_92 rfl (lv_at hl 0 rfl) ?_
  refine yg_X6_3 C Z tw_130 dX6_readLetter_93 h (fun v5 h => ?_)
  refine lv_iadd C.1.1 C.1.2.1 dX6_readLetter_96 ?_
  refine lv_iconst (v := 1) C.1.1 C.1.2.1 dX6_readLetter_97 (by decide) ?_
  refine lv_isub C.1.1 C.1.2.1 dX6_readLetter_98 ?_
  refine lv_dup2_11 C.1.1 C.1.2.1 dX6_readLetter_99 rfl rfl ?_
  refine yy_iald C Z (yy_E2 _ (by decide)) (yy_lenE2 _ (by decide)) dX6_readLetter_100 h (fun v6 h => ?_)
  refine lv_iload_n C.1.1 C.1.2.1 dX6_readLetter_101 rfl (lv_at hl 1 rfl) ?_
  refine lv_iconst (v := 5) C.1.1 C.1.2.1 dX6_readLetter_102 (by decide) ?_
  refine lv_aload_n C.1.1 C.1.2.1 dX6_readLetter_103 rfl (lv_at hl 0 rfl) ?_
  refine yg_X6_4 C Z tw_131 dX6_readLetter_104 h (fun v7 h => ?_)
  refine lv_imul C.1.1 C.1.2.1 dX6_readLetter_107 ?_
  refine lv_ishl C.1.1 C.1.2.1 dX6_readLetter_108 ?_
  refine lv_ior C.1.1 C.1.2.1 dX6_readLetter_109 ?_
  refine yy_iast C Z (yy_E2 _ (by decide)) (yy_lenE2 _ (by decide)) dX6_readLetter_110 h (fun H locs τ Z h => ?_)
  refine lv_aload_n C.1.1 C.1.2.1 dX6_readLetter_111 rfl (lv_at hl 0 rfl) ?_
  refine lv_dup C.1.1 C.1.2.1 dX6_readLetter_112 rfl ?_
  refine yg_X6_4 C Z tw_131 dX6_readLetter_113 h (fun v8 h => ?_)
  refine lv_iconst (v := 1) C.1.1 C.1.2.1 dX6_readLetter_116 (by decide) ?_
  refine lv_iadd C.1.1 C.1.2.1 dX6_readLetter_117 ?_
  refine yp_X6_4 C Z tw_131 dX6_readLetter_118 h (fun H locs τ Z h => ?_)
  refine lv_iconst (v := 0) C.1.1 C.1.2.1 dX6_readLetter_121 (by decide) ?_
  exact yy_iret C Z hr hlk rfl dX6_readLetter_122 h
set_option maxHeartbeats 4000000 in
set_option maxRecDepth 100000 in
theorem ww_X6_readLetter_E {x1 : Int32} {res : Int32 × yy_T} (C : yy_C D κ p m c cX6_readLetter 2 s args RX6) (hr : meth.sig.returnType = (some .int)) (hlk : meth.locks = false) (Z : yy_Z D κ ext A s.heap τ H locs) (hl : lv_has ls 2 [(0, .ref (κ 4 + 3)), (1, .int x1)]) (h : mm_X6_readLetter x1 τ = some res) : W p l e rm_X6_readLetter s m args below meth c H locs 0 0 (MQ below (yy_Qi D κ ext A res) args s 0 0 A) (F0 m 0 ls []) := by
  unfold mm_X6_readLetter at h
  refine lv_aload_n C.1.1 C.1.2.1 dX6_readLetter_0 rfl (lv_at hl 0 rfl) ?_
  refine yg_X6_0 C Z tw_124 dX6_readLetter_1 ?_
  refine yg_X2_2 C Z (by decide) tw_113 dX6_readLetter_4 h (fun v1 h => ?_)
  refine lv_bipush (v := 14) C.1.1 C.1.2.1 dX6_readLetter_7 (by decide) ?_
  refine yy_icmp_ge (tgt := 21) C dX6_readLetter_9 (by decide) h (fun h => ?_) (fun h => ?_)
  · refine lv_iconst (v := 2) C.1.1 C.1.2.1 dX6_readLetter_21 (by decide) ?_
    exact yy_iret C Z hr hlk rfl dX6_readLetter_22 h
  · refine lv_aload_n C.1.1 C.1.2.1 dX6_readLetter_12 rfl (lv_at hl 0 rfl) ?_
    refine yg_X6_4 C Z tw_131 dX6_readLetter_13 h (fun v2 h => ?_)
    refine lv_bipush (v := 6) C.1.1 C.1.2.1 dX6_readLetter_16 (by decide) ?_
    refine yy_icmp_lt (tgt := 23) C dX6_readLetter_18 (by decide) h (fun h => ?_) (fun h => ?_)
    · refine lv_aload_n C.1.1 C.1.2.1 dX6_readLetter_23 rfl (lv_at hl 0 rfl) ?_
      refine yg_X6_4 C Z tw_131 dX6_readLetter_24 h (fun v3 h => ?_)
      refine yy_if_ne (tgt := 75) C dX6_readLetter_27 (by decide) h (fun h => ?_) (fun h => ?_)
      · exact ww_X6_readLetter_75  C hr hlk Z (lv_sub hl [0, 1] rfl) h
      · refine lv_aload_n C.1.1 C.1.2.1 dX6_readLetter_30 rfl (lv_at hl 0 rfl) ?_
        refine yg_X6_3 C Z tw_130 dX6_readLetter_31 h (fun v9 h => ?_)
        refine lv_bipush (v := 8) C.1.1 C.1.2.1 dX6_readLetter_34 (by decide) ?_
        refine yy_icmp_lt (tgt := 41) C dX6_readLetter_36 (by decide) h (fun h => ?_) (fun h => ?_)
        · refine lv_aload_n C.1.1 C.1.2.1 dX6_readLetter_41 rfl (lv_at hl 0 rfl) ?_
          refine yg_X6_0 C Z tw_124 dX6_readLetter_42 ?_
          refine yg_X2_1 C Z (by decide) tw_108 dX6_readLetter_45 ?_
          refine lv_aload_n C.1.1 C.1.2.1 dX6_readLetter_48 rfl (lv_at hl 0 rfl) ?_
          refine yg_X6_0 C Z tw_124 dX6_readLetter_49 ?_
          refine yg_X2_2 C Z (by decide) tw_113 dX6_readLetter_52 h (fun v10 h => ?_)
          refine lv_bipush (v := 8) C.1.1 C.1.2.1 dX6_readLetter_55 (by decide) ?_
          refine lv_imul C.1.1 C.1.2.1 dX6_readLetter_57 ?_
          refine lv_aload_n C.1.1 C.1.2.1 dX6_readLetter_58 rfl (lv_at hl 0 rfl) ?_
          refine yg_X6_3 C Z tw_130 dX6_readLetter_59 h (fun v11 h => ?_)
          refine lv_iadd C.1.1 C.1.2.1 dX6_readLetter_62 ?_
          refine lv_iconst (v := 0) C.1.1 C.1.2.1 dX6_readLetter_63 (by decide) ?_
          refine yy_iast C Z (yy_E2 _ (by decide)) (yy_lenE2 _ (by decide)) dX6_readLetter_64 h (fun H locs τ Z h => ?_)
          refine lv_aload_n C.1.1 C.1.2.1 dX6_readLetter_65 rfl (lv_at hl 0 rfl) ?_
          refine lv_dup C.1.1 C.1.2.1 dX6_readLetter_66 rfl ?_
          refine yg_X6_3 C Z tw_130 dX6_readLetter_67 h (fun v12 h => ?_)
          refine lv_iconst (v := 1) C.1.1 C.1.2.1 dX6_readLetter_70 (by decide) ?_
          refine lv_iadd C.1.1 C.1.2.1 dX6_readLetter_71 ?_
          refine yp_X6_3 C Z tw_130 dX6_readLetter_72 h (fun H locs τ Z h => ?_)
          exact ww_X6_readLetter_75  C hr hlk Z (lv_sub hl [0, 1] rfl) h
        · refine lv_iconst (v := 2) C.1.1 C.1.2.1 dX6_readLetter_39 (by decide) ?_
          exact yy_iret C Z hr hlk rfl dX6_readLetter_40 h
    · refine lv_iconst (v := 2) C.1.1 C.1.2.1 dX6_readLetter_21 (by decide) ?_
      exact yy_iret C Z hr hlk rfl dX6_readLetter_22 h
set_option maxHeartbeats 4000000 in
set_option maxRecDepth 100000 in
theorem ss_X6_readLetter (l : Launch) (D : va_G) (κ : Nat → Nat) (ext : va_W) (x1 : Int32) : yy_Mi l D κ ext yX6_readLetter cX6_readLetter 2 (some .int) rm_X6_readLetter 0 0 [.ref (κ 4 + 3), .int x1] (mm_X6_readLetter x1) := by
  intro sz τ res h
  refine yy_ofW (by decide) (Nat.le_of_ble_eq_true rfl) ?_
  intro p e s m args below meth c ls hsz E
  obtain ⟨C, hr, hlk, Z, hl⟩ := E
  subst hsz
  exact ww_X6_readLetter_E  C hr hlk Z hl h
end
