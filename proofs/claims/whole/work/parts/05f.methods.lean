section
variable {p : Program} {l : Launch} {e : Env} {s : State} {m : MethodId} {args : Array Value} {below : List Frame} {meth : Method} {c : Code} {H : Heap} {locs : List Loc} {ls : Array Slot} {D : va_G} {κ : Nat → Nat} {ext : va_W} {A : Nat → Prop} {τ : yy_T}
/-! MovedLines$Reader.readByte(IZ)I -/
noncomputable def mm_X6_readByte_23 (x1 : Int32) (x2 : Int32) : yy_M Int32 :=
  yy_wF 3 4 0 (yy_br (x1 = 32) (yy_rt 0) (yy_br (x1 = 10) (yy_rt 0) (yy_br (x1 = 59) (yy_br (x2 = 0) (yy_rt 1) (yy_cl (mm_X6_closeLine ) (fun r1 => yy_rt r1))) (yy_rt 1))))
noncomputable def mm_X6_readByte (x1 : Int32) (x2 : Int32) : yy_M Int32 :=
  yy_br (x1 < 97) (mm_X6_readByte_23 x1 x2) (yy_br (122 < x1) (mm_X6_readByte_23 x1 x2) (yy_cl (mm_X6_readLetter ((x1 - 97) + 1)) (fun r2 => yy_rt r2)))
theorem kw_X6_readByte : yy_wV RX6 yX6_readByte cX6_readByte 3 (some .int) 2 := ⟨⟨tw_394, tw_1, tw_53, tw_395⟩, by decide +kernel⟩
abbrev rm_X6_readByte : Room := { frames := 1, cells := 0, slots := 0, locals := 21 }
set_option maxHeartbeats 4000000 in
set_option maxRecDepth 100000 in
theorem ww_X6_readByte_23 {x1 : Int32} {x2 : Int32} {res : Int32 × yy_T} (C : yy_C D κ p m c cX6_readByte 3 s args RX6) (hr : meth.sig.returnType = (some .int)) (hlk : meth.locks = false) (Z : yy_Z D κ ext A s.heap τ H locs) (hl : lv_has ls 3 [(0, .ref (κ 4 + 3)), (1, .int x1), (2, .int x2)]) (h : mm_X6_readByte_23 x1 x2 τ = some res) : W p l e rm_X6_readByte s m args below meth c H locs 0 0 (MQ below (yy_Qi D κ ext A res) args s 0 0 A) (F0 m 23 ls []) := by
  unfold mm_X6_readByte_23 at h
  refine lv_aload_n C.1.1 C.1.2.1 dX6_readByte_23 rfl (lv_at hl 0 rfl) ?_
  refine lv_iconst (v := 0) C.1.1 C.1.2.1 dX6_readByte_24 (by decide) ?_
  refine yp_X6_4 C Z tw_131 dX6_readByte_25 h (fun H locs τ Z h => ?_)
  refine lv_iload_n C.1.1 C.1.2.1 dX6_readByte_28 rfl (lv_at hl 1 rfl) ?_
  refine lv_bipush (v := 32) C.1.1 C.1.2.1 dX6_readByte_29 (by decide) ?_
  refine yy_icmp_eq (tgt := 40) C dX6_readByte_31 (by decide) h (fun h => ?_) (fun h => ?_)
  · refine lv_iconst (v := 0) C.1.1 C.1.2.1 dX6_readByte_40 (by decide) ?_
    exact yy_iret C Z hr hlk rfl dX6_readByte_41 h
  · refine lv_iload_n C.1.1 C.1.2.1 dX6_readByte_34 rfl (lv_at hl 1 rfl) ?_
    refine lv_bipush (v := 10) C.1.1 C.1.2.1 dX6_readByte_35 (by decide) ?_
    refine yy_icmp_ne (tgt := 42) C dX6_readByte_37 (by decide) h (fun h => ?_) (fun h => ?_)
    · refine lv_iload_n C.1.1 C.1.2.1 dX6_readByte_42 rfl (lv_at hl 1 rfl) ?_
      refine lv_bipush (v := 59) C.1.1 C.1.2.1 dX6_readByte_43 (by decide) ?_
      refine yy_icmp_ne (tgt := 59) C dX6_readByte_45 (by decide) h (fun h => ?_) (fun h => ?_)
      · refine lv_iconst (v := 1) C.1.1 C.1.2.1 dX6_readByte_59 (by decide) ?_
        exact yy_iret C Z hr hlk rfl dX6_readByte_60 h
      · refine lv_iload_n C.1.1 C.1.2.1 dX6_readByte_48 rfl (lv_at hl 2 rfl) ?_
        refine yy_if_eq (tgt := 59) C dX6_readByte_49 (by decide) h (fun h => ?_) (fun h => ?_)
        · refine lv_iconst (v := 1) C.1.1 C.1.2.1 dX6_readByte_59 (by decide) ?_
          exact yy_iret C Z hr hlk rfl dX6_readByte_60 h
        · refine lv_aload_n C.1.1 C.1.2.1 dX6_readByte_52 rfl (lv_at hl 0 rfl) ?_
          refine yy_cVi0 (As := []) (rest := []) (id := 3) (ci := 6) (q := (RX6, TX6, 5)) C Z (ss_X6_closeLine l D κ ext ) (by decide) (yy_ent_3 _) rfl tw_400 kw_X6_closeLine ⟨⟨rfl, rfl⟩, ⟨Nat.le_of_ble_eq_true rfl, Nat.le_of_ble_eq_true rfl⟩, Nat.le_of_ble_eq_true rfl, Nat.le_of_ble_eq_true rfl⟩ hl.1 rfl (Nat.le_of_ble_eq_true rfl) dX6_readByte_53 h (fun r1 τ H locs Z h => ?_)
          refine lv_goto (tgt := 60) C.1.1 C.1.2.1 dX6_readByte_56 (by decide) ?_
          exact yy_iret C Z hr hlk rfl dX6_readByte_60 h
    · refine lv_iconst (v := 0) C.1.1 C.1.2.1 dX6_readByte_40 (by decide) ?_
      exact yy_iret C Z hr hlk rfl dX6_readByte_41 h
set_option maxHeartbeats 4000000 in
set_option maxRecDepth 100000 in
theorem ww_X6_readByte_E {x1 : Int32} {x2 : Int32} {res : Int32 × yy_T} (C : yy_C D κ p m c cX6_readByte 3 s args RX6) (hr : meth.sig.returnType = (some .int)) (hlk : meth.locks = false) (Z : yy_Z D κ ext A s.heap τ H locs) (hl : lv_has ls 3 [(0, .ref (κ 4 + 3)), (1, .int x1), (2, .int x2)]) (h : mm_X6_readByte x1 x2 τ = some res) : W p l e rm_X6_readByte s m args below meth c H locs 0 0 (MQ below (yy_Qi D κ ext A res) args s 0 0 A) (F0 m 0 ls []) := by
  unfold mm_X6_readByte at h
  refine lv_iload_n C.1.1 C.1.2.1 dX6_readByte_0 rfl (lv_at hl 1 rfl) ?_
  refine lv_bipush (v := 97) C.1.1 C.1.2.1 dX6_readByte_1 (by decide) ?_
  refine yy_icmp_lt (tgt := 23) C dX6_readByte_3 (by decide) h (fun h => ?_) (fun h => ?_)
  · exact ww_X6_readByte_23  C hr hlk Z (lv_sub hl [0, 1, 2] rfl) h
  · refine lv_iload_n C.1.1 C.1.2.1 dX6_readByte_6 rfl (lv_at hl 1 rfl) ?_
    refine lv_bipush (v := 122) C.1.1 C.1.2.1 dX6_readByte_7 (by decide) ?_
    refine yy_icmp_gt (tgt := 23) C dX6_readByte_9 (by decide) h (fun h => ?_) (fun h => ?_)
    · exact ww_X6_readByte_23  C hr hlk Z (lv_sub hl [0, 1, 2] rfl) h
    · refine lv_aload_n C.1.1 C.1.2.1 dX6_readByte_12 rfl (lv_at hl 0 rfl) ?_
      refine lv_iload_n C.1.1 C.1.2.1 dX6_readByte_13 rfl (lv_at hl 1 rfl) ?_
      refine lv_bipush (v := 97) C.1.1 C.1.2.1 dX6_readByte_14 (by decide) ?_
      refine lv_isub C.1.1 C.1.2.1 dX6_readByte_16 ?_
      refine lv_iconst (v := 1) C.1.1 C.1.2.1 dX6_readByte_17 (by decide) ?_
      refine lv_iadd C.1.1 C.1.2.1 dX6_readByte_18 ?_
      refine yy_cVi0 (As := [.int ((x1 - 97) + 1)]) (rest := []) (id := 3) (ci := 6) (q := (RX6, TX6, 5)) C Z (ss_X6_readLetter l D κ ext ((x1 - 97) + 1)) (by decide) (yy_ent_3 _) rfl tw_396 kw_X6_readLetter ⟨⟨rfl, rfl⟩, ⟨Nat.le_of_ble_eq_true rfl, Nat.le_of_ble_eq_true rfl⟩, Nat.le_of_ble_eq_true rfl, Nat.le_of_ble_eq_true rfl⟩ hl.1 rfl (Nat.le_of_ble_eq_true rfl) dX6_readByte_19 h (fun r2 τ H locs Z h => ?_)
      exact yy_iret C Z hr hlk rfl dX6_readByte_22 h
set_option maxHeartbeats 4000000 in
set_option maxRecDepth 100000 in
theorem ss_X6_readByte (l : Launch) (D : va_G) (κ : Nat → Nat) (ext : va_W) (x1 : Int32) (x2 : Int32) : yy_Mi l D κ ext yX6_readByte cX6_readByte 3 (some .int) rm_X6_readByte 0 0 [.ref (κ 4 + 3), .int x1, .int x2] (mm_X6_readByte x1 x2) := by
  intro sz τ res h
  refine yy_ofW (by decide) (Nat.le_of_ble_eq_true rfl) ?_
  intro p e s m args below meth c ls hsz E
  obtain ⟨C, hr, hlk, Z, hl⟩ := E
  subst hsz
  exact ww_X6_readByte_E  C hr hlk Z hl h
/-! MovedLines$Reader.readEnd(Z)I -/
noncomputable def mm_X6_readEnd (x1 : Int32) : yy_M Int32 :=
  yy_br (x1 = 0) (yy_cl (mm_X6_closeLine ) (fun r1 => yy_rt r1)) (yy_rF 3 3 fun v2 => yy_br (v2 = 0) (yy_rt 0) (yy_rt 1))
theorem kw_X6_readEnd : yy_wV RX6 yX6_readEnd cX6_readEnd 2 (some .int) 1 := ⟨⟨tw_406, tw_4, tw_53, tw_407⟩, by decide +kernel⟩
abbrev rm_X6_readEnd : Room := { frames := 1, cells := 0, slots := 0, locals := 20 }
set_option maxHeartbeats 4000000 in
set_option maxRecDepth 100000 in
theorem ww_X6_readEnd_E {x1 : Int32} {res : Int32 × yy_T} (C : yy_C D κ p m c cX6_readEnd 2 s args RX6) (hr : meth.sig.returnType = (some .int)) (hlk : meth.locks = false) (Z : yy_Z D κ ext A s.heap τ H locs) (hl : lv_has ls 2 [(0, .ref (κ 4 + 3)), (1, .int x1)]) (h : mm_X6_readEnd x1 τ = some res) : W p l e rm_X6_readEnd s m args below meth c H locs 0 0 (MQ below (yy_Qi D κ ext A res) args s 0 0 A) (F0 m 0 ls []) := by
  unfold mm_X6_readEnd at h
  refine lv_iload_n C.1.1 C.1.2.1 dX6_readEnd_0 rfl (lv_at hl 1 rfl) ?_
  refine yy_if_eq (tgt := 17) C dX6_readEnd_1 (by decide) h (fun h => ?_) (fun h => ?_)
  · refine lv_aload_n C.1.1 C.1.2.1 dX6_readEnd_17 rfl (lv_at hl 0 rfl) ?_
    refine yy_cVi0 (As := []) (rest := []) (id := 3) (ci := 6) (q := (RX6, TX6, 5)) C Z (ss_X6_closeLine l D κ ext ) (by decide) (yy_ent_3 _) rfl tw_400 kw_X6_closeLine ⟨⟨rfl, rfl⟩, ⟨Nat.le_of_ble_eq_true rfl, Nat.le_of_ble_eq_true rfl⟩, Nat.le_of_ble_eq_true rfl, Nat.le_of_ble_eq_true rfl⟩ hl.1 rfl (Nat.le_of_ble_eq_true rfl) dX6_readEnd_18 h (fun r1 τ H locs Z h => ?_)
    exact yy_iret C Z hr hlk rfl dX6_readEnd_21 h
  · refine lv_aload_n C.1.1 C.1.2.1 dX6_readEnd_4 rfl (lv_at hl 0 rfl) ?_
    refine yg_X6_3 C Z tw_130 dX6_readEnd_5 h (fun v2 h => ?_)
    refine yy_if_ne (tgt := 15) C dX6_readEnd_8 (by decide) h (fun h => ?_) (fun h => ?_)
    · refine lv_iconst (v := 1) C.1.1 C.1.2.1 dX6_readEnd_15 (by decide) ?_
      exact yy_iret C Z hr hlk rfl dX6_readEnd_16 h
    · refine lv_iconst (v := 0) C.1.1 C.1.2.1 dX6_readEnd_11 (by decide) ?_
      refine lv_goto (tgt := 16) C.1.1 C.1.2.1 dX6_readEnd_12 (by decide) ?_
      exact yy_iret C Z hr hlk rfl dX6_readEnd_16 h
set_option maxHeartbeats 4000000 in
set_option maxRecDepth 100000 in
theorem ss_X6_readEnd (l : Launch) (D : va_G) (κ : Nat → Nat) (ext : va_W) (x1 : Int32) : yy_Mi l D κ ext yX6_readEnd cX6_readEnd 2 (some .int) rm_X6_readEnd 0 0 [.ref (κ 4 + 3), .int x1] (mm_X6_readEnd x1) := by
  intro sz τ res h
  refine yy_ofW (by decide) (Nat.le_of_ble_eq_true rfl) ?_
  intro p e s m args below meth c ls hsz E
  obtain ⟨C, hr, hlk, Z, hl⟩ := E
  subst hsz
  exact ww_X6_readEnd_E  C hr hlk Z hl h
/-! MovedLines$Reader.read(LMovedLines$Tape;Z)Z -/
noncomputable def mm_X6_read_84 (x2 : Int32) (x3 : Int32) (x4 : Int32) (s0 : Int32) : yy_M ((Int32) ⊕ ((Unit))) :=
  yy_wF 3 1 s0 (yy_rt (.inl (x4 + 1)))
noncomputable def mm_X6_read_39b (x2 : Int32) (x3 : Int32) (x4 : Int32) : yy_M ((Int32) ⊕ ((Unit))) :=
  yy_rF 1 1 fun v1 => yy_br (v1 ≤ x4) (yy_rt (.inr ())) (yy_rF 3 1 fun v2 => yy_br (v2 = 0) (yy_wF 3 2 x4 (yy_br (x3 ≤ x4) (mm_X6_read_84 x2 x3 x4 1) (yy_rA 2 640 x4 fun v3 => yy_cl (mm_X6_readByte v3 x2) (fun r4 => mm_X6_read_84 x2 x3 x4 r4)))) (yy_rt (.inr ())))
noncomputable def mm_X6_read_117 : yy_M Int32 :=
  yy_rF 3 1 fun v6 => yy_br (v6 = 0) (yy_rt 1) (yy_rt 0)
noncomputable def mm_X6_read_93 (x2 : Int32) : yy_M Int32 :=
  yy_rF 3 1 fun v5 => yy_br (v5 = 0) (yy_rF 1 1 fun v7 => yy_wF 3 2 v7 (yy_cl (mm_X6_readEnd x2) (fun r8 => yy_wF 3 1 r8 (mm_X6_read_117 )))) (mm_X6_read_117 )
noncomputable def mm_X6_read_39 (x2 : Int32) (x3 : Int32) (x4 : Int32) : yy_M Int32 :=
  yy_cl (yy_lp (fun (w : Int32) => mm_X6_read_39b x2 x3 w) x4) (fun w => mm_X6_read_93 x2)
noncomputable def mm_X6_read_35 (x2 : Int32) (s0 : Int32) : yy_M Int32 :=
  mm_X6_read_39 x2 s0 0
noncomputable def mm_X6_read (x2 : Int32) : yy_M Int32 :=
  yy_wF 4 2 0 (yy_wF 3 1 0 (yy_wF 3 3 0 (yy_wF 3 4 0 (yy_br (x2 = 0) (mm_X6_read_35 x2 80) (mm_X6_read_35 x2 600)))))
theorem kw_X6_read : yy_wV RX6 yX6_read cX6_read 5 (some .boolean) 2 := ⟨⟨tw_389, tw_390, tw_53, tw_391⟩, by decide +kernel⟩
abbrev rm_X6_read : Room := { frames := 2, cells := 0, slots := 0, locals := 43 }
set_option maxHeartbeats 4000000 in
set_option maxRecDepth 100000 in
theorem ww_X6_read_84 {x2 : Int32} {x3 : Int32} {x4 : Int32} {s0 : Int32} {res : ((Int32) ⊕ ((Unit))) × yy_T} {Q : State → Prop} (C : yy_C D κ p m c cX6_read 5 s args RX6) (Z : yy_Z D κ ext A s.heap τ H locs) (hl : lv_has ls 5 [(0, .ref (κ 4 + 3)), (1, .ref (κ 4 + 1)), (2, .int x2), (3, .int x3), (4, .int x4)]) (h : mm_X6_read_84 x2 x3 x4 s0 τ = some res)
    (kI : ∀ (w : Int32) (τ1 : yy_T) (H1 : Heap) (locs1 : List Loc) (ls1 : Array Slot), res = (.inl w, τ1) → yy_Z D κ ext A s.heap τ1 H1 locs1 → lv_has ls1 5 [(0, .ref (κ 4 + 3)), (1, .ref (κ 4 + 1)), (2, .int x2), (3, .int x3), (4, .int w)] → W p l e rm_X6_read s m args below meth c H1 locs1 0 0 Q (F0 m 39 ls1 [])) : W p l e rm_X6_read s m args below meth c H locs 0 0 Q (F0 m 84 ls [.int s0, .ref (κ 4 + 3)]) := by
  unfold mm_X6_read_84 at h
  refine yp_X6_1 C Z tw_126 dX6_read_84 h (fun H locs τ Z h => ?_)
  refine lv_iinc (v := x4 + 1) (lv' := [(4, .int (x4 + 1)), (0, .ref (κ 4 + 3)), (1, .ref (κ 4 + 1)), (2, .int x2), (3, .int x3)]) C.1.1 C.1.2.1 dX6_read_87 hl (k := 4) rfl (by rfl) (by decide) rfl (fun ls hl => ?_)
  refine lv_goto (tgt := 39) C.1.1 C.1.2.1 dX6_read_90 (by decide) ?_
  exact kI _ _ _ _ _ (yy_rt_of h) Z (lv_sub hl [1, 2, 3, 4, 0] rfl)
set_option maxHeartbeats 4000000 in
set_option maxRecDepth 100000 in
theorem ww_X6_read_39b {x2 : Int32} {x3 : Int32} {x4 : Int32} {res : ((Int32) ⊕ ((Unit))) × yy_T} {Q : State → Prop} (C : yy_C D κ p m c cX6_read 5 s args RX6) (Z : yy_Z D κ ext A s.heap τ H locs) (hl : lv_has ls 5 [(0, .ref (κ 4 + 3)), (1, .ref (κ 4 + 1)), (2, .int x2), (3, .int x3), (4, .int x4)]) (h : mm_X6_read_39b x2 x3 x4 τ = some res)
    (kI : ∀ (w : Int32) (τ1 : yy_T) (H1 : Heap) (locs1 : List Loc) (ls1 : Array Slot), res = (.inl w, τ1) → yy_Z D κ ext A s.heap τ1 H1 locs1 → lv_has ls1 5 [(0, .ref (κ 4 + 3)), (1, .ref (κ 4 + 1)), (2, .int x2), (3, .int x3), (4, .int w)] → W p l e rm_X6_read s m args below meth c H1 locs1 0 0 Q (F0 m 39 ls1 []))
    (kR0 : ∀ (w : Unit) (τ1 : yy_T) (H1 : Heap) (locs1 : List Loc) (ls1 : Array Slot), res = (.inr w, τ1) → yy_Z D κ ext A s.heap τ1 H1 locs1 → lv_has ls1 5 [(0, .ref (κ 4 + 3)), (1, .ref (κ 4 + 1)), (2, .int x2)] → W p l e rm_X6_read s m args below meth c H1 locs1 0 0 Q (F0 m 93 ls1 [])) : W p l e rm_X6_read s m args below meth c H locs 0 0 Q (F0 m 39 ls []) := by
  unfold mm_X6_read_39b at h
  refine lv_iload C.1.1 C.1.2.1 dX6_read_39 (lv_at hl 4 rfl) ?_
  refine lv_aload_n C.1.1 C.1.2.1 dX6_read_41 rfl (lv_at hl 1 rfl) ?_
  refine yg_X7_1 C Z tw_86 dX6_read_42 h (fun v1 h => ?_)
  refine yy_icmp_ge (tgt := 93) C dX6_read_45 (by decide) h (fun h => ?_) (fun h => ?_)
  · exact kR0 _ _ _ _ _ (yy_rt_of h) Z (lv_sub hl [0, 1, 2] rfl)
  · refine lv_aload_n C.1.1 C.1.2.1 dX6_read_48 rfl (lv_at hl 0 rfl) ?_
    refine yg_X6_1 C Z tw_126 dX6_read_49 h (fun v2 h => ?_)
    refine yy_if_ne (tgt := 93) C dX6_read_52 (by decide) h (fun h => ?_) (fun h => ?_)
    · exact kR0 _ _ _ _ _ (yy_rt_of h) Z (lv_sub hl [0, 1, 2] rfl)
    · refine lv_aload_n C.1.1 C.1.2.1 dX6_read_55 rfl (lv_at hl 0 rfl) ?_
      refine lv_iload C.1.1 C.1.2.1 dX6_read_56 (lv_at hl 4 rfl) ?_
      refine yp_X6_2 C Z tw_128 dX6_read_58 h (fun H locs τ Z h => ?_)
      refine lv_aload_n C.1.1 C.1.2.1 dX6_read_61 rfl (lv_at hl 0 rfl) ?_
      refine lv_iload C.1.1 C.1.2.1 dX6_read_62 (lv_at hl 4 rfl) ?_
      refine lv_iload_n C.1.1 C.1.2.1 dX6_read_64 rfl (lv_at hl 3 rfl) ?_
      refine yy_icmp_ge (tgt := 83) C dX6_read_65 (by decide) h (fun h => ?_) (fun h => ?_)
      · refine lv_iconst (v := 1) C.1.1 C.1.2.1 dX6_read_83 (by decide) ?_
        exact ww_X6_read_84  C Z (lv_sub hl [0, 1, 2, 3, 4] rfl) h kI
      · refine lv_aload_n C.1.1 C.1.2.1 dX6_read_68 rfl (lv_at hl 0 rfl) ?_
        refine lv_aload_n C.1.1 C.1.2.1 dX6_read_69 rfl (lv_at hl 1 rfl) ?_
        refine yg_X7_0 C Z tw_83 dX6_read_70 ?_
        refine lv_iload C.1.1 C.1.2.1 dX6_read_73 (lv_at hl 4 rfl) ?_
        refine yy_bald C Z dX6_read_75 h (fun v3 h => ?_)
        refine lv_iload_n C.1.1 C.1.2.1 dX6_read_76 rfl (lv_at hl 2 rfl) ?_
        refine yy_cVi0 (As := [.int v3, .int x2]) (rest := [.ref (κ 4 + 3)]) (id := 3) (ci := 6) (q := (RX6, TX6, 5)) C Z (ss_X6_readByte l D κ ext v3 x2) (by decide) (yy_ent_3 _) rfl tw_392 kw_X6_readByte ⟨⟨rfl, rfl⟩, ⟨Nat.le_of_ble_eq_true rfl, Nat.le_of_ble_eq_true rfl⟩, Nat.le_of_ble_eq_true rfl, Nat.le_of_ble_eq_true rfl⟩ hl.1 rfl (Nat.le_of_ble_eq_true rfl) dX6_read_77 h (fun r4 τ H locs Z h => ?_)
        refine lv_goto (tgt := 84) C.1.1 C.1.2.1 dX6_read_80 (by decide) ?_
        exact ww_X6_read_84  C Z (lv_sub hl [0, 1, 2, 3, 4] rfl) h kI
set_option maxHeartbeats 4000000 in
set_option maxRecDepth 100000 in
theorem ww_X6_read_117 {res : Int32 × yy_T} (C : yy_C D κ p m c cX6_read 5 s args RX6) (hr : meth.sig.returnType = (some .boolean)) (hlk : meth.locks = false) (Z : yy_Z D κ ext A s.heap τ H locs) (hl : lv_has ls 5 [(0, .ref (κ 4 + 3))]) (h : mm_X6_read_117  τ = some res) : W p l e rm_X6_read s m args below meth c H locs 0 0 (MQ below (yy_Qi D κ ext A res) args s 0 0 A) (F0 m 117 ls []) := by
  unfold mm_X6_read_117 at h
  refine lv_aload_n C.1.1 C.1.2.1 dX6_read_117 rfl (lv_at hl 0 rfl) ?_
  refine yg_X6_1 C Z tw_126 dX6_read_118 h (fun v6 h => ?_)
  refine yy_if_ne (tgt := 128) C dX6_read_121 (by decide) h (fun h => ?_) (fun h => ?_)
  · refine lv_iconst (v := 0) C.1.1 C.1.2.1 dX6_read_128 (by decide) ?_
    exact yy_iret C Z hr hlk rfl dX6_read_129 h
  · refine lv_iconst (v := 1) C.1.1 C.1.2.1 dX6_read_124 (by decide) ?_
    refine lv_goto (tgt := 129) C.1.1 C.1.2.1 dX6_read_125 (by decide) ?_
    exact yy_iret C Z hr hlk rfl dX6_read_129 h
set_option maxHeartbeats 4000000 in
set_option maxRecDepth 100000 in
theorem ww_X6_read_93 {x2 : Int32} {res : Int32 × yy_T} (C : yy_C D κ p m c cX6_read 5 s args RX6) (hr : meth.sig.returnType = (some .boolean)) (hlk : meth.locks = false) (Z : yy_Z D κ ext A s.heap τ H locs) (hl : lv_has ls 5 [(0, .ref (κ 4 + 3)), (1, .ref (κ 4 + 1)), (2, .int x2)]) (h : mm_X6_read_93 x2 τ = some res) : W p l e rm_X6_read s m args below meth c H locs 0 0 (MQ below (yy_Qi D κ ext A res) args s 0 0 A) (F0 m 93 ls []) := by
  unfold mm_X6_read_93 at h
  refine lv_aload_n C.1.1 C.1.2.1 dX6_read_93 rfl (lv_at hl 0 rfl) ?_
  refine yg_X6_1 C Z tw_126 dX6_read_94 h (fun v5 h => ?_)
  refine yy_if_ne (tgt := 117) C dX6_read_97 (by decide) h (fun h => ?_) (fun h => ?_)
  · exact ww_X6_read_117  C hr hlk Z (lv_sub hl [0] rfl) h
  · refine lv_aload_n C.1.1 C.1.2.1 dX6_read_100 rfl (lv_at hl 0 rfl) ?_
    refine lv_aload_n C.1.1 C.1.2.1 dX6_read_101 rfl (lv_at hl 1 rfl) ?_
    refine yg_X7_1 C Z tw_86 dX6_read_102 h (fun v7 h => ?_)
    refine yp_X6_2 C Z tw_128 dX6_read_105 h (fun H locs τ Z h => ?_)
    refine lv_aload_n C.1.1 C.1.2.1 dX6_read_108 rfl (lv_at hl 0 rfl) ?_
    refine lv_aload_n C.1.1 C.1.2.1 dX6_read_109 rfl (lv_at hl 0 rfl) ?_
    refine lv_iload_n C.1.1 C.1.2.1 dX6_read_110 rfl (lv_at hl 2 rfl) ?_
    refine yy_cVi0 (As := [.int x2]) (rest := [.ref (κ 4 + 3)]) (id := 3) (ci := 6) (q := (RX6, TX6, 5)) C Z (ss_X6_readEnd l D κ ext x2) (by decide) (yy_ent_3 _) rfl tw_404 kw_X6_readEnd ⟨⟨rfl, rfl⟩, ⟨Nat.le_of_ble_eq_true rfl, Nat.le_of_ble_eq_true rfl⟩, Nat.le_of_ble_eq_true rfl, Nat.le_of_ble_eq_true rfl⟩ hl.1 rfl (Nat.le_of_ble_eq_true rfl) dX6_read_111 h (fun r8 τ H locs Z h => ?_)
    refine yp_X6_1 C Z tw_126 dX6_read_114 h (fun H locs τ Z h => ?_)
    exact ww_X6_read_117  C hr hlk Z (lv_sub hl [0] rfl) h
set_option maxHeartbeats 4000000 in
set_option maxRecDepth 100000 in
theorem ww_X6_read_39 {x2 : Int32} {x3 : Int32} {x4 : Int32} {res : Int32 × yy_T} (C : yy_C D κ p m c cX6_read 5 s args RX6) (hr : meth.sig.returnType = (some .boolean)) (hlk : meth.locks = false) (Z : yy_Z D κ ext A s.heap τ H locs) (hl : lv_has ls 5 [(0, .ref (κ 4 + 3)), (1, .ref (κ 4 + 1)), (2, .int x2), (3, .int x3), (4, .int x4)]) (h : mm_X6_read_39 x2 x3 x4 τ = some res) : W p l e rm_X6_read s m args below meth c H locs 0 0 (MQ below (yy_Qi D κ ext A res) args s 0 0 A) (F0 m 39 ls []) := by
  unfold mm_X6_read_39 at h
  refine yy_loop h (fun (w : Int32) (τ : yy_T) => ∀ (H : Heap) (locs : List Loc) (ls : Array Slot), yy_Z D κ ext A s.heap τ H locs → lv_has ls 5 [(0, .ref (κ 4 + 3)), (1, .ref (κ 4 + 1)), (2, .int x2), (3, .int x3), (4, .int w)] → W p l e rm_X6_read s m args below meth c H locs 0 0 (MQ below (yy_Qi D κ ext A res) args s 0 0 A) (F0 m 39 ls [])) ?_ H locs ls Z hl
  intro w τ y hy hI hX H locs ls Z hl
  refine ww_X6_read_39b  C Z hl hy (fun w τ H locs ls ey Z hl => hI w τ ey H locs ls Z hl) (fun w τ H locs ls ey Z hl => ?_)
  · have h := hX _ _ ey
    exact ww_X6_read_93  C hr hlk Z (lv_sub hl [0, 1, 2] rfl) h
set_option maxHeartbeats 4000000 in
set_option maxRecDepth 100000 in
theorem ww_X6_read_35 {x2 : Int32} {s0 : Int32} {res : Int32 × yy_T} (C : yy_C D κ p m c cX6_read 5 s args RX6) (hr : meth.sig.returnType = (some .boolean)) (hlk : meth.locks = false) (Z : yy_Z D κ ext A s.heap τ H locs) (hl : lv_has ls 5 [(0, .ref (κ 4 + 3)), (1, .ref (κ 4 + 1)), (2, .int x2)]) (h : mm_X6_read_35 x2 s0 τ = some res) : W p l e rm_X6_read s m args below meth c H locs 0 0 (MQ below (yy_Qi D κ ext A res) args s 0 0 A) (F0 m 35 ls [.int s0]) := by
  unfold mm_X6_read_35 at h
  refine lv_istore_n (lv' := [(3, .int s0), (0, .ref (κ 4 + 3)), (1, .ref (κ 4 + 1)), (2, .int x2)]) C.1.1 C.1.2.1 dX6_read_35 rfl hl (by decide) rfl (fun ls hl => ?_)
  refine lv_iconst (v := 0) C.1.1 C.1.2.1 dX6_read_36 (by decide) ?_
  refine lv_istore (lv' := [(4, .int 0), (3, .int s0), (0, .ref (κ 4 + 3)), (1, .ref (κ 4 + 1)), (2, .int x2)]) C.1.1 C.1.2.1 dX6_read_37 hl (by decide) rfl (fun ls hl => ?_)
  exact ww_X6_read_39  C hr hlk Z (lv_sub hl [2, 3, 4, 1, 0] rfl) h
set_option maxHeartbeats 4000000 in
set_option maxRecDepth 100000 in
theorem ww_X6_read_E {x2 : Int32} {res : Int32 × yy_T} (C : yy_C D κ p m c cX6_read 5 s args RX6) (hr : meth.sig.returnType = (some .boolean)) (hlk : meth.locks = false) (Z : yy_Z D κ ext A s.heap τ H locs) (hl : lv_has ls 5 [(0, .ref (κ 4 + 3)), (1, .ref (κ 4 + 1)), (2, .int x2)]) (h : mm_X6_read x2 τ = some res) : W p l e rm_X6_read s m args below meth c H locs 0 0 (MQ below (yy_Qi D κ ext A res) args s 0 0 A) (F0 m 0 ls []) := by
  unfold mm_X6_read at h
  refine lv_aload_n C.1.1 C.1.2.1 dX6_read_0 rfl (lv_at hl 0 rfl) ?_
  refine yg_X6_0 C Z tw_124 dX6_read_1 ?_
  refine lv_iconst (v := 0) C.1.1 C.1.2.1 dX6_read_4 (by decide) ?_
  refine yp_X2_2 C Z (by decide) tw_113 dX6_read_5 h (fun H locs τ Z h => ?_)
  refine lv_aload_n C.1.1 C.1.2.1 dX6_read_8 rfl (lv_at hl 0 rfl) ?_
  refine lv_iconst (v := 0) C.1.1 C.1.2.1 dX6_read_9 (by decide) ?_
  refine yp_X6_1 C Z tw_126 dX6_read_10 h (fun H locs τ Z h => ?_)
  refine lv_aload_n C.1.1 C.1.2.1 dX6_read_13 rfl (lv_at hl 0 rfl) ?_
  refine lv_iconst (v := 0) C.1.1 C.1.2.1 dX6_read_14 (by decide) ?_
  refine yp_X6_3 C Z tw_130 dX6_read_15 h (fun H locs τ Z h => ?_)
  refine lv_aload_n C.1.1 C.1.2.1 dX6_read_18 rfl (lv_at hl 0 rfl) ?_
  refine lv_iconst (v := 0) C.1.1 C.1.2.1 dX6_read_19 (by decide) ?_
  refine yp_X6_4 C Z tw_131 dX6_read_20 h (fun H locs τ Z h => ?_)
  refine lv_iload_n C.1.1 C.1.2.1 dX6_read_23 rfl (lv_at hl 2 rfl) ?_
  refine yy_if_eq (tgt := 33) C dX6_read_24 (by decide) h (fun h => ?_) (fun h => ?_)
  · refine lv_bipush (v := 80) C.1.1 C.1.2.1 dX6_read_33 (by decide) ?_
    exact ww_X6_read_35  C hr hlk Z (lv_sub hl [0, 1, 2] rfl) h
  · refine lv_sipush (v := 600) C.1.1 C.1.2.1 dX6_read_27 (by decide) ?_
    refine lv_goto (tgt := 35) C.1.1 C.1.2.1 dX6_read_30 (by decide) ?_
    exact ww_X6_read_35  C hr hlk Z (lv_sub hl [0, 1, 2] rfl) h
set_option maxHeartbeats 4000000 in
set_option maxRecDepth 100000 in
theorem ss_X6_read (l : Launch) (D : va_G) (κ : Nat → Nat) (ext : va_W) (x2 : Int32) : yy_Mi l D κ ext yX6_read cX6_read 5 (some .boolean) rm_X6_read 0 0 [.ref (κ 4 + 3), .ref (κ 4 + 1), .int x2] (mm_X6_read x2) := by
  intro sz τ res h
  refine yy_ofW (by decide) (Nat.le_of_ble_eq_true rfl) ?_
  intro p e s m args below meth c ls hsz E
  obtain ⟨C, hr, hlk, Z, hl⟩ := E
  subst hsz
  exact ww_X6_read_E  C hr hlk Z hl h
/-! MovedLines$Tape.append(I)V -/
noncomputable def mm_X7_append (x1 : Int32) : yy_M Unit :=
  yy_rF 1 1 fun v1 => yy_br (v1 < 0) (yy_rt ()) (yy_rF 1 1 fun v2 => yy_br (v2 ≤ 636) (yy_rF 1 1 fun v3 => yy_wA 2 640 v3 (vp_nar .byte ((Int32.toInt8 ((Int32.toUInt32 x1 >>> (Int32.toUInt32 24 &&& Int32.toUInt32 31)).toInt32)).toInt32)) (yy_rF 1 1 fun v4 => yy_wA 2 640 (v4 + 1) (vp_nar .byte ((Int32.toInt8 ((Int32.toUInt32 x1 >>> (Int32.toUInt32 16 &&& Int32.toUInt32 31)).toInt32)).toInt32)) (yy_rF 1 1 fun v5 => yy_wA 2 640 (v5 + 2) (vp_nar .byte ((Int32.toInt8 ((Int32.toUInt32 x1 >>> (Int32.toUInt32 8 &&& Int32.toUInt32 31)).toInt32)).toInt32)) (yy_rF 1 1 fun v6 => yy_wA 2 640 (v6 + 3) (vp_nar .byte ((Int32.toInt8 x1).toInt32)) (yy_rF 1 1 fun v7 => yy_wF 1 1 (v7 + 4) (yy_rt ())))))) (yy_rt ()))
theorem kw_X7_append : yy_wV RX7 yX7_append cX7_append 2 none 1 := ⟨⟨tw_370, tw_371, tw_52, tw_372⟩, by decide +kernel⟩
abbrev rm_X7_append : Room := { frames := 0, cells := 0, slots := 0, locals := 0 }
set_option maxHeartbeats 4000000 in
set_option maxRecDepth 100000 in
theorem ww_X7_append_E {x1 : Int32} {res : Unit × yy_T} (C : yy_C D κ p m c cX7_append 2 s args RX7) (hr : meth.sig.returnType = none) (hlk : meth.locks = false) (Z : yy_Z D κ ext A s.heap τ H locs) (hl : lv_has ls 2 [(0, .ref (κ 4 + 1)), (1, .int x1)]) (h : mm_X7_append x1 τ = some res) : W p l e rm_X7_append s m args below meth c H locs 0 0 (MQ below (yy_Qv D κ ext A res) args s 0 0 A) (F0 m 0 ls []) := by
  unfold mm_X7_append at h
  refine lv_aload_n C.1.1 C.1.2.1 dX7_append_0 rfl (lv_at hl 0 rfl) ?_
  refine yg_X7_1 C Z tw_84 dX7_append_1 h (fun v1 h => ?_)
  refine yy_if_lt (tgt := 17) C dX7_append_4 (by decide) h (fun h => ?_) (fun h => ?_)
  · exact yy_vret C Z hr hlk dX7_append_17 h
  · refine lv_aload_n C.1.1 C.1.2.1 dX7_append_7 rfl (lv_at hl 0 rfl) ?_
    refine yg_X7_1 C Z tw_84 dX7_append_8 h (fun v2 h => ?_)
    refine lv_sipush (v := 636) C.1.1 C.1.2.1 dX7_append_11 (by decide) ?_
    refine yy_icmp_le (tgt := 18) C dX7_append_14 (by decide) h (fun h => ?_) (fun h => ?_)
    · refine lv_aload_n C.1.1 C.1.2.1 dX7_append_18 rfl (lv_at hl 0 rfl) ?_
      refine yg_X7_0 C Z tw_82 dX7_append_19 ?_
      refine lv_aload_n C.1.1 C.1.2.1 dX7_append_22 rfl (lv_at hl 0 rfl) ?_
      refine yg_X7_1 C Z tw_84 dX7_append_23 h (fun v3 h => ?_)
      refine lv_iload_n C.1.1 C.1.2.1 dX7_append_26 rfl (lv_at hl 1 rfl) ?_
      refine lv_bipush (v := 24) C.1.1 C.1.2.1 dX7_append_27 (by decide) ?_
      refine lv_iushr C.1.1 C.1.2.1 dX7_append_29 rfl ?_
      refine lv_i2b C.1.1 C.1.2.1 dX7_append_30 rfl ?_
      refine yy_bast C Z dX7_append_31 h (fun H locs τ Z h => ?_)
      refine lv_aload_n C.1.1 C.1.2.1 dX7_append_32 rfl (lv_at hl 0 rfl) ?_
      refine yg_X7_0 C Z tw_82 dX7_append_33 ?_
      refine lv_aload_n C.1.1 C.1.2.1 dX7_append_36 rfl (lv_at hl 0 rfl) ?_
      refine yg_X7_1 C Z tw_84 dX7_append_37 h (fun v4 h => ?_)
      refine lv_iconst (v := 1) C.1.1 C.1.2.1 dX7_append_40 (by decide) ?_
      refine lv_iadd C.1.1 C.1.2.1 dX7_append_41 ?_
      refine lv_iload_n C.1.1 C.1.2.1 dX7_append_42 rfl (lv_at hl 1 rfl) ?_
      refine lv_bipush (v := 16) C.1.1 C.1.2.1 dX7_append_43 (by decide) ?_
      refine lv_iushr C.1.1 C.1.2.1 dX7_append_45 rfl ?_
      refine lv_i2b C.1.1 C.1.2.1 dX7_append_46 rfl ?_
      refine yy_bast C Z dX7_append_47 h (fun H locs τ Z h => ?_)
      refine lv_aload_n C.1.1 C.1.2.1 dX7_append_48 rfl (lv_at hl 0 rfl) ?_
      refine yg_X7_0 C Z tw_82 dX7_append_49 ?_
      refine lv_aload_n C.1.1 C.1.2.1 dX7_append_52 rfl (lv_at hl 0 rfl) ?_
      refine yg_X7_1 C Z tw_84 dX7_append_53 h (fun v5 h => ?_)
      refine lv_iconst (v := 2) C.1.1 C.1.2.1 dX7_append_56 (by decide) ?_
      refine lv_iadd C.1.1 C.1.2.1 dX7_append_57 ?_
      refine lv_iload_n C.1.1 C.1.2.1 dX7_append_58 rfl (lv_at hl 1 rfl) ?_
      refine lv_bipush (v := 8) C.1.1 C.1.2.1 dX7_append_59 (by decide) ?_
      refine lv_iushr C.1.1 C.1.2.1 dX7_append_61 rfl ?_
      refine lv_i2b C.1.1 C.1.2.1 dX7_append_62 rfl ?_
      refine yy_bast C Z dX7_append_63 h (fun H locs τ Z h => ?_)
      refine lv_aload_n C.1.1 C.1.2.1 dX7_append_64 rfl (lv_at hl 0 rfl) ?_
      refine yg_X7_0 C Z tw_82 dX7_append_65 ?_
      refine lv_aload_n C.1.1 C.1.2.1 dX7_append_68 rfl (lv_at hl 0 rfl) ?_
      refine yg_X7_1 C Z tw_84 dX7_append_69 h (fun v6 h => ?_)
      refine lv_iconst (v := 3) C.1.1 C.1.2.1 dX7_append_72 (by decide) ?_
      refine lv_iadd C.1.1 C.1.2.1 dX7_append_73 ?_
      refine lv_iload_n C.1.1 C.1.2.1 dX7_append_74 rfl (lv_at hl 1 rfl) ?_
      refine lv_i2b C.1.1 C.1.2.1 dX7_append_75 rfl ?_
      refine yy_bast C Z dX7_append_76 h (fun H locs τ Z h => ?_)
      refine lv_aload_n C.1.1 C.1.2.1 dX7_append_77 rfl (lv_at hl 0 rfl) ?_
      refine lv_dup C.1.1 C.1.2.1 dX7_append_78 rfl ?_
      refine yg_X7_1 C Z tw_84 dX7_append_79 h (fun v7 h => ?_)
      refine lv_iconst (v := 4) C.1.1 C.1.2.1 dX7_append_82 (by decide) ?_
      refine lv_iadd C.1.1 C.1.2.1 dX7_append_83 ?_
      refine yp_X7_1 C Z tw_84 dX7_append_84 h (fun H locs τ Z h => ?_)
      exact yy_vret C Z hr hlk dX7_append_87 h
    · exact yy_vret C Z hr hlk dX7_append_17 h
set_option maxHeartbeats 4000000 in
set_option maxRecDepth 100000 in
theorem ss_X7_append (l : Launch) (D : va_G) (κ : Nat → Nat) (ext : va_W) (x1 : Int32) : yy_Mv l D κ ext yX7_append cX7_append 2 none rm_X7_append 0 0 [.ref (κ 4 + 1), .int x1] (mm_X7_append x1) := by
  intro sz τ res h
  refine yy_ofW (by decide) (Nat.le_of_ble_eq_true rfl) ?_
  intro p e s m args below meth c ls hsz E
  obtain ⟨C, hr, hlk, Z, hl⟩ := E
  subst hsz
  exact ww_X7_append_E  C hr hlk Z hl h
/-! MovedLines$Told.allCouples()I -/
noncomputable def mm_X8_allCouples (k0 : Nat) : yy_M Int32 :=
  yy_rA (k0 + 10) 3 0 fun v1 => yy_rA (k0 + 10) 3 1 fun v2 => yy_rA (k0 + 10) 3 2 fun v3 => yy_rt ((v1 + v2) + v3)
theorem kw_X8_allCouples : yy_wV RX8 yX8_allCouples cX8_allCouples 1 (some .int) 0 := ⟨⟨tw_560, tw_561, tw_60, tw_562⟩, by decide +kernel⟩
abbrev rm_X8_allCouples : Room := { frames := 0, cells := 0, slots := 0, locals := 0 }
set_option maxHeartbeats 4000000 in
set_option maxRecDepth 100000 in
theorem ww_X8_allCouples_E {k0 : Nat} (hk0 : k0 ∈ yy_Tds) {res : Int32 × yy_T} (C : yy_C D κ p m c cX8_allCouples 1 s args RX8) (hr : meth.sig.returnType = (some .int)) (hlk : meth.locks = false) (Z : yy_Z D κ ext A s.heap τ H locs) (hl : lv_has ls 1 [(0, .ref (κ 4 + k0))]) (h : mm_X8_allCouples k0 τ = some res) : W p l e rm_X8_allCouples s m args below meth c H locs 0 0 (MQ below (yy_Qi D κ ext A res) args s 0 0 A) (F0 m 0 ls []) := by
  unfold mm_X8_allCouples at h
  refine lv_aload_n C.1.1 C.1.2.1 dX8_allCouples_0 rfl (lv_at hl 0 rfl) ?_
  refine yg_X8_3 C Z hk0 tw_289 dX8_allCouples_1 ?_
  refine lv_iconst (v := 0) C.1.1 C.1.2.1 dX8_allCouples_4 (by decide) ?_
  refine yy_iald C Z (yy_D10 _ hk0) (yy_lenD10 _ hk0) dX8_allCouples_5 h (fun v1 h => ?_)
  refine lv_aload_n C.1.1 C.1.2.1 dX8_allCouples_6 rfl (lv_at hl 0 rfl) ?_
  refine yg_X8_3 C Z hk0 tw_289 dX8_allCouples_7 ?_
  refine lv_iconst (v := 1) C.1.1 C.1.2.1 dX8_allCouples_10 (by decide) ?_
  refine yy_iald C Z (yy_D10 _ hk0) (yy_lenD10 _ hk0) dX8_allCouples_11 h (fun v2 h => ?_)
  refine lv_iadd C.1.1 C.1.2.1 dX8_allCouples_12 ?_
  refine lv_aload_n C.1.1 C.1.2.1 dX8_allCouples_13 rfl (lv_at hl 0 rfl) ?_
  refine yg_X8_3 C Z hk0 tw_289 dX8_allCouples_14 ?_
  refine lv_iconst (v := 2) C.1.1 C.1.2.1 dX8_allCouples_17 (by decide) ?_
  refine yy_iald C Z (yy_D10 _ hk0) (yy_lenD10 _ hk0) dX8_allCouples_18 h (fun v3 h => ?_)
  refine lv_iadd C.1.1 C.1.2.1 dX8_allCouples_19 ?_
  exact yy_iret C Z hr hlk rfl dX8_allCouples_20 h
set_option maxHeartbeats 4000000 in
set_option maxRecDepth 100000 in
theorem ss_X8_allCouples (l : Launch) (D : va_G) (κ : Nat → Nat) (ext : va_W) (k0 : Nat) (hk0 : k0 ∈ yy_Tds) : yy_Mi l D κ ext yX8_allCouples cX8_allCouples 1 (some .int) rm_X8_allCouples 0 0 [.ref (κ 4 + k0)] (mm_X8_allCouples k0) := by
  intro sz τ res h
  refine yy_ofW (by decide) (Nat.le_of_ble_eq_true rfl) ?_
  intro p e s m args below meth c ls hsz E
  obtain ⟨C, hr, hlk, Z, hl⟩ := E
  subst hsz
  exact ww_X8_allCouples_E hk0 C hr hlk Z hl h
/-! MovedLines$Told.differencesFrom(LMovedLines$Told;)I -/
noncomputable def mm_X8_differencesFrom_64 (k0 : Nat) (k1 : Nat) (x2 : Int32) (x3 : Int32) (x4 : Int32) : yy_M ((Int32 × Int32) ⊕ ((Int32))) :=
  yy_rt (.inl (x2, (x4 + 1)))
noncomputable def mm_X8_differencesFrom_61 (k0 : Nat) (k1 : Nat) (x2 : Int32) (x3 : Int32) (x4 : Int32) : yy_M ((Int32 × Int32) ⊕ ((Int32))) :=
  mm_X8_differencesFrom_64 k0 k1 (x2 + 1) x3 x4
noncomputable def mm_X8_differencesFrom_12b (k0 : Nat) (k1 : Nat) (x2 : Int32) (x3 : Int32) (x4 : Int32) : yy_M ((Int32 × Int32) ⊕ ((Int32))) :=
  yy_br (14 ≤ x4) (yy_rt (.inr x2)) (yy_ck (yy_in x3 2 = true) (yy_rA (k0 + 1 + 1 + Int32.toNatClampNeg x3) 14 x4 fun v2 => yy_ck (yy_in x3 2 = true) (yy_rA (k1 + 1 + 1 + Int32.toNatClampNeg x3) 14 x4 fun v4 => yy_br (v2 = v4) (yy_ck (yy_in x3 2 = true) (yy_rA (k0 + 4 + 1 + Int32.toNatClampNeg x3) 14 x4 fun v6 => yy_ck (yy_in x3 2 = true) (yy_rA (k1 + 4 + 1 + Int32.toNatClampNeg x3) 14 x4 fun v8 => yy_br (v6 = v8) (mm_X8_differencesFrom_64 k0 k1 x2 x3 x4) (mm_X8_differencesFrom_61 k0 k1 x2 x3 x4)))) (mm_X8_differencesFrom_61 k0 k1 x2 x3 x4))))
noncomputable def mm_X8_differencesFrom_70 (k0 : Nat) (k1 : Nat) (x2 : Int32) (x3 : Int32) : yy_M ((Int32 × Int32) ⊕ ((Int32))) :=
  yy_rt (.inl (x2, (x3 + 1)))
noncomputable def mm_X8_differencesFrom_12 (k0 : Nat) (k1 : Nat) (x2 : Int32) (x3 : Int32) (x4 : Int32) : yy_M ((Int32 × Int32) ⊕ ((Int32))) :=
  yy_cl (yy_lp (fun (w : Int32 × Int32) => mm_X8_differencesFrom_12b k0 k1 w.1 x3 w.2) (x2, x4)) (fun w => mm_X8_differencesFrom_70 k0 k1 w x3)
noncomputable def mm_X8_differencesFrom_4b (k0 : Nat) (k1 : Nat) (x2 : Int32) (x3 : Int32) : yy_M ((Int32 × Int32) ⊕ ((Int32))) :=
  yy_br (1 < x3) (yy_rt (.inr x2)) (mm_X8_differencesFrom_12 k0 k1 x2 x3 0)
noncomputable def mm_X8_differencesFrom_76 (x2 : Int32) : yy_M Int32 :=
  yy_rt x2
noncomputable def mm_X8_differencesFrom_4 (k0 : Nat) (k1 : Nat) (x2 : Int32) (x3 : Int32) : yy_M Int32 :=
  yy_cl (yy_lp (fun (w : Int32 × Int32) => mm_X8_differencesFrom_4b k0 k1 w.1 w.2) (x2, x3)) (fun w => mm_X8_differencesFrom_76 w)
noncomputable def mm_X8_differencesFrom (k0 : Nat) (k1 : Nat) : yy_M Int32 :=
  mm_X8_differencesFrom_4 k0 k1 0 0
theorem kw_X8_differencesFrom : yy_wV RX8 yX8_differencesFrom cX8_differencesFrom 5 (some .int) 1 := ⟨⟨tw_639, tw_640, tw_60, tw_641⟩, by decide +kernel⟩
abbrev rm_X8_differencesFrom : Room := { frames := 0, cells := 0, slots := 0, locals := 0 }
set_option maxHeartbeats 4000000 in
set_option maxRecDepth 100000 in
theorem ww_X8_differencesFrom_64 {k0 : Nat} {k1 : Nat} {x2 : Int32} {x3 : Int32} {x4 : Int32} (hk0 : k0 ∈ yy_Tds) (hk1 : k1 ∈ yy_Tds) {res : ((Int32 × Int32) ⊕ ((Int32))) × yy_T} {Q : State → Prop} (C : yy_C D κ p m c cX8_differencesFrom 5 s args RX8) (Z : yy_Z D κ ext A s.heap τ H locs) (hl : lv_has ls 5 [(0, .ref (κ 4 + k0)), (1, .ref (κ 4 + k1)), (2, .int x2), (3, .int x3), (4, .int x4)]) (h : mm_X8_differencesFrom_64 k0 k1 x2 x3 x4 τ = some res)
    (kI : ∀ (w : Int32 × Int32) (τ1 : yy_T) (H1 : Heap) (locs1 : List Loc) (ls1 : Array Slot), res = (.inl w, τ1) → yy_Z D κ ext A s.heap τ1 H1 locs1 → lv_has ls1 5 [(0, .ref (κ 4 + k0)), (1, .ref (κ 4 + k1)), (2, .int w.1), (3, .int x3), (4, .int w.2)] → W p l e rm_X8_differencesFrom s m args below meth c H1 locs1 0 0 Q (F0 m 12 ls1 [])) : W p l e rm_X8_differencesFrom s m args below meth c H locs 0 0 Q (F0 m 64 ls []) := by
  unfold mm_X8_differencesFrom_64 at h
  refine lv_iinc (v := x4 + 1) (lv' := [(4, .int (x4 + 1)), (0, .ref (κ 4 + k0)), (1, .ref (κ 4 + k1)), (2, .int x2), (3, .int x3)]) C.1.1 C.1.2.1 dX8_differencesFrom_64 hl (k := 4) rfl (by rfl) (by decide) rfl (fun ls hl => ?_)
  refine lv_goto (tgt := 12) C.1.1 C.1.2.1 dX8_differencesFrom_67 (by decide) ?_
  exact kI _ _ _ _ _ (yy_rt_of h) Z (lv_sub hl [1, 2, 3, 4, 0] rfl)
set_option maxHeartbeats 4000000 in
set_option maxRecDepth 100000 in
theorem ww_X8_differencesFrom_61 {k0 : Nat} {k1 : Nat} {x2 : Int32} {x3 : Int32} {x4 : Int32} (hk0 : k0 ∈ yy_Tds) (hk1 : k1 ∈ yy_Tds) {res : ((Int32 × Int32) ⊕ ((Int32))) × yy_T} {Q : State → Prop} (C : yy_C D κ p m c cX8_differencesFrom 5 s args RX8) (Z : yy_Z D κ ext A s.heap τ H locs) (hl : lv_has ls 5 [(0, .ref (κ 4 + k0)), (1, .ref (κ 4 + k1)), (2, .int x2), (3, .int x3), (4, .int x4)]) (h : mm_X8_differencesFrom_61 k0 k1 x2 x3 x4 τ = some res)
    (kI : ∀ (w : Int32 × Int32) (τ1 : yy_T) (H1 : Heap) (locs1 : List Loc) (ls1 : Array Slot), res = (.inl w, τ1) → yy_Z D κ ext A s.heap τ1 H1 locs1 → lv_has ls1 5 [(0, .ref (κ 4 + k0)), (1, .ref (κ 4 + k1)), (2, .int w.1), (3, .int x3), (4, .int w.2)] → W p l e rm_X8_differencesFrom s m args below meth c H1 locs1 0 0 Q (F0 m 12 ls1 [])) : W p l e rm_X8_differencesFrom s m args below meth c H locs 0 0 Q (F0 m 61 ls []) := by
  unfold mm_X8_differencesFrom_61 at h
  refine lv_iinc (v := x2 + 1) (lv' := [(2, .int (x2 + 1)), (0, .ref (κ 4 + k0)), (1, .ref (κ 4 + k1)), (3, .int x3), (4, .int x4)]) C.1.1 C.1.2.1 dX8_differencesFrom_61 hl (k := 2) rfl (by rfl) (by decide) rfl (fun ls hl => ?_)
  exact ww_X8_differencesFrom_64 hk0 hk1 C Z (lv_sub hl [1, 2, 0, 3, 4] rfl) h kI
set_option maxHeartbeats 4000000 in
set_option maxRecDepth 100000 in
theorem ww_X8_differencesFrom_12b {k0 : Nat} {k1 : Nat} {x2 : Int32} {x3 : Int32} {x4 : Int32} (hk0 : k0 ∈ yy_Tds) (hk1 : k1 ∈ yy_Tds) {res : ((Int32 × Int32) ⊕ ((Int32))) × yy_T} {Q : State → Prop} (C : yy_C D κ p m c cX8_differencesFrom 5 s args RX8) (Z : yy_Z D κ ext A s.heap τ H locs) (hl : lv_has ls 5 [(0, .ref (κ 4 + k0)), (1, .ref (κ 4 + k1)), (2, .int x2), (3, .int x3), (4, .int x4)]) (h : mm_X8_differencesFrom_12b k0 k1 x2 x3 x4 τ = some res)
    (kI : ∀ (w : Int32 × Int32) (τ1 : yy_T) (H1 : Heap) (locs1 : List Loc) (ls1 : Array Slot), res = (.inl w, τ1) → yy_Z D κ ext A s.heap τ1 H1 locs1 → lv_has ls1 5 [(0, .ref (κ 4 + k0)), (1, .ref (κ 4 + k1)), (2, .int w.1), (3, .int x3), (4, .int w.2)] → W p l e rm_X8_differencesFrom s m args below meth c H1 locs1 0 0 Q (F0 m 12 ls1 []))
    (kR0 : ∀ (w : Int32) (τ1 : yy_T) (H1 : Heap) (locs1 : List Loc) (ls1 : Array Slot), res = (.inr w, τ1) → yy_Z D κ ext A s.heap τ1 H1 locs1 → lv_has ls1 5 [(0, .ref (κ 4 + k0)), (1, .ref (κ 4 + k1)), (2, .int w), (3, .int x3)] → W p l e rm_X8_differencesFrom s m args below meth c H1 locs1 0 0 Q (F0 m 70 ls1 [])) : W p l e rm_X8_differencesFrom s m args below meth c H locs 0 0 Q (F0 m 12 ls []) := by
  unfold mm_X8_differencesFrom_12b at h
  refine lv_iload C.1.1 C.1.2.1 dX8_differencesFrom_12 (lv_at hl 4 rfl) ?_
  refine lv_bipush (v := 14) C.1.1 C.1.2.1 dX8_differencesFrom_14 (by decide) ?_
  refine yy_icmp_ge (tgt := 70) C dX8_differencesFrom_16 (by decide) h (fun h => ?_) (fun h => ?_)
  · exact kR0 _ _ _ _ _ (yy_rt_of h) Z (lv_sub hl [0, 1, 2, 3] rfl)
  · refine lv_aload_n C.1.1 C.1.2.1 dX8_differencesFrom_19 rfl (lv_at hl 0 rfl) ?_
    refine yg_X8_0 C Z hk0 tw_283 dX8_differencesFrom_20 ?_
    refine lv_iload_n C.1.1 C.1.2.1 dX8_differencesFrom_23 rfl (lv_at hl 3 rfl) ?_
    refine yy_aald2 C Z (yy_D1 _ hk0) dX8_differencesFrom_24 h (fun hn1 h => ?_)
    refine lv_iload C.1.1 C.1.2.1 dX8_differencesFrom_25 (lv_at hl 4 rfl) ?_
    refine yy_iald C Z (yy_G0 _ (yy_D1 _ hk0) _ hn1) (yy_lenG0 _ (yy_D1 _ hk0) _ hn1) dX8_differencesFrom_27 h (fun v2 h => ?_)
    refine lv_aload_n C.1.1 C.1.2.1 dX8_differencesFrom_28 rfl (lv_at hl 1 rfl) ?_
    refine yg_X8_0 C Z hk1 tw_283 dX8_differencesFrom_29 ?_
    refine lv_iload_n C.1.1 C.1.2.1 dX8_differencesFrom_32 rfl (lv_at hl 3 rfl) ?_
    refine yy_aald2 C Z (yy_D1 _ hk1) dX8_differencesFrom_33 h (fun hn3 h => ?_)
    refine lv_iload C.1.1 C.1.2.1 dX8_differencesFrom_34 (lv_at hl 4 rfl) ?_
    refine yy_iald C Z (yy_G0 _ (yy_D1 _ hk1) _ hn3) (yy_lenG0 _ (yy_D1 _ hk1) _ hn3) dX8_differencesFrom_36 h (fun v4 h => ?_)
    refine yy_icmp_ne (tgt := 61) C dX8_differencesFrom_37 (by decide) h (fun h => ?_) (fun h => ?_)
    · exact ww_X8_differencesFrom_61 hk0 hk1 C Z (lv_sub hl [0, 1, 2, 3, 4] rfl) h kI
    · refine lv_aload_n C.1.1 C.1.2.1 dX8_differencesFrom_40 rfl (lv_at hl 0 rfl) ?_
      refine yg_X8_1 C Z hk0 tw_285 dX8_differencesFrom_41 ?_
      refine lv_iload_n C.1.1 C.1.2.1 dX8_differencesFrom_44 rfl (lv_at hl 3 rfl) ?_
      refine yy_aald2 C Z (yy_D4 _ hk0) dX8_differencesFrom_45 h (fun hn5 h => ?_)
      refine lv_iload C.1.1 C.1.2.1 dX8_differencesFrom_46 (lv_at hl 4 rfl) ?_
      refine yy_iald C Z (yy_G0 _ (yy_D4 _ hk0) _ hn5) (yy_lenG0 _ (yy_D4 _ hk0) _ hn5) dX8_differencesFrom_48 h (fun v6 h => ?_)
      refine lv_aload_n C.1.1 C.1.2.1 dX8_differencesFrom_49 rfl (lv_at hl 1 rfl) ?_
      refine yg_X8_1 C Z hk1 tw_285 dX8_differencesFrom_50 ?_
      refine lv_iload_n C.1.1 C.1.2.1 dX8_differencesFrom_53 rfl (lv_at hl 3 rfl) ?_
      refine yy_aald2 C Z (yy_D4 _ hk1) dX8_differencesFrom_54 h (fun hn7 h => ?_)
      refine lv_iload C.1.1 C.1.2.1 dX8_differencesFrom_55 (lv_at hl 4 rfl) ?_
      refine yy_iald C Z (yy_G0 _ (yy_D4 _ hk1) _ hn7) (yy_lenG0 _ (yy_D4 _ hk1) _ hn7) dX8_differencesFrom_57 h (fun v8 h => ?_)
      refine yy_icmp_eq (tgt := 64) C dX8_differencesFrom_58 (by decide) h (fun h => ?_) (fun h => ?_)
      · exact ww_X8_differencesFrom_64 hk0 hk1 C Z (lv_sub hl [0, 1, 2, 3, 4] rfl) h kI
      · exact ww_X8_differencesFrom_61 hk0 hk1 C Z (lv_sub hl [0, 1, 2, 3, 4] rfl) h kI
set_option maxHeartbeats 4000000 in
set_option maxRecDepth 100000 in
theorem ww_X8_differencesFrom_70 {k0 : Nat} {k1 : Nat} {x2 : Int32} {x3 : Int32} (hk0 : k0 ∈ yy_Tds) (hk1 : k1 ∈ yy_Tds) {res : ((Int32 × Int32) ⊕ ((Int32))) × yy_T} {Q : State → Prop} (C : yy_C D κ p m c cX8_differencesFrom 5 s args RX8) (Z : yy_Z D κ ext A s.heap τ H locs) (hl : lv_has ls 5 [(0, .ref (κ 4 + k0)), (1, .ref (κ 4 + k1)), (2, .int x2), (3, .int x3)]) (h : mm_X8_differencesFrom_70 k0 k1 x2 x3 τ = some res)
    (kI : ∀ (w : Int32 × Int32) (τ1 : yy_T) (H1 : Heap) (locs1 : List Loc) (ls1 : Array Slot), res = (.inl w, τ1) → yy_Z D κ ext A s.heap τ1 H1 locs1 → lv_has ls1 5 [(0, .ref (κ 4 + k0)), (1, .ref (κ 4 + k1)), (2, .int w.1), (3, .int w.2)] → W p l e rm_X8_differencesFrom s m args below meth c H1 locs1 0 0 Q (F0 m 4 ls1 [])) : W p l e rm_X8_differencesFrom s m args below meth c H locs 0 0 Q (F0 m 70 ls []) := by
  unfold mm_X8_differencesFrom_70 at h
  refine lv_iinc (v := x3 + 1) (lv' := [(3, .int (x3 + 1)), (0, .ref (κ 4 + k0)), (1, .ref (κ 4 + k1)), (2, .int x2)]) C.1.1 C.1.2.1 dX8_differencesFrom_70 hl (k := 3) rfl (by rfl) (by decide) rfl (fun ls hl => ?_)
  refine lv_goto (tgt := 4) C.1.1 C.1.2.1 dX8_differencesFrom_73 (by decide) ?_
  exact kI _ _ _ _ _ (yy_rt_of h) Z (lv_sub hl [1, 2, 3, 0] rfl)
set_option maxHeartbeats 4000000 in
set_option maxRecDepth 100000 in
theorem ww_X8_differencesFrom_12 {k0 : Nat} {k1 : Nat} {x2 : Int32} {x3 : Int32} {x4 : Int32} (hk0 : k0 ∈ yy_Tds) (hk1 : k1 ∈ yy_Tds) {res : ((Int32 × Int32) ⊕ ((Int32))) × yy_T} {Q : State → Prop} (C : yy_C D κ p m c cX8_differencesFrom 5 s args RX8) (Z : yy_Z D κ ext A s.heap τ H locs) (hl : lv_has ls 5 [(0, .ref (κ 4 + k0)), (1, .ref (κ 4 + k1)), (2, .int x2), (3, .int x3), (4, .int x4)]) (h : mm_X8_differencesFrom_12 k0 k1 x2 x3 x4 τ = some res)
    (kI : ∀ (w : Int32 × Int32) (τ1 : yy_T) (H1 : Heap) (locs1 : List Loc) (ls1 : Array Slot), res = (.inl w, τ1) → yy_Z D κ ext A s.heap τ1 H1 locs1 → lv_has ls1 5 [(0, .ref (κ 4 + k0)), (1, .ref (κ 4 + k1)), (2, .int w.1), (3, .int w.2)] → W p l e rm_X8_differencesFrom s m args below meth c H1 locs1 0 0 Q (F0 m 4 ls1 [])) : W p l e rm_X8_differencesFrom s m args below meth c H locs 0 0 Q (F0 m 12 ls []) := by
  unfold mm_X8_differencesFrom_12 at h
  refine yy_loop h (fun (w : Int32 × Int32) (τ : yy_T) => ∀ (H : Heap) (locs : List Loc) (ls : Array Slot), yy_Z D κ ext A s.heap τ H locs → lv_has ls 5 [(0, .ref (κ 4 + k0)), (1, .ref (κ 4 + k1)), (2, .int w.1), (3, .int x3), (4, .int w.2)] → W p l e rm_X8_differencesFrom s m args below meth c H locs 0 0 Q (F0 m 12 ls [])) ?_ H locs ls Z hl
  intro w τ y hy hI hX H locs ls Z hl
  refine ww_X8_differencesFrom_12b hk0 hk1 C Z hl hy (fun w τ H locs ls ey Z hl => hI w τ ey H locs ls Z hl) (fun w τ H locs ls ey Z hl => ?_)
  · have h := hX _ _ ey
    exact ww_X8_differencesFrom_70 hk0 hk1 C Z (lv_sub hl [0, 1, 2, 3] rfl) h kI
set_option maxHeartbeats 4000000 in
set_option maxRecDepth 100000 in
theorem ww_X8_differencesFrom_4b {k0 : Nat} {k1 : Nat} {x2 : Int32} {x3 : Int32} (hk0 : k0 ∈ yy_Tds) (hk1 : k1 ∈ yy_Tds) {res : ((Int32 × Int32) ⊕ ((Int32))) × yy_T} {Q : State → Prop} (C : yy_C D κ p m c cX8_differencesFrom 5 s args RX8) (Z : yy_Z D κ ext A s.heap τ H locs) (hl : lv_has ls 5 [(0, .ref (κ 4 + k0)), (1, .ref (κ 4 + k1)), (2, .int x2), (3, .int x3)]) (h : mm_X8_differencesFrom_4b k0 k1 x2 x3 τ = some res)
    (kI : ∀ (w : Int32 × Int32) (τ1 : yy_T) (H1 : Heap) (locs1 : List Loc) (ls1 : Array Slot), res = (.inl w, τ1) → yy_Z D κ ext A s.heap τ1 H1 locs1 → lv_has ls1 5 [(0, .ref (κ 4 + k0)), (1, .ref (κ 4 + k1)), (2, .int w.1), (3, .int w.2)] → W p l e rm_X8_differencesFrom s m args below meth c H1 locs1 0 0 Q (F0 m 4 ls1 []))
    (kR0 : ∀ (w : Int32) (τ1 : yy_T) (H1 : Heap) (locs1 : List Loc) (ls1 : Array Slot), res = (.inr w, τ1) → yy_Z D κ ext A s.heap τ1 H1 locs1 → lv_has ls1 5 [(2, .int w)] → W p l e rm_X8_differencesFrom s m args below meth c H1 locs1 0 0 Q (F0 m 76 ls1 [])) : W p l e rm_X8_differencesFrom s m args below meth c H locs 0 0 Q (F0 m 4 ls []) := by
  unfold mm_X8_differencesFrom_4b at h
  refine lv_iload_n C.1.1 C.1.2.1 dX8_differencesFrom_4 rfl (lv_at hl 3 rfl) ?_
  refine lv_iconst (v := 1) C.1.1 C.1.2.1 dX8_differencesFrom_5 (by decide) ?_
  refine yy_icmp_gt (tgt := 76) C dX8_differencesFrom_6 (by decide) h (fun h => ?_) (fun h => ?_)
  · exact kR0 _ _ _ _ _ (yy_rt_of h) Z (lv_sub hl [2] rfl)
  · refine lv_iconst (v := 0) C.1.1 C.1.2.1 dX8_differencesFrom_9 (by decide) ?_
    refine lv_istore (lv' := [(4, .int 0), (0, .ref (κ 4 + k0)), (1, .ref (κ 4 + k1)), (2, .int x2), (3, .int x3)]) C.1.1 C.1.2.1 dX8_differencesFrom_10 hl (by decide) rfl (fun ls hl => ?_)
    exact ww_X8_differencesFrom_12 hk0 hk1 C Z (lv_sub hl [1, 2, 3, 4, 0] rfl) h kI
set_option maxHeartbeats 4000000 in
set_option maxRecDepth 100000 in
theorem ww_X8_differencesFrom_76 {x2 : Int32} {res : Int32 × yy_T} (C : yy_C D κ p m c cX8_differencesFrom 5 s args RX8) (hr : meth.sig.returnType = (some .int)) (hlk : meth.locks = false) (Z : yy_Z D κ ext A s.heap τ H locs) (hl : lv_has ls 5 [(2, .int x2)]) (h : mm_X8_differencesFrom_76 x2 τ = some res) : W p l e rm_X8_differencesFrom s m args below meth c H locs 0 0 (MQ below (yy_Qi D κ ext A res) args s 0 0 A) (F0 m 76 ls []) := by
  unfold mm_X8_differencesFrom_76 at h
  refine lv_iload_n C.1.1 C.1.2.1 dX8_differencesFrom_76 rfl (lv_at hl 0 rfl) ?_
  exact yy_iret C Z hr hlk rfl dX8_differencesFrom_77 h
set_option maxHeartbeats 4000000 in
set_option maxRecDepth 100000 in
theorem ww_X8_differencesFrom_4 {k0 : Nat} {k1 : Nat} {x2 : Int32} {x3 : Int32} (hk0 : k0 ∈ yy_Tds) (hk1 : k1 ∈ yy_Tds) {res : Int32 × yy_T} (C : yy_C D κ p m c cX8_differencesFrom 5 s args RX8) (hr : meth.sig.returnType = (some .int)) (hlk : meth.locks = false) (Z : yy_Z D κ ext A s.heap τ H locs) (hl : lv_has ls 5 [(0, .ref (κ 4 + k0)), (1, .ref (κ 4 + k1)), (2, .int x2), (3, .int x3)]) (h : mm_X8_differencesFrom_4 k0 k1 x2 x3 τ = some res) : W p l e rm_X8_differencesFrom s m args below meth c H locs 0 0 (MQ below (yy_Qi D κ ext A res) args s 0 0 A) (F0 m 4 ls []) := by
  unfold mm_X8_differencesFrom_4 at h
  refine yy_loop h (fun (w : Int32 × Int32) (τ : yy_T) => ∀ (H : Heap) (locs : List Loc) (ls : Array Slot), yy_Z D κ ext A s.heap τ H locs → lv_has ls 5 [(0, .ref (κ 4 + k0)), (1, .ref (κ 4 + k1)), (2, .int w.1), (3, .int w.2)] → W p l e rm_X8_differencesFrom s m args below meth c H locs 0 0 (MQ below (yy_Qi D κ ext A res) args s 0 0 A) (F0 m 4 ls [])) ?_ H locs ls Z hl
  intro w τ y hy hI hX H locs ls Z hl
  refine ww_X8_differencesFrom_4b hk0 hk1 C Z hl hy (fun w τ H locs ls ey Z hl => hI w τ ey H locs ls Z hl) (fun w τ H locs ls ey Z hl => ?_)
  · have h := hX _ _ ey
    exact ww_X8_differencesFrom_76  C hr hlk Z (lv_sub hl [0] rfl) h
set_option maxHeartbeats 4000000 in
set_option maxRecDepth 100000 in
theorem ww_X8_differencesFrom_E {k0 : Nat} {k1 : Nat} (hk0 : k0 ∈ yy_Tds) (hk1 : k1 ∈ yy_Tds) {res : Int32 × yy_T} (C : yy_C D κ p m c cX8_differencesFrom 5 s args RX8) (hr : meth.sig.returnType = (some .int)) (hlk : meth.locks = false) (Z : yy_Z D κ ext A s.heap τ H locs) (hl : lv_has ls 5 [(0, .ref (κ 4 + k0)), (1, .ref (κ 4 + k1))]) (h : mm_X8_differencesFrom k0 k1 τ = some res) : W p l e rm_X8_differencesFrom s m args below meth c H locs 0 0 (MQ below (yy_Qi D κ ext A res) args s 0 0 A) (F0 m 0 ls []) := by
  unfold mm_X8_differencesFrom at h
  refine lv_iconst (v := 0) C.1.1 C.1.2.1 dX8_differencesFrom_0 (by decide) ?_
  refine lv_istore_n (lv' := [(2, .int 0), (0, .ref (κ 4 + k0)), (1, .ref (κ 4 + k1))]) C.1.1 C.1.2.1 dX8_differencesFrom_1 rfl hl (by decide) rfl (fun ls hl => ?_)
  refine lv_iconst (v := 0) C.1.1 C.1.2.1 dX8_differencesFrom_2 (by decide) ?_
  refine lv_istore_n (lv' := [(3, .int 0), (2, .int 0), (0, .ref (κ 4 + k0)), (1, .ref (κ 4 + k1))]) C.1.1 C.1.2.1 dX8_differencesFrom_3 rfl hl (by decide) rfl (fun ls hl => ?_)
  exact ww_X8_differencesFrom_4 hk0 hk1 C hr hlk Z (lv_sub hl [2, 3, 1, 0] rfl) h
set_option maxHeartbeats 4000000 in
set_option maxRecDepth 100000 in
theorem ss_X8_differencesFrom (l : Launch) (D : va_G) (κ : Nat → Nat) (ext : va_W) (k0 : Nat) (k1 : Nat) (hk0 : k0 ∈ yy_Tds) (hk1 : k1 ∈ yy_Tds) : yy_Mi l D κ ext yX8_differencesFrom cX8_differencesFrom 5 (some .int) rm_X8_differencesFrom 0 0 [.ref (κ 4 + k0), .ref (κ 4 + k1)] (mm_X8_differencesFrom k0 k1) := by
  intro sz τ res h
  refine yy_ofW (by decide) (Nat.le_of_ble_eq_true rfl) ?_
  intro p e s m args below meth c ls hsz E
  obtain ⟨C, hr, hlk, Z, hl⟩ := E
  subst hsz
  exact ww_X8_differencesFrom_E hk0 hk1 C hr hlk Z hl h
/-! MovedLines.feed(IIIII)I -/
noncomputable def mm_X9_feed (x1 : Int32) (x2 : Int32) (x3 : Int32) (x4 : Int32) (x5 : Int32) : yy_M Int32 :=
  yy_rF 1 1 fun v1 => yy_br (v1 ≤ 620) (yy_cl (mm_X7_append x1) (fun _ => yy_cl (mm_X7_append x2) (fun _ => yy_cl (mm_X7_append x3) (fun _ => yy_cl (mm_X7_append x4) (fun _ => yy_cl (mm_X7_append x5) (fun _ => yy_rF 1 1 fun v2 => yy_rt v2)))))) (yy_rt ((-1)))
theorem kw_X9_feed : yy_wV RX9 yX9_feed cX9_feed 6 (some .int) 5 := ⟨⟨tw_366, tw_367, tw_51, tw_368⟩, by decide +kernel⟩
abbrev rm_X9_feed : Room := { frames := 1, cells := 0, slots := 0, locals := 21 }
set_option maxHeartbeats 4000000 in
set_option maxRecDepth 100000 in
theorem ww_X9_feed_E {x1 : Int32} {x2 : Int32} {x3 : Int32} {x4 : Int32} {x5 : Int32} {res : Int32 × yy_T} (C : yy_C D κ p m c cX9_feed 6 s args RX9) (hr : meth.sig.returnType = (some .int)) (hlk : meth.locks = false) (Z : yy_Z D κ ext A s.heap τ H locs) (hl : lv_has ls 6 [(0, .ref (κ 4 + 0)), (1, .int x1), (2, .int x2), (3, .int x3), (4, .int x4), (5, .int x5)]) (h : mm_X9_feed x1 x2 x3 x4 x5 τ = some res) : W p l e rm_X9_feed s m args below meth c H locs 0 0 (MQ below (yy_Qi D κ ext A res) args s 0 0 A) (F0 m 0 ls []) := by
  unfold mm_X9_feed at h
  refine lv_aload_n C.1.1 C.1.2.1 dX9_feed_0 rfl (lv_at hl 0 rfl) ?_
  refine yg_X9_0 C Z tw_331 dX9_feed_1 ?_
  refine yg_X7_1 C Z tw_85 dX9_feed_4 h (fun v1 h => ?_)
  refine lv_sipush (v := 620) C.1.1 C.1.2.1 dX9_feed_7 (by decide) ?_
  refine yy_icmp_le (tgt := 15) C dX9_feed_10 (by decide) h (fun h => ?_) (fun h => ?_)
  · refine lv_aload_n C.1.1 C.1.2.1 dX9_feed_15 rfl (lv_at hl 0 rfl) ?_
    refine yg_X9_0 C Z tw_331 dX9_feed_16 ?_
    refine lv_iload_n C.1.1 C.1.2.1 dX9_feed_19 rfl (lv_at hl 1 rfl) ?_
    refine yy_cVv0 (As := [.int x1]) (rest := []) (id := 1) (ci := 7) (q := (RX7, TX7, 2)) C Z (ss_X7_append l D κ ext x1) (by decide) (yy_ent_1 _) rfl tw_369 kw_X7_append ⟨⟨rfl, rfl⟩, ⟨Nat.le_of_ble_eq_true rfl, Nat.le_of_ble_eq_true rfl⟩, Nat.le_of_ble_eq_true rfl, Nat.le_of_ble_eq_true rfl⟩ hl.1 rfl (Nat.le_of_ble_eq_true rfl) dX9_feed_20 h (fun τ H locs Z h => ?_)
    refine lv_aload_n C.1.1 C.1.2.1 dX9_feed_23 rfl (lv_at hl 0 rfl) ?_
    refine yg_X9_0 C Z tw_331 dX9_feed_24 ?_
    refine lv_iload_n C.1.1 C.1.2.1 dX9_feed_27 rfl (lv_at hl 2 rfl) ?_
    refine yy_cVv0 (As := [.int x2]) (rest := []) (id := 1) (ci := 7) (q := (RX7, TX7, 2)) C Z (ss_X7_append l D κ ext x2) (by decide) (yy_ent_1 _) rfl tw_369 kw_X7_append ⟨⟨rfl, rfl⟩, ⟨Nat.le_of_ble_eq_true rfl, Nat.le_of_ble_eq_true rfl⟩, Nat.le_of_ble_eq_true rfl, Nat.le_of_ble_eq_true rfl⟩ hl.1 rfl (Nat.le_of_ble_eq_true rfl) dX9_feed_28 h (fun τ H locs Z h => ?_)
    refine lv_aload_n C.1.1 C.1.2.1 dX9_feed_31 rfl (lv_at hl 0 rfl) ?_
    refine yg_X9_0 C Z tw_331 dX9_feed_32 ?_
    refine lv_iload_n C.1.1 C.1.2.1 dX9_feed_35 rfl (lv_at hl 3 rfl) ?_
    refine yy_cVv0 (As := [.int x3]) (rest := []) (id := 1) (ci := 7) (q := (RX7, TX7, 2)) C Z (ss_X7_append l D κ ext x3) (by decide) (yy_ent_1 _) rfl tw_369 kw_X7_append ⟨⟨rfl, rfl⟩, ⟨Nat.le_of_ble_eq_true rfl, Nat.le_of_ble_eq_true rfl⟩, Nat.le_of_ble_eq_true rfl, Nat.le_of_ble_eq_true rfl⟩ hl.1 rfl (Nat.le_of_ble_eq_true rfl) dX9_feed_36 h (fun τ H locs Z h => ?_)
    refine lv_aload_n C.1.1 C.1.2.1 dX9_feed_39 rfl (lv_at hl 0 rfl) ?_
    refine yg_X9_0 C Z tw_331 dX9_feed_40 ?_
    refine lv_iload C.1.1 C.1.2.1 dX9_feed_43 (lv_at hl 4 rfl) ?_
    refine yy_cVv0 (As := [.int x4]) (rest := []) (id := 1) (ci := 7) (q := (RX7, TX7, 2)) C Z (ss_X7_append l D κ ext x4) (by decide) (yy_ent_1 _) rfl tw_369 kw_X7_append ⟨⟨rfl, rfl⟩, ⟨Nat.le_of_ble_eq_true rfl, Nat.le_of_ble_eq_true rfl⟩, Nat.le_of_ble_eq_true rfl, Nat.le_of_ble_eq_true rfl⟩ hl.1 rfl (Nat.le_of_ble_eq_true rfl) dX9_feed_45 h (fun τ H locs Z h => ?_)
    refine lv_aload_n C.1.1 C.1.2.1 dX9_feed_48 rfl (lv_at hl 0 rfl) ?_
    refine yg_X9_0 C Z tw_331 dX9_feed_49 ?_
    refine lv_iload C.1.1 C.1.2.1 dX9_feed_52 (lv_at hl 5 rfl) ?_
    refine yy_cVv0 (As := [.int x5]) (rest := []) (id := 1) (ci := 7) (q := (RX7, TX7, 2)) C Z (ss_X7_append l D κ ext x5) (by decide) (yy_ent_1 _) rfl tw_369 kw_X7_append ⟨⟨rfl, rfl⟩, ⟨Nat.le_of_ble_eq_true rfl, Nat.le_of_ble_eq_true rfl⟩, Nat.le_of_ble_eq_true rfl, Nat.le_of_ble_eq_true rfl⟩ hl.1 rfl (Nat.le_of_ble_eq_true rfl) dX9_feed_54 h (fun τ H locs Z h => ?_)
    refine lv_aload_n C.1.1 C.1.2.1 dX9_feed_57 rfl (lv_at hl 0 rfl) ?_
    refine yg_X9_0 C Z tw_331 dX9_feed_58 ?_
    refine yg_X7_1 C Z tw_85 dX9_feed_61 h (fun v2 h => ?_)
    exact yy_iret C Z hr hlk rfl dX9_feed_64 h
  · refine lv_iconst (v := (-1)) C.1.1 C.1.2.1 dX9_feed_13 (by decide) ?_
    exact yy_iret C Z hr hlk rfl dX9_feed_14 h
set_option maxHeartbeats 4000000 in
set_option maxRecDepth 100000 in
theorem ss_X9_feed (l : Launch) (D : va_G) (κ : Nat → Nat) (ext : va_W) (x1 : Int32) (x2 : Int32) (x3 : Int32) (x4 : Int32) (x5 : Int32) : yy_Mi l D κ ext yX9_feed cX9_feed 6 (some .int) rm_X9_feed 0 0 [.ref (κ 4 + 0), .int x1, .int x2, .int x3, .int x4, .int x5] (mm_X9_feed x1 x2 x3 x4 x5) := by
  intro sz τ res h
  refine yy_ofW (by decide) (Nat.le_of_ble_eq_true rfl) ?_
  intro p e s m args below meth c ls hsz E
  obtain ⟨C, hr, hlk, Z, hl⟩ := E
  subst hsz
  exact ww_X9_feed_E  C hr hlk Z hl h
/-! MovedLines.end(I)Z -/
noncomputable def mm_X9_end (x1 : Int32) : yy_M Int32 :=
  yy_br (x1 < 0) (yy_rt 0) (yy_rF 1 1 fun v1 => yy_br (x1 ≤ v1) (yy_wF 1 1 x1 (yy_rt 1)) (yy_rt 0))
theorem kw_X9_end : yy_wV RX9 yX9_end cX9_end 2 (some .boolean) 1 := ⟨⟨tw_374, tw_375, tw_51, tw_376⟩, by decide +kernel⟩
abbrev rm_X9_end : Room := { frames := 0, cells := 0, slots := 0, locals := 0 }
set_option maxHeartbeats 4000000 in
set_option maxRecDepth 100000 in
theorem ww_X9_end_E {x1 : Int32} {res : Int32 × yy_T} (C : yy_C D κ p m c cX9_end 2 s args RX9) (hr : meth.sig.returnType = (some .boolean)) (hlk : meth.locks = false) (Z : yy_Z D κ ext A s.heap τ H locs) (hl : lv_has ls 2 [(0, .ref (κ 4 + 0)), (1, .int x1)]) (h : mm_X9_end x1 τ = some res) : W p l e rm_X9_end s m args below meth c H locs 0 0 (MQ below (yy_Qi D κ ext A res) args s 0 0 A) (F0 m 0 ls []) := by
  unfold mm_X9_end at h
  refine lv_iload_n C.1.1 C.1.2.1 dX9_end_0 rfl (lv_at hl 1 rfl) ?_
  refine yy_if_lt (tgt := 15) C dX9_end_1 (by decide) h (fun h => ?_) (fun h => ?_)
  · refine lv_iconst (v := 0) C.1.1 C.1.2.1 dX9_end_15 (by decide) ?_
    exact yy_iret C Z hr hlk rfl dX9_end_16 h
  · refine lv_iload_n C.1.1 C.1.2.1 dX9_end_4 rfl (lv_at hl 1 rfl) ?_
    refine lv_aload_n C.1.1 C.1.2.1 dX9_end_5 rfl (lv_at hl 0 rfl) ?_
    refine yg_X9_0 C Z tw_331 dX9_end_6 ?_
    refine yg_X7_1 C Z tw_85 dX9_end_9 h (fun v1 h => ?_)
    refine yy_icmp_le (tgt := 17) C dX9_end_12 (by decide) h (fun h => ?_) (fun h => ?_)
    · refine lv_aload_n C.1.1 C.1.2.1 dX9_end_17 rfl (lv_at hl 0 rfl) ?_
      refine yg_X9_0 C Z tw_331 dX9_end_18 ?_
      refine lv_iload_n C.1.1 C.1.2.1 dX9_end_21 rfl (lv_at hl 1 rfl) ?_
      refine yp_X7_1 C Z tw_85 dX9_end_22 h (fun H locs τ Z h => ?_)
      refine lv_iconst (v := 1) C.1.1 C.1.2.1 dX9_end_25 (by decide) ?_
      exact yy_iret C Z hr hlk rfl dX9_end_26 h
    · refine lv_iconst (v := 0) C.1.1 C.1.2.1 dX9_end_15 (by decide) ?_
      exact yy_iret C Z hr hlk rfl dX9_end_16 h
set_option maxHeartbeats 4000000 in
set_option maxRecDepth 100000 in
theorem ss_X9_end (l : Launch) (D : va_G) (κ : Nat → Nat) (ext : va_W) (x1 : Int32) : yy_Mi l D κ ext yX9_end cX9_end 2 (some .boolean) rm_X9_end 0 0 [.ref (κ 4 + 0), .int x1] (mm_X9_end x1) := by
  intro sz τ res h
  refine yy_ofW (by decide) (Nat.le_of_ble_eq_true rfl) ?_
  intro p e s m args below meth c ls hsz E
  obtain ⟨C, hr, hlk, Z, hl⟩ := E
  subst hsz
  exact ww_X9_end_E  C hr hlk Z hl h
/-! MovedLines.editionOf(I)LMovedLines$Edition; -/
noncomputable def mm_X9_editionOf (x1 : Int32) : yy_M Nat :=
  yy_br (x1 = 0) (yy_rt 7) (yy_rt 10)
theorem kw_X9_editionOf : yy_wV RX9 yX9_editionOf cX9_editionOf 2 (some (.object "MovedLines$Edition")) 1 := ⟨⟨tw_410, tw_5, tw_51, tw_411⟩, by decide +kernel⟩
abbrev rm_X9_editionOf : Room := { frames := 0, cells := 0, slots := 0, locals := 0 }
set_option maxHeartbeats 4000000 in
set_option maxRecDepth 100000 in
theorem ww_X9_editionOf_E {x1 : Int32} {res : Nat × yy_T} (C : yy_C D κ p m c cX9_editionOf 2 s args RX9) (hr : meth.sig.returnType = (some (.object "MovedLines$Edition"))) (hlk : meth.locks = false) (Z : yy_Z D κ ext A s.heap τ H locs) (hl : lv_has ls 2 [(0, .ref (κ 4 + 0)), (1, .int x1)]) (h : mm_X9_editionOf x1 τ = some res) : W p l e rm_X9_editionOf s m args below meth c H locs 0 0 (MQ below (yy_Qr (fun r => r ∈ yy_Eds) D κ ext A res) args s 0 0 A) (F0 m 0 ls []) := by
  unfold mm_X9_editionOf at h
  refine lv_iload_n C.1.1 C.1.2.1 dX9_editionOf_0 rfl (lv_at hl 1 rfl) ?_
  refine yy_if_ne (tgt := 11) C dX9_editionOf_1 (by decide) h (fun h => ?_) (fun h => ?_)
  · refine lv_aload_n C.1.1 C.1.2.1 dX9_editionOf_11 rfl (lv_at hl 0 rfl) ?_
    refine yg_X9_3 C Z tw_334 dX9_editionOf_12 ?_
    exact yy_aret C Z hr hlk (by decide) dX9_editionOf_15 h
  · refine lv_aload_n C.1.1 C.1.2.1 dX9_editionOf_4 rfl (lv_at hl 0 rfl) ?_
    refine yg_X9_2 C Z tw_333 dX9_editionOf_5 ?_
    refine lv_goto (tgt := 15) C.1.1 C.1.2.1 dX9_editionOf_8 (by decide) ?_
    exact yy_aret C Z hr hlk (by decide) dX9_editionOf_15 h
set_option maxHeartbeats 4000000 in
set_option maxRecDepth 100000 in
theorem ss_X9_editionOf (l : Launch) (D : va_G) (κ : Nat → Nat) (ext : va_W) (x1 : Int32) : yy_Mr (fun r => r ∈ yy_Eds) l D κ ext yX9_editionOf cX9_editionOf 2 (some (.object "MovedLines$Edition")) rm_X9_editionOf 0 0 [.ref (κ 4 + 0), .int x1] (mm_X9_editionOf x1) := by
  intro sz τ res h
  refine yy_ofW (by decide) (Nat.le_of_ble_eq_true rfl) ?_
  intro p e s m args below meth c ls hsz E
  obtain ⟨C, hr, hlk, Z, hl⟩ := E
  subst hsz
  exact ww_X9_editionOf_E  C hr hlk Z hl h
/-! MovedLines.isEdition(I)Z -/
noncomputable def mm_X9_isEdition (x0 : Int32) : yy_M Int32 :=
  yy_br (x0 = 0) (yy_rt 1) (yy_br (x0 = 1) (yy_rt 1) (yy_rt 0))
theorem kw_X9_isEdition : yy_wS RX9 yX9_isEdition cX9_isEdition 1 (some .boolean) 1 := ⟨⟨tw_382, tw_51, tw_383⟩, by decide +kernel⟩
abbrev rm_X9_isEdition : Room := { frames := 0, cells := 0, slots := 0, locals := 0 }
set_option maxHeartbeats 4000000 in
set_option maxRecDepth 100000 in
theorem ww_X9_isEdition_E {x0 : Int32} {res : Int32 × yy_T} (C : yy_C D κ p m c cX9_isEdition 1 s args RX9) (hr : meth.sig.returnType = (some .boolean)) (hlk : meth.locks = false) (Z : yy_Z D κ ext A s.heap τ H locs) (hl : lv_has ls 1 [(0, .int x0)]) (h : mm_X9_isEdition x0 τ = some res) : W p l e rm_X9_isEdition s m args below meth c H locs 0 0 (MQ below (yy_Qi D κ ext A res) args s 0 0 A) (F0 m 0 ls []) := by
  unfold mm_X9_isEdition at h
  refine lv_iload_n C.1.1 C.1.2.1 dX9_isEdition_0 rfl (lv_at hl 0 rfl) ?_
  refine yy_if_eq (tgt := 9) C dX9_isEdition_1 (by decide) h (fun h => ?_) (fun h => ?_)
  · refine lv_iconst (v := 1) C.1.1 C.1.2.1 dX9_isEdition_9 (by decide) ?_
    refine lv_goto (tgt := 14) C.1.1 C.1.2.1 dX9_isEdition_10 (by decide) ?_
    exact yy_iret C Z hr hlk rfl dX9_isEdition_14 h
  · refine lv_iload_n C.1.1 C.1.2.1 dX9_isEdition_4 rfl (lv_at hl 0 rfl) ?_
    refine lv_iconst (v := 1) C.1.1 C.1.2.1 dX9_isEdition_5 (by decide) ?_
    refine yy_icmp_ne (tgt := 13) C dX9_isEdition_6 (by decide) h (fun h => ?_) (fun h => ?_)
    · refine lv_iconst (v := 0) C.1.1 C.1.2.1 dX9_isEdition_13 (by decide) ?_
      exact yy_iret C Z hr hlk rfl dX9_isEdition_14 h
    · refine lv_iconst (v := 1) C.1.1 C.1.2.1 dX9_isEdition_9 (by decide) ?_
      refine lv_goto (tgt := 14) C.1.1 C.1.2.1 dX9_isEdition_10 (by decide) ?_
      exact yy_iret C Z hr hlk rfl dX9_isEdition_14 h
set_option maxHeartbeats 4000000 in
set_option maxRecDepth 100000 in
theorem ss_X9_isEdition (l : Launch) (D : va_G) (κ : Nat → Nat) (ext : va_W) (x0 : Int32) : yy_Mi l D κ ext yX9_isEdition cX9_isEdition 1 (some .boolean) rm_X9_isEdition 0 0 [.int x0] (mm_X9_isEdition x0) := by
  intro sz τ res h
  refine yy_ofW (by decide) (Nat.le_of_ble_eq_true rfl) ?_
  intro p e s m args below meth c ls hsz E
  obtain ⟨C, hr, hlk, Z, hl⟩ := E
  subst hsz
  exact ww_X9_isEdition_E  C hr hlk Z hl h
/-! MovedLines.readTape(Z)Z -/
noncomputable def mm_X9_readTape (x1 : Int32) : yy_M Int32 :=
  yy_cl (mm_X6_read x1) (fun r1 => yy_wF 1 1 0 (yy_ck (r1 = 0 ∨ r1 = 1) (yy_rt r1)))
theorem kw_X9_readTape : yy_wV RX9 yX9_readTape cX9_readTape 3 (some .boolean) 1 := ⟨⟨tw_386, tw_0, tw_51, tw_387⟩, by decide +kernel⟩
abbrev rm_X9_readTape : Room := { frames := 3, cells := 0, slots := 0, locals := 67 }
set_option maxHeartbeats 4000000 in
set_option maxRecDepth 100000 in
theorem ww_X9_readTape_E {x1 : Int32} {res : Int32 × yy_T} (C : yy_C D κ p m c cX9_readTape 3 s args RX9) (hr : meth.sig.returnType = (some .boolean)) (hlk : meth.locks = false) (Z : yy_Z D κ ext A s.heap τ H locs) (hl : lv_has ls 3 [(0, .ref (κ 4 + 0)), (1, .int x1)]) (h : mm_X9_readTape x1 τ = some res) : W p l e rm_X9_readTape s m args below meth c H locs 0 0 (MQ below (yy_Qi D κ ext A res) args s 0 0 A) (F0 m 0 ls []) := by
  unfold mm_X9_readTape at h
  refine lv_aload_n C.1.1 C.1.2.1 dX9_readTape_0 rfl (lv_at hl 0 rfl) ?_
  refine yg_X9_1 C Z tw_332 dX9_readTape_1 ?_
  refine lv_aload_n C.1.1 C.1.2.1 dX9_readTape_4 rfl (lv_at hl 0 rfl) ?_
  refine yg_X9_0 C Z tw_331 dX9_readTape_5 ?_
  refine lv_iload_n C.1.1 C.1.2.1 dX9_readTape_8 rfl (lv_at hl 1 rfl) ?_
  refine yy_cVi0 (As := [.ref (κ 4 + 1), .int x1]) (rest := []) (id := 3) (ci := 6) (q := (RX6, TX6, 5)) C Z (ss_X6_read l D κ ext x1) (by decide) (yy_ent_3 _) rfl tw_388 kw_X6_read ⟨⟨rfl, rfl⟩, ⟨Nat.le_of_ble_eq_true rfl, Nat.le_of_ble_eq_true rfl⟩, Nat.le_of_ble_eq_true rfl, Nat.le_of_ble_eq_true rfl⟩ hl.1 rfl (Nat.le_of_ble_eq_true rfl) dX9_readTape_9 h (fun r1 τ H locs Z h => ?_)
  refine lv_istore_n (lv' := [(2, .int r1), (0, .ref (κ 4 + 0)), (1, .int x1)]) C.1.1 C.1.2.1 dX9_readTape_12 rfl hl (by decide) rfl (fun ls hl => ?_)
  refine lv_aload_n C.1.1 C.1.2.1 dX9_readTape_13 rfl (lv_at hl 1 rfl) ?_
  refine yg_X9_0 C Z tw_331 dX9_readTape_14 ?_
  refine lv_iconst (v := 0) C.1.1 C.1.2.1 dX9_readTape_17 (by decide) ?_
  refine yp_X7_1 C Z tw_85 dX9_readTape_18 h (fun H locs τ Z h => ?_)
  refine lv_iload_n C.1.1 C.1.2.1 dX9_readTape_21 rfl (lv_at hl 0 rfl) ?_
  exact yy_zret C Z hr hlk dX9_readTape_22 h
set_option maxHeartbeats 4000000 in
set_option maxRecDepth 100000 in
theorem ss_X9_readTape (l : Launch) (D : va_G) (κ : Nat → Nat) (ext : va_W) (x1 : Int32) : yy_Mi l D κ ext yX9_readTape cX9_readTape 3 (some .boolean) rm_X9_readTape 0 0 [.ref (κ 4 + 0), .int x1] (mm_X9_readTape x1) := by
  intro sz τ res h
  refine yy_ofW (by decide) (Nat.le_of_ble_eq_true rfl) ?_
  intro p e s m args below meth c ls hsz E
  obtain ⟨C, hr, hlk, Z, hl⟩ := E
  subst hsz
  exact ww_X9_readTape_E  C hr hlk Z hl h
/-! MovedLines.edition(I)I -/
noncomputable def mm_X9_edition (x1 : Int32) : yy_M Int32 :=
  yy_cl (mm_X9_isEdition x1) (fun r1 => yy_br (r1 = 0) (yy_rt ((-1))) (yy_cl (mm_X9_readTape 1) (fun r2 => yy_br (r2 = 0) (yy_rF 3 2 fun v8 => yy_rt (((-2)) - v8)) (yy_cl (mm_X9_editionOf x1) (fun r3 => yy_cl (mm_X2_copyAll r3 4) (fun _ => yy_cl (mm_X5_forget ) (fun _ => yy_wF 0 10 1 (yy_cl (mm_X9_editionOf x1) (fun r5 => yy_rF r5 2 fun v7 => yy_rt v7)))))))))
theorem kw_X9_edition : yy_wV RX9 yX9_edition cX9_edition 2 (some .int) 1 := ⟨⟨tw_378, tw_379, tw_51, tw_380⟩, by decide +kernel⟩
abbrev rm_X9_edition : Room := { frames := 4, cells := 0, slots := 0, locals := 93 }
set_option maxHeartbeats 4000000 in
set_option maxRecDepth 100000 in
theorem ww_X9_edition_E {x1 : Int32} {res : Int32 × yy_T} (C : yy_C D κ p m c cX9_edition 2 s args RX9) (hr : meth.sig.returnType = (some .int)) (hlk : meth.locks = false) (Z : yy_Z D κ ext A s.heap τ H locs) (hl : lv_has ls 2 [(0, .ref (κ 4 + 0)), (1, .int x1)]) (h : mm_X9_edition x1 τ = some res) : W p l e rm_X9_edition s m args below meth c H locs 0 0 (MQ below (yy_Qi D κ ext A res) args s 0 0 A) (F0 m 0 ls []) := by
  unfold mm_X9_edition at h
  refine lv_iload_n C.1.1 C.1.2.1 dX9_edition_0 rfl (lv_at hl 1 rfl) ?_
  refine yy_cSi0 (As := [.int x1]) (rest := [])  C Z (ss_X9_isEdition l D κ ext x1) tw_381 kw_X9_isEdition ⟨⟨rfl, rfl⟩, ⟨Nat.le_of_ble_eq_true rfl, Nat.le_of_ble_eq_true rfl⟩, Nat.le_of_ble_eq_true rfl, Nat.le_of_ble_eq_true rfl⟩ hl.1 rfl (Nat.le_of_ble_eq_true rfl) dX9_edition_1 h (fun r1 τ H locs Z h => ?_)
  refine yy_if_ne (tgt := 9) C dX9_edition_4 (by decide) h (fun h => ?_) (fun h => ?_)
  · refine lv_aload_n C.1.1 C.1.2.1 dX9_edition_9 rfl (lv_at hl 0 rfl) ?_
    refine lv_iconst (v := 1) C.1.1 C.1.2.1 dX9_edition_10 (by decide) ?_
    refine yy_cVi0 (As := [.int 1]) (rest := []) (id := 0) (ci := 9) (q := (RX9, TX9, 11)) C Z (ss_X9_readTape l D κ ext 1) (by decide) (yy_ent_0 _) rfl tw_384 kw_X9_readTape ⟨⟨rfl, rfl⟩, ⟨Nat.le_of_ble_eq_true rfl, Nat.le_of_ble_eq_true rfl⟩, Nat.le_of_ble_eq_true rfl, Nat.le_of_ble_eq_true rfl⟩ hl.1 rfl (Nat.le_of_ble_eq_true rfl) dX9_edition_11 h (fun r2 τ H locs Z h => ?_)
    refine yy_if_ne (tgt := 28) C dX9_edition_14 (by decide) h (fun h => ?_) (fun h => ?_)
    · refine lv_aload_n C.1.1 C.1.2.1 dX9_edition_28 rfl (lv_at hl 0 rfl) ?_
      refine lv_iload_n C.1.1 C.1.2.1 dX9_edition_29 rfl (lv_at hl 1 rfl) ?_
      refine yy_cVr0 (As := [.int x1]) (rest := []) (id := 0) (ci := 9) (q := (RX9, TX9, 11)) C Z (ss_X9_editionOf l D κ ext x1) (by decide) (yy_ent_0 _) rfl tw_408 kw_X9_editionOf ⟨⟨rfl, rfl⟩, ⟨Nat.le_of_ble_eq_true rfl, Nat.le_of_ble_eq_true rfl⟩, Nat.le_of_ble_eq_true rfl, Nat.le_of_ble_eq_true rfl⟩ hl.1 rfl (Nat.le_of_ble_eq_true rfl) dX9_edition_30 h (fun r3 τ H locs hp4 Z h => ?_)
      refine lv_aload_n C.1.1 C.1.2.1 dX9_edition_33 rfl (lv_at hl 0 rfl) ?_
      refine yg_X9_1 C Z tw_332 dX9_edition_34 ?_
      refine yg_X6_0 C Z tw_125 dX9_edition_37 ?_
      refine yy_cVv0 (As := [.ref (κ 4 + 4)]) (rest := []) (id := r3) (ci := 2) (q := (RX2, TX2, 3)) C Z (ss_X2_copyAll l D κ ext r3 4 hp4 (by decide)) (yy_Eds_lt _ hp4) (yy_ent_Eds hp4 _) rfl tw_412 kw_X2_copyAll ⟨⟨rfl, rfl⟩, ⟨Nat.le_of_ble_eq_true rfl, Nat.le_of_ble_eq_true rfl⟩, Nat.le_of_ble_eq_true rfl, Nat.le_of_ble_eq_true rfl⟩ hl.1 rfl (Nat.le_of_ble_eq_true rfl) dX9_edition_40 h (fun τ H locs Z h => ?_)
      refine lv_aload_n C.1.1 C.1.2.1 dX9_edition_43 rfl (lv_at hl 0 rfl) ?_
      refine yg_X9_5 C Z tw_336 dX9_edition_44 ?_
      refine yy_cVv0 (As := []) (rest := []) (id := 16) (ci := 5) (q := (RX5, TX5, 4)) C Z (ss_X5_forget l D κ ext ) (by decide) (yy_ent_16 _) rfl tw_427 kw_X5_forget ⟨⟨rfl, rfl⟩, ⟨Nat.le_of_ble_eq_true rfl, Nat.le_of_ble_eq_true rfl⟩, Nat.le_of_ble_eq_true rfl, Nat.le_of_ble_eq_true rfl⟩ hl.1 rfl (Nat.le_of_ble_eq_true rfl) dX9_edition_47 h (fun τ H locs Z h => ?_)
      refine lv_aload_n C.1.1 C.1.2.1 dX9_edition_50 rfl (lv_at hl 0 rfl) ?_
      refine lv_iconst (v := 1) C.1.1 C.1.2.1 dX9_edition_51 (by decide) ?_
      refine yp_X9_10 C Z (Or.inr rfl) tw_341 dX9_edition_52 h (fun H locs τ Z h => ?_)
      refine lv_aload_n C.1.1 C.1.2.1 dX9_edition_55 rfl (lv_at hl 0 rfl) ?_
      refine lv_iload_n C.1.1 C.1.2.1 dX9_edition_56 rfl (lv_at hl 1 rfl) ?_
      refine yy_cVr0 (As := [.int x1]) (rest := []) (id := 0) (ci := 9) (q := (RX9, TX9, 11)) C Z (ss_X9_editionOf l D κ ext x1) (by decide) (yy_ent_0 _) rfl tw_408 kw_X9_editionOf ⟨⟨rfl, rfl⟩, ⟨Nat.le_of_ble_eq_true rfl, Nat.le_of_ble_eq_true rfl⟩, Nat.le_of_ble_eq_true rfl, Nat.le_of_ble_eq_true rfl⟩ hl.1 rfl (Nat.le_of_ble_eq_true rfl) dX9_edition_57 h (fun r5 τ H locs hp6 Z h => ?_)
      refine yg_X2_2 C Z hp6 tw_114 dX9_edition_60 h (fun v7 h => ?_)
      exact yy_iret C Z hr hlk rfl dX9_edition_63 h
    · refine lv_bipush (v := (-2)) C.1.1 C.1.2.1 dX9_edition_17 (by decide) ?_
      refine lv_aload_n C.1.1 C.1.2.1 dX9_edition_19 rfl (lv_at hl 0 rfl) ?_
      refine yg_X9_1 C Z tw_332 dX9_edition_20 ?_
      refine yg_X6_2 C Z tw_129 dX9_edition_23 h (fun v8 h => ?_)
      refine lv_isub C.1.1 C.1.2.1 dX9_edition_26 ?_
      exact yy_iret C Z hr hlk rfl dX9_edition_27 h
  · refine lv_iconst (v := (-1)) C.1.1 C.1.2.1 dX9_edition_7 (by decide) ?_
    exact yy_iret C Z hr hlk rfl dX9_edition_8 h
set_option maxHeartbeats 4000000 in
set_option maxRecDepth 100000 in
theorem ss_X9_edition (l : Launch) (D : va_G) (κ : Nat → Nat) (ext : va_W) (x1 : Int32) : yy_Mi l D κ ext yX9_edition cX9_edition 2 (some .int) rm_X9_edition 0 0 [.ref (κ 4 + 0), .int x1] (mm_X9_edition x1) := by
  intro sz τ res h
  refine yy_ofW (by decide) (Nat.le_of_ble_eq_true rfl) ?_
  intro p e s m args below meth c ls hsz E
  obtain ⟨C, hr, hlk, Z, hl⟩ := E
  subst hsz
  exact ww_X9_edition_E  C hr hlk Z hl h
end
