section
variable {p : Program} {l : Launch} {e : Env} {s : State} {m : MethodId} {args : Array Value} {below : List Frame} {meth : Method} {c : Code} {H : Heap} {locs : List Loc} {ls : Array Slot} {D : va_G} {κ : Nat → Nat} {ext : va_W} {A : Nat → Prop} {τ : yy_T}
/-! MovedLines.put(II)I -/
noncomputable def mm_X9_put (x1 : Int32) (x2 : Int32) : yy_M Int32 :=
  yy_cl (mm_X9_isEdition x1) (fun r1 => yy_br (r1 = 0) (yy_rt ((-1))) (yy_br (x2 < 0) (yy_rt ((-1))) (yy_cl (mm_X9_editionOf x1) (fun r2 => yy_rF r2 2 fun v4 => yy_br (x2 ≤ v4) (yy_cl (mm_X9_editionOf x1) (fun r5 => yy_rF r5 2 fun v7 => yy_br (v7 < 14) (yy_cl (mm_X9_readTape 0) (fun r8 => yy_br (r8 = 0) (yy_rF 3 2 fun v12 => yy_rt (((-2)) - v12)) (yy_cl (mm_X9_startStep x1) (fun r9 => yy_cl (mm_X2_insertLine r9 x2 4 0) (fun _ => yy_rF r9 2 fun v11 => yy_rt v11))))) (yy_rt ((-1000))))) (yy_rt ((-1)))))))
theorem kw_X9_put : yy_wV RX9 yX9_put cX9_put 4 (some .int) 2 := ⟨⟨tw_643, tw_644, tw_51, tw_645⟩, by decide +kernel⟩
abbrev rm_X9_put : Room := { frames := 5, cells := 0, slots := 0, locals := 136 }
set_option maxHeartbeats 4000000 in
set_option maxRecDepth 100000 in
theorem ww_X9_put_E {x1 : Int32} {x2 : Int32} {res : Int32 × yy_T} (C : yy_C D κ p m c cX9_put 4 s args RX9) (hr : meth.sig.returnType = (some .int)) (hlk : meth.locks = false) (Z : yy_Z D κ ext A s.heap τ H locs) (hl : lv_has ls 4 [(0, .ref (κ 4 + 0)), (1, .int x1), (2, .int x2)]) (h : mm_X9_put x1 x2 τ = some res) : W p l e rm_X9_put s m args below meth c H locs 0 0 (MQ below (yy_Qi D κ ext A res) args s 0 0 A) (F0 m 0 ls []) := by
  unfold mm_X9_put at h
  refine lv_iload_n C.1.1 C.1.2.1 dX9_put_0 rfl (lv_at hl 1 rfl) ?_
  refine yy_cSi0 (As := [.int x1]) (rest := [])  C Z (ss_X9_isEdition l D κ ext x1) tw_381 kw_X9_isEdition ⟨⟨rfl, rfl⟩, ⟨Nat.le_of_ble_eq_true rfl, Nat.le_of_ble_eq_true rfl⟩, Nat.le_of_ble_eq_true rfl, Nat.le_of_ble_eq_true rfl⟩ hl.1 rfl (Nat.le_of_ble_eq_true rfl) dX9_put_1 h (fun r1 τ H locs Z h => ?_)
  refine yy_if_eq (tgt := 23) C dX9_put_4 (by decide) h (fun h => ?_) (fun h => ?_)
  · refine lv_iconst (v := (-1)) C.1.1 C.1.2.1 dX9_put_23 (by decide) ?_
    exact yy_iret C Z hr hlk rfl dX9_put_24 h
  · refine lv_iload_n C.1.1 C.1.2.1 dX9_put_7 rfl (lv_at hl 2 rfl) ?_
    refine yy_if_lt (tgt := 23) C dX9_put_8 (by decide) h (fun h => ?_) (fun h => ?_)
    · refine lv_iconst (v := (-1)) C.1.1 C.1.2.1 dX9_put_23 (by decide) ?_
      exact yy_iret C Z hr hlk rfl dX9_put_24 h
    · refine lv_iload_n C.1.1 C.1.2.1 dX9_put_11 rfl (lv_at hl 2 rfl) ?_
      refine lv_aload_n C.1.1 C.1.2.1 dX9_put_12 rfl (lv_at hl 0 rfl) ?_
      refine lv_iload_n C.1.1 C.1.2.1 dX9_put_13 rfl (lv_at hl 1 rfl) ?_
      refine yy_cVr0 (As := [.int x1]) (rest := [.int x2]) (id := 0) (ci := 9) (q := (RX9, TX9, 11)) C Z (ss_X9_editionOf l D κ ext x1) (by decide) (yy_ent_0 _) rfl tw_408 kw_X9_editionOf ⟨⟨rfl, rfl⟩, ⟨Nat.le_of_ble_eq_true rfl, Nat.le_of_ble_eq_true rfl⟩, Nat.le_of_ble_eq_true rfl, Nat.le_of_ble_eq_true rfl⟩ hl.1 rfl (Nat.le_of_ble_eq_true rfl) dX9_put_14 h (fun r2 τ H locs hp3 Z h => ?_)
      refine yg_X2_2 C Z hp3 tw_114 dX9_put_17 h (fun v4 h => ?_)
      refine yy_icmp_le (tgt := 25) C dX9_put_20 (by decide) h (fun h => ?_) (fun h => ?_)
      · refine lv_aload_n C.1.1 C.1.2.1 dX9_put_25 rfl (lv_at hl 0 rfl) ?_
        refine lv_iload_n C.1.1 C.1.2.1 dX9_put_26 rfl (lv_at hl 1 rfl) ?_
        refine yy_cVr0 (As := [.int x1]) (rest := []) (id := 0) (ci := 9) (q := (RX9, TX9, 11)) C Z (ss_X9_editionOf l D κ ext x1) (by decide) (yy_ent_0 _) rfl tw_408 kw_X9_editionOf ⟨⟨rfl, rfl⟩, ⟨Nat.le_of_ble_eq_true rfl, Nat.le_of_ble_eq_true rfl⟩, Nat.le_of_ble_eq_true rfl, Nat.le_of_ble_eq_true rfl⟩ hl.1 rfl (Nat.le_of_ble_eq_true rfl) dX9_put_27 h (fun r5 τ H locs hp6 Z h => ?_)
        refine yg_X2_2 C Z hp6 tw_114 dX9_put_30 h (fun v7 h => ?_)
        refine lv_bipush (v := 14) C.1.1 C.1.2.1 dX9_put_33 (by decide) ?_
        refine yy_icmp_lt (tgt := 42) C dX9_put_35 (by decide) h (fun h => ?_) (fun h => ?_)
        · refine lv_aload_n C.1.1 C.1.2.1 dX9_put_42 rfl (lv_at hl 0 rfl) ?_
          refine lv_iconst (v := 0) C.1.1 C.1.2.1 dX9_put_43 (by decide) ?_
          refine yy_cVi0 (As := [.int 0]) (rest := []) (id := 0) (ci := 9) (q := (RX9, TX9, 11)) C Z (ss_X9_readTape l D κ ext 0) (by decide) (yy_ent_0 _) rfl tw_384 kw_X9_readTape ⟨⟨rfl, rfl⟩, ⟨Nat.le_of_ble_eq_true rfl, Nat.le_of_ble_eq_true rfl⟩, Nat.le_of_ble_eq_true rfl, Nat.le_of_ble_eq_true rfl⟩ hl.1 rfl (Nat.le_of_ble_eq_true rfl) dX9_put_44 h (fun r8 τ H locs Z h => ?_)
          refine yy_if_ne (tgt := 61) C dX9_put_47 (by decide) h (fun h => ?_) (fun h => ?_)
          · refine lv_aload_n C.1.1 C.1.2.1 dX9_put_61 rfl (lv_at hl 0 rfl) ?_
            refine lv_iload_n C.1.1 C.1.2.1 dX9_put_62 rfl (lv_at hl 1 rfl) ?_
            refine yy_cVr0 (As := [.int x1]) (rest := []) (id := 0) (ci := 9) (q := (RX9, TX9, 11)) C Z (ss_X9_startStep l D κ ext x1) (by decide) (yy_ent_0 _) rfl tw_646 kw_X9_startStep ⟨⟨rfl, rfl⟩, ⟨Nat.le_of_ble_eq_true rfl, Nat.le_of_ble_eq_true rfl⟩, Nat.le_of_ble_eq_true rfl, Nat.le_of_ble_eq_true rfl⟩ hl.1 rfl (Nat.le_of_ble_eq_true rfl) dX9_put_63 h (fun r9 τ H locs hp10 Z h => ?_)
            refine lv_astore_n (lv' := [(3, .ref (κ 4 + r9)), (0, .ref (κ 4 + 0)), (1, .int x1), (2, .int x2)]) C.1.1 C.1.2.1 dX9_put_66 rfl hl (by decide) rfl (fun ls hl => ?_)
            refine lv_aload_n C.1.1 C.1.2.1 dX9_put_67 rfl (lv_at hl 0 rfl) ?_
            refine lv_iload_n C.1.1 C.1.2.1 dX9_put_68 rfl (lv_at hl 3 rfl) ?_
            refine lv_aload_n C.1.1 C.1.2.1 dX9_put_69 rfl (lv_at hl 1 rfl) ?_
            refine yg_X9_1 C Z tw_332 dX9_put_70 ?_
            refine yg_X6_0 C Z tw_125 dX9_put_73 ?_
            refine lv_iconst (v := 0) C.1.1 C.1.2.1 dX9_put_76 (by decide) ?_
            refine yy_cVv0 (As := [.int x2, .ref (κ 4 + 4), .int 0]) (rest := []) (id := r9) (ci := 2) (q := (RX2, TX2, 3)) C Z (ss_X2_insertLine l D κ ext r9 x2 4 0 hp10 (by decide)) (yy_Eds_lt _ hp10) (yy_ent_Eds hp10 _) rfl tw_656 kw_X2_insertLine ⟨⟨rfl, rfl⟩, ⟨Nat.le_of_ble_eq_true rfl, Nat.le_of_ble_eq_true rfl⟩, Nat.le_of_ble_eq_true rfl, Nat.le_of_ble_eq_true rfl⟩ hl.1 rfl (Nat.le_of_ble_eq_true rfl) dX9_put_77 h (fun τ H locs Z h => ?_)
            refine lv_aload_n C.1.1 C.1.2.1 dX9_put_80 rfl (lv_at hl 0 rfl) ?_
            refine yg_X2_2 C Z hp10 tw_114 dX9_put_81 h (fun v11 h => ?_)
            exact yy_iret C Z hr hlk rfl dX9_put_84 h
          · refine lv_bipush (v := (-2)) C.1.1 C.1.2.1 dX9_put_50 (by decide) ?_
            refine lv_aload_n C.1.1 C.1.2.1 dX9_put_52 rfl (lv_at hl 0 rfl) ?_
            refine yg_X9_1 C Z tw_332 dX9_put_53 ?_
            refine yg_X6_2 C Z tw_129 dX9_put_56 h (fun v12 h => ?_)
            refine lv_isub C.1.1 C.1.2.1 dX9_put_59 ?_
            exact yy_iret C Z hr hlk rfl dX9_put_60 h
        · refine lv_sipush (v := (-1000)) C.1.1 C.1.2.1 dX9_put_38 (by decide) ?_
          exact yy_iret C Z hr hlk rfl dX9_put_41 h
      · refine lv_iconst (v := (-1)) C.1.1 C.1.2.1 dX9_put_23 (by decide) ?_
        exact yy_iret C Z hr hlk rfl dX9_put_24 h
set_option maxHeartbeats 4000000 in
set_option maxRecDepth 100000 in
theorem ss_X9_put (l : Launch) (D : va_G) (κ : Nat → Nat) (ext : va_W) (x1 : Int32) (x2 : Int32) : yy_Mi l D κ ext yX9_put cX9_put 4 (some .int) rm_X9_put 0 0 [.ref (κ 4 + 0), .int x1, .int x2] (mm_X9_put x1 x2) := by
  intro sz τ res h
  refine yy_ofW (by decide) (Nat.le_of_ble_eq_true rfl) ?_
  intro p e s m args below meth c ls hsz E
  obtain ⟨C, hr, hlk, Z, hl⟩ := E
  subst hsz
  exact ww_X9_put_E  C hr hlk Z hl h
/-! MovedLines.change(II)I -/
noncomputable def mm_X9_change (x1 : Int32) (x2 : Int32) : yy_M Int32 :=
  yy_cl (mm_X9_hasLine x1 x2) (fun r1 => yy_br (r1 = 0) (yy_rt ((-1))) (yy_cl (mm_X9_readTape 0) (fun r2 => yy_br (r2 = 0) (yy_rF 3 2 fun v6 => yy_rt (((-2)) - v6)) (yy_cl (mm_X9_startStep x1) (fun r3 => yy_cl (mm_X2_setLine r3 x2 4 0) (fun _ => yy_cl (mm_X2_sizeOf r3 x2) (fun r5 => yy_rt r5)))))))
theorem kw_X9_change : yy_wV RX9 yX9_change cX9_change 4 (some .int) 2 := ⟨⟨tw_661, tw_662, tw_51, tw_663⟩, by decide +kernel⟩
abbrev rm_X9_change : Room := { frames := 5, cells := 0, slots := 0, locals := 136 }
set_option maxHeartbeats 4000000 in
set_option maxRecDepth 100000 in
theorem ww_X9_change_E {x1 : Int32} {x2 : Int32} {res : Int32 × yy_T} (C : yy_C D κ p m c cX9_change 4 s args RX9) (hr : meth.sig.returnType = (some .int)) (hlk : meth.locks = false) (Z : yy_Z D κ ext A s.heap τ H locs) (hl : lv_has ls 4 [(0, .ref (κ 4 + 0)), (1, .int x1), (2, .int x2)]) (h : mm_X9_change x1 x2 τ = some res) : W p l e rm_X9_change s m args below meth c H locs 0 0 (MQ below (yy_Qi D κ ext A res) args s 0 0 A) (F0 m 0 ls []) := by
  unfold mm_X9_change at h
  refine lv_aload_n C.1.1 C.1.2.1 dX9_change_0 rfl (lv_at hl 0 rfl) ?_
  refine lv_iload_n C.1.1 C.1.2.1 dX9_change_1 rfl (lv_at hl 1 rfl) ?_
  refine lv_iload_n C.1.1 C.1.2.1 dX9_change_2 rfl (lv_at hl 2 rfl) ?_
  refine yy_cVi0 (As := [.int x1, .int x2]) (rest := []) (id := 0) (ci := 9) (q := (RX9, TX9, 11)) C Z (ss_X9_hasLine l D κ ext x1 x2) (by decide) (yy_ent_0 _) rfl tw_567 kw_X9_hasLine ⟨⟨rfl, rfl⟩, ⟨Nat.le_of_ble_eq_true rfl, Nat.le_of_ble_eq_true rfl⟩, Nat.le_of_ble_eq_true rfl, Nat.le_of_ble_eq_true rfl⟩ hl.1 rfl (Nat.le_of_ble_eq_true rfl) dX9_change_3 h (fun r1 τ H locs Z h => ?_)
  refine yy_if_ne (tgt := 11) C dX9_change_6 (by decide) h (fun h => ?_) (fun h => ?_)
  · refine lv_aload_n C.1.1 C.1.2.1 dX9_change_11 rfl (lv_at hl 0 rfl) ?_
    refine lv_iconst (v := 0) C.1.1 C.1.2.1 dX9_change_12 (by decide) ?_
    refine yy_cVi0 (As := [.int 0]) (rest := []) (id := 0) (ci := 9) (q := (RX9, TX9, 11)) C Z (ss_X9_readTape l D κ ext 0) (by decide) (yy_ent_0 _) rfl tw_384 kw_X9_readTape ⟨⟨rfl, rfl⟩, ⟨Nat.le_of_ble_eq_true rfl, Nat.le_of_ble_eq_true rfl⟩, Nat.le_of_ble_eq_true rfl, Nat.le_of_ble_eq_true rfl⟩ hl.1 rfl (Nat.le_of_ble_eq_true rfl) dX9_change_13 h (fun r2 τ H locs Z h => ?_)
    refine yy_if_ne (tgt := 30) C dX9_change_16 (by decide) h (fun h => ?_) (fun h => ?_)
    · refine lv_aload_n C.1.1 C.1.2.1 dX9_change_30 rfl (lv_at hl 0 rfl) ?_
      refine lv_iload_n C.1.1 C.1.2.1 dX9_change_31 rfl (lv_at hl 1 rfl) ?_
      refine yy_cVr0 (As := [.int x1]) (rest := []) (id := 0) (ci := 9) (q := (RX9, TX9, 11)) C Z (ss_X9_startStep l D κ ext x1) (by decide) (yy_ent_0 _) rfl tw_646 kw_X9_startStep ⟨⟨rfl, rfl⟩, ⟨Nat.le_of_ble_eq_true rfl, Nat.le_of_ble_eq_true rfl⟩, Nat.le_of_ble_eq_true rfl, Nat.le_of_ble_eq_true rfl⟩ hl.1 rfl (Nat.le_of_ble_eq_true rfl) dX9_change_32 h (fun r3 τ H locs hp4 Z h => ?_)
      refine lv_astore_n (lv' := [(3, .ref (κ 4 + r3)), (0, .ref (κ 4 + 0)), (1, .int x1), (2, .int x2)]) C.1.1 C.1.2.1 dX9_change_35 rfl hl (by decide) rfl (fun ls hl => ?_)
      refine lv_aload_n C.1.1 C.1.2.1 dX9_change_36 rfl (lv_at hl 0 rfl) ?_
      refine lv_iload_n C.1.1 C.1.2.1 dX9_change_37 rfl (lv_at hl 3 rfl) ?_
      refine lv_aload_n C.1.1 C.1.2.1 dX9_change_38 rfl (lv_at hl 1 rfl) ?_
      refine yg_X9_1 C Z tw_332 dX9_change_39 ?_
      refine yg_X6_0 C Z tw_125 dX9_change_42 ?_
      refine lv_iconst (v := 0) C.1.1 C.1.2.1 dX9_change_45 (by decide) ?_
      refine yy_cVv0 (As := [.int x2, .ref (κ 4 + 4), .int 0]) (rest := []) (id := r3) (ci := 2) (q := (RX2, TX2, 3)) C Z (ss_X2_setLine l D κ ext r3 x2 4 0 hp4 (by decide)) (yy_Eds_lt _ hp4) (yy_ent_Eds hp4 _) rfl tw_637 kw_X2_setLine ⟨⟨rfl, rfl⟩, ⟨Nat.le_of_ble_eq_true rfl, Nat.le_of_ble_eq_true rfl⟩, Nat.le_of_ble_eq_true rfl, Nat.le_of_ble_eq_true rfl⟩ hl.1 rfl (Nat.le_of_ble_eq_true rfl) dX9_change_46 h (fun τ H locs Z h => ?_)
      refine lv_aload_n C.1.1 C.1.2.1 dX9_change_49 rfl (lv_at hl 0 rfl) ?_
      refine lv_iload_n C.1.1 C.1.2.1 dX9_change_50 rfl (lv_at hl 3 rfl) ?_
      refine yy_cVi0 (As := [.int x2]) (rest := []) (id := r3) (ci := 2) (q := (RX2, TX2, 3)) C Z (ss_X2_sizeOf l D κ ext r3 x2 hp4) (yy_Eds_lt _ hp4) (yy_ent_Eds hp4 _) rfl tw_598 kw_X2_sizeOf ⟨⟨rfl, rfl⟩, ⟨Nat.le_of_ble_eq_true rfl, Nat.le_of_ble_eq_true rfl⟩, Nat.le_of_ble_eq_true rfl, Nat.le_of_ble_eq_true rfl⟩ hl.1 rfl (Nat.le_of_ble_eq_true rfl) dX9_change_51 h (fun r5 τ H locs Z h => ?_)
      exact yy_iret C Z hr hlk rfl dX9_change_54 h
    · refine lv_bipush (v := (-2)) C.1.1 C.1.2.1 dX9_change_19 (by decide) ?_
      refine lv_aload_n C.1.1 C.1.2.1 dX9_change_21 rfl (lv_at hl 0 rfl) ?_
      refine yg_X9_1 C Z tw_332 dX9_change_22 ?_
      refine yg_X6_2 C Z tw_129 dX9_change_25 h (fun v6 h => ?_)
      refine lv_isub C.1.1 C.1.2.1 dX9_change_28 ?_
      exact yy_iret C Z hr hlk rfl dX9_change_29 h
  · refine lv_iconst (v := (-1)) C.1.1 C.1.2.1 dX9_change_9 (by decide) ?_
    exact yy_iret C Z hr hlk rfl dX9_change_10 h
set_option maxHeartbeats 4000000 in
set_option maxRecDepth 100000 in
theorem ss_X9_change (l : Launch) (D : va_G) (κ : Nat → Nat) (ext : va_W) (x1 : Int32) (x2 : Int32) : yy_Mi l D κ ext yX9_change cX9_change 4 (some .int) rm_X9_change 0 0 [.ref (κ 4 + 0), .int x1, .int x2] (mm_X9_change x1 x2) := by
  intro sz τ res h
  refine yy_ofW (by decide) (Nat.le_of_ble_eq_true rfl) ?_
  intro p e s m args below meth c ls hsz E
  obtain ⟨C, hr, hlk, Z, hl⟩ := E
  subst hsz
  exact ww_X9_change_E  C hr hlk Z hl h
/-! MovedLines.cut(II)I -/
noncomputable def mm_X9_cut (x1 : Int32) (x2 : Int32) : yy_M Int32 :=
  yy_cl (mm_X9_hasLine x1 x2) (fun r1 => yy_br (r1 = 0) (yy_rt ((-1))) (yy_cl (mm_X9_startStep x1) (fun r2 => yy_cl (mm_X2_removeLine r2 x2) (fun _ => yy_rF r2 2 fun v4 => yy_rt v4))))
theorem kw_X9_cut : yy_wV RX9 yX9_cut cX9_cut 4 (some .int) 2 := ⟨⟨tw_665, tw_666, tw_51, tw_667⟩, by decide +kernel⟩
abbrev rm_X9_cut : Room := { frames := 5, cells := 0, slots := 0, locals := 136 }
set_option maxHeartbeats 4000000 in
set_option maxRecDepth 100000 in
theorem ww_X9_cut_E {x1 : Int32} {x2 : Int32} {res : Int32 × yy_T} (C : yy_C D κ p m c cX9_cut 4 s args RX9) (hr : meth.sig.returnType = (some .int)) (hlk : meth.locks = false) (Z : yy_Z D κ ext A s.heap τ H locs) (hl : lv_has ls 4 [(0, .ref (κ 4 + 0)), (1, .int x1), (2, .int x2)]) (h : mm_X9_cut x1 x2 τ = some res) : W p l e rm_X9_cut s m args below meth c H locs 0 0 (MQ below (yy_Qi D κ ext A res) args s 0 0 A) (F0 m 0 ls []) := by
  unfold mm_X9_cut at h
  refine lv_aload_n C.1.1 C.1.2.1 dX9_cut_0 rfl (lv_at hl 0 rfl) ?_
  refine lv_iload_n C.1.1 C.1.2.1 dX9_cut_1 rfl (lv_at hl 1 rfl) ?_
  refine lv_iload_n C.1.1 C.1.2.1 dX9_cut_2 rfl (lv_at hl 2 rfl) ?_
  refine yy_cVi0 (As := [.int x1, .int x2]) (rest := []) (id := 0) (ci := 9) (q := (RX9, TX9, 11)) C Z (ss_X9_hasLine l D κ ext x1 x2) (by decide) (yy_ent_0 _) rfl tw_567 kw_X9_hasLine ⟨⟨rfl, rfl⟩, ⟨Nat.le_of_ble_eq_true rfl, Nat.le_of_ble_eq_true rfl⟩, Nat.le_of_ble_eq_true rfl, Nat.le_of_ble_eq_true rfl⟩ hl.1 rfl (Nat.le_of_ble_eq_true rfl) dX9_cut_3 h (fun r1 τ H locs Z h => ?_)
  refine yy_if_ne (tgt := 11) C dX9_cut_6 (by decide) h (fun h => ?_) (fun h => ?_)
  · refine lv_aload_n C.1.1 C.1.2.1 dX9_cut_11 rfl (lv_at hl 0 rfl) ?_
    refine lv_iload_n C.1.1 C.1.2.1 dX9_cut_12 rfl (lv_at hl 1 rfl) ?_
    refine yy_cVr0 (As := [.int x1]) (rest := []) (id := 0) (ci := 9) (q := (RX9, TX9, 11)) C Z (ss_X9_startStep l D κ ext x1) (by decide) (yy_ent_0 _) rfl tw_646 kw_X9_startStep ⟨⟨rfl, rfl⟩, ⟨Nat.le_of_ble_eq_true rfl, Nat.le_of_ble_eq_true rfl⟩, Nat.le_of_ble_eq_true rfl, Nat.le_of_ble_eq_true rfl⟩ hl.1 rfl (Nat.le_of_ble_eq_true rfl) dX9_cut_13 h (fun r2 τ H locs hp3 Z h => ?_)
    refine lv_astore_n (lv' := [(3, .ref (κ 4 + r2)), (0, .ref (κ 4 + 0)), (1, .int x1), (2, .int x2)]) C.1.1 C.1.2.1 dX9_cut_16 rfl hl (by decide) rfl (fun ls hl => ?_)
    refine lv_aload_n C.1.1 C.1.2.1 dX9_cut_17 rfl (lv_at hl 0 rfl) ?_
    refine lv_iload_n C.1.1 C.1.2.1 dX9_cut_18 rfl (lv_at hl 3 rfl) ?_
    refine yy_cVv0 (As := [.int x2]) (rest := []) (id := r2) (ci := 2) (q := (RX2, TX2, 3)) C Z (ss_X2_removeLine l D κ ext r2 x2 hp3) (yy_Eds_lt _ hp3) (yy_ent_Eds hp3 _) rfl tw_668 kw_X2_removeLine ⟨⟨rfl, rfl⟩, ⟨Nat.le_of_ble_eq_true rfl, Nat.le_of_ble_eq_true rfl⟩, Nat.le_of_ble_eq_true rfl, Nat.le_of_ble_eq_true rfl⟩ hl.1 rfl (Nat.le_of_ble_eq_true rfl) dX9_cut_19 h (fun τ H locs Z h => ?_)
    refine lv_aload_n C.1.1 C.1.2.1 dX9_cut_22 rfl (lv_at hl 0 rfl) ?_
    refine yg_X2_2 C Z hp3 tw_114 dX9_cut_23 h (fun v4 h => ?_)
    exact yy_iret C Z hr hlk rfl dX9_cut_26 h
  · refine lv_iconst (v := (-1)) C.1.1 C.1.2.1 dX9_cut_9 (by decide) ?_
    exact yy_iret C Z hr hlk rfl dX9_cut_10 h
set_option maxHeartbeats 4000000 in
set_option maxRecDepth 100000 in
theorem ss_X9_cut (l : Launch) (D : va_G) (κ : Nat → Nat) (ext : va_W) (x1 : Int32) (x2 : Int32) : yy_Mi l D κ ext yX9_cut cX9_cut 4 (some .int) rm_X9_cut 0 0 [.ref (κ 4 + 0), .int x1, .int x2] (mm_X9_cut x1 x2) := by
  intro sz τ res h
  refine yy_ofW (by decide) (Nat.le_of_ble_eq_true rfl) ?_
  intro p e s m args below meth c ls hsz E
  obtain ⟨C, hr, hlk, Z, hl⟩ := E
  subst hsz
  exact ww_X9_cut_E  C hr hlk Z hl h
/-! MovedLines.move(IIII)Z -/
noncomputable def mm_X9_move (x1 : Int32) (x2 : Int32) (x3 : Int32) (x4 : Int32) : yy_M Int32 :=
  yy_cl (mm_X9_hasLine x1 x2) (fun r1 => yy_br (r1 = 0) (yy_rt 0) (yy_cl (mm_X9_editionOf x1) (fun r2 => yy_rF r2 2 fun v4 => yy_br (x3 < 1) (yy_rt 0) (yy_br ((v4 - x2) < x3) (yy_rt 0) (yy_br (x4 < 0) (yy_rt 0) (yy_br (x4 ≤ (v4 - x3)) (yy_cl (mm_X9_startStep x1) (fun r5 => yy_cl (mm_X2_copyAll 13 r5) (fun _ => yy_cl (mm_X2_arrangeFrom r5 13 x2 x3 x4) (fun _ => yy_rt 1)))) (yy_rt 0)))))))
theorem kw_X9_move : yy_wV RX9 yX9_move cX9_move 7 (some .boolean) 4 := ⟨⟨tw_673, tw_674, tw_51, tw_675⟩, by decide +kernel⟩
abbrev rm_X9_move : Room := { frames := 5, cells := 0, slots := 0, locals := 136 }
set_option maxHeartbeats 4000000 in
set_option maxRecDepth 100000 in
theorem ww_X9_move_E {x1 : Int32} {x2 : Int32} {x3 : Int32} {x4 : Int32} {res : Int32 × yy_T} (C : yy_C D κ p m c cX9_move 7 s args RX9) (hr : meth.sig.returnType = (some .boolean)) (hlk : meth.locks = false) (Z : yy_Z D κ ext A s.heap τ H locs) (hl : lv_has ls 7 [(0, .ref (κ 4 + 0)), (1, .int x1), (2, .int x2), (3, .int x3), (4, .int x4)]) (h : mm_X9_move x1 x2 x3 x4 τ = some res) : W p l e rm_X9_move s m args below meth c H locs 0 0 (MQ below (yy_Qi D κ ext A res) args s 0 0 A) (F0 m 0 ls []) := by
  unfold mm_X9_move at h
  refine lv_aload_n C.1.1 C.1.2.1 dX9_move_0 rfl (lv_at hl 0 rfl) ?_
  refine lv_iload_n C.1.1 C.1.2.1 dX9_move_1 rfl (lv_at hl 1 rfl) ?_
  refine lv_iload_n C.1.1 C.1.2.1 dX9_move_2 rfl (lv_at hl 2 rfl) ?_
  refine yy_cVi0 (As := [.int x1, .int x2]) (rest := []) (id := 0) (ci := 9) (q := (RX9, TX9, 11)) C Z (ss_X9_hasLine l D κ ext x1 x2) (by decide) (yy_ent_0 _) rfl tw_567 kw_X9_hasLine ⟨⟨rfl, rfl⟩, ⟨Nat.le_of_ble_eq_true rfl, Nat.le_of_ble_eq_true rfl⟩, Nat.le_of_ble_eq_true rfl, Nat.le_of_ble_eq_true rfl⟩ hl.1 rfl (Nat.le_of_ble_eq_true rfl) dX9_move_3 h (fun r1 τ H locs Z h => ?_)
  refine yy_if_ne (tgt := 11) C dX9_move_6 (by decide) h (fun h => ?_) (fun h => ?_)
  · refine lv_aload_n C.1.1 C.1.2.1 dX9_move_11 rfl (lv_at hl 0 rfl) ?_
    refine lv_iload_n C.1.1 C.1.2.1 dX9_move_12 rfl (lv_at hl 1 rfl) ?_
    refine yy_cVr0 (As := [.int x1]) (rest := []) (id := 0) (ci := 9) (q := (RX9, TX9, 11)) C Z (ss_X9_editionOf l D κ ext x1) (by decide) (yy_ent_0 _) rfl tw_408 kw_X9_editionOf ⟨⟨rfl, rfl⟩, ⟨Nat.le_of_ble_eq_true rfl, Nat.le_of_ble_eq_true rfl⟩, Nat.le_of_ble_eq_true rfl, Nat.le_of_ble_eq_true rfl⟩ hl.1 rfl (Nat.le_of_ble_eq_true rfl) dX9_move_13 h (fun r2 τ H locs hp3 Z h => ?_)
    refine yg_X2_2 C Z hp3 tw_114 dX9_move_16 h (fun v4 h => ?_)
    refine lv_istore (lv' := [(5, .int v4), (0, .ref (κ 4 + 0)), (1, .int x1), (2, .int x2), (3, .int x3), (4, .int x4)]) C.1.1 C.1.2.1 dX9_move_19 hl (by decide) rfl (fun ls hl => ?_)
    refine lv_iload_n C.1.1 C.1.2.1 dX9_move_21 rfl (lv_at hl 4 rfl) ?_
    refine lv_iconst (v := 1) C.1.1 C.1.2.1 dX9_move_22 (by decide) ?_
    refine yy_icmp_lt (tgt := 48) C dX9_move_23 (by decide) h (fun h => ?_) (fun h => ?_)
    · refine lv_iconst (v := 0) C.1.1 C.1.2.1 dX9_move_48 (by decide) ?_
      exact yy_iret C Z hr hlk rfl dX9_move_49 h
    · refine lv_iload_n C.1.1 C.1.2.1 dX9_move_26 rfl (lv_at hl 4 rfl) ?_
      refine lv_iload C.1.1 C.1.2.1 dX9_move_27 (lv_at hl 0 rfl) ?_
      refine lv_iload_n C.1.1 C.1.2.1 dX9_move_29 rfl (lv_at hl 3 rfl) ?_
      refine lv_isub C.1.1 C.1.2.1 dX9_move_30 ?_
      refine yy_icmp_gt (tgt := 48) C dX9_move_31 (by decide) h (fun h => ?_) (fun h => ?_)
      · refine lv_iconst (v := 0) C.1.1 C.1.2.1 dX9_move_48 (by decide) ?_
        exact yy_iret C Z hr hlk rfl dX9_move_49 h
      · refine lv_iload C.1.1 C.1.2.1 dX9_move_34 (lv_at hl 5 rfl) ?_
        refine yy_if_lt (tgt := 48) C dX9_move_36 (by decide) h (fun h => ?_) (fun h => ?_)
        · refine lv_iconst (v := 0) C.1.1 C.1.2.1 dX9_move_48 (by decide) ?_
          exact yy_iret C Z hr hlk rfl dX9_move_49 h
        · refine lv_iload C.1.1 C.1.2.1 dX9_move_39 (lv_at hl 5 rfl) ?_
          refine lv_iload C.1.1 C.1.2.1 dX9_move_41 (lv_at hl 0 rfl) ?_
          refine lv_iload_n C.1.1 C.1.2.1 dX9_move_43 rfl (lv_at hl 4 rfl) ?_
          refine lv_isub C.1.1 C.1.2.1 dX9_move_44 ?_
          refine yy_icmp_le (tgt := 50) C dX9_move_45 (by decide) h (fun h => ?_) (fun h => ?_)
          · refine lv_aload_n C.1.1 C.1.2.1 dX9_move_50 rfl (lv_at hl 1 rfl) ?_
            refine lv_iload_n C.1.1 C.1.2.1 dX9_move_51 rfl (lv_at hl 2 rfl) ?_
            refine yy_cVr0 (As := [.int x1]) (rest := []) (id := 0) (ci := 9) (q := (RX9, TX9, 11)) C Z (ss_X9_startStep l D κ ext x1) (by decide) (yy_ent_0 _) rfl tw_646 kw_X9_startStep ⟨⟨rfl, rfl⟩, ⟨Nat.le_of_ble_eq_true rfl, Nat.le_of_ble_eq_true rfl⟩, Nat.le_of_ble_eq_true rfl, Nat.le_of_ble_eq_true rfl⟩ hl.1 rfl (Nat.le_of_ble_eq_true rfl) dX9_move_52 h (fun r5 τ H locs hp6 Z h => ?_)
            refine lv_astore (lv' := [(6, .ref (κ 4 + r5)), (5, .int v4), (0, .ref (κ 4 + 0)), (1, .int x1), (2, .int x2), (3, .int x3), (4, .int x4)]) C.1.1 C.1.2.1 dX9_move_55 hl (by decide) rfl (fun ls hl => ?_)
            refine lv_aload_n C.1.1 C.1.2.1 dX9_move_57 rfl (lv_at hl 2 rfl) ?_
            refine yg_X9_4 C Z tw_335 dX9_move_58 ?_
            refine lv_aload C.1.1 C.1.2.1 dX9_move_61 (lv_at hl 0 rfl) ?_
            refine yy_cVv0 (As := [.ref (κ 4 + r5)]) (rest := []) (id := 13) (ci := 2) (q := (RX2, TX2, 3)) C Z (ss_X2_copyAll l D κ ext 13 r5 (by decide) hp6) (yy_Eds_lt _ (by decide)) (yy_ent_Eds (by decide) _) rfl tw_412 kw_X2_copyAll ⟨⟨rfl, rfl⟩, ⟨Nat.le_of_ble_eq_true rfl, Nat.le_of_ble_eq_true rfl⟩, Nat.le_of_ble_eq_true rfl, Nat.le_of_ble_eq_true rfl⟩ hl.1 rfl (Nat.le_of_ble_eq_true rfl) dX9_move_63 h (fun τ H locs Z h => ?_)
            refine lv_aload C.1.1 C.1.2.1 dX9_move_66 (lv_at hl 0 rfl) ?_
            refine lv_aload_n C.1.1 C.1.2.1 dX9_move_68 rfl (lv_at hl 2 rfl) ?_
            refine yg_X9_4 C Z tw_335 dX9_move_69 ?_
            refine lv_iload_n C.1.1 C.1.2.1 dX9_move_72 rfl (lv_at hl 4 rfl) ?_
            refine lv_iload_n C.1.1 C.1.2.1 dX9_move_73 rfl (lv_at hl 5 rfl) ?_
            refine lv_iload C.1.1 C.1.2.1 dX9_move_74 (lv_at hl 6 rfl) ?_
            refine yy_cVv0 (As := [.ref (κ 4 + 13), .int x2, .int x3, .int x4]) (rest := []) (id := r5) (ci := 2) (q := (RX2, TX2, 3)) C Z (ss_X2_arrangeFrom l D κ ext r5 13 x2 x3 x4 hp6 (by decide)) (yy_Eds_lt _ hp6) (yy_ent_Eds hp6 _) rfl tw_676 kw_X2_arrangeFrom ⟨⟨rfl, rfl⟩, ⟨Nat.le_of_ble_eq_true rfl, Nat.le_of_ble_eq_true rfl⟩, Nat.le_of_ble_eq_true rfl, Nat.le_of_ble_eq_true rfl⟩ hl.1 rfl (Nat.le_of_ble_eq_true rfl) dX9_move_76 h (fun τ H locs Z h => ?_)
            refine lv_iconst (v := 1) C.1.1 C.1.2.1 dX9_move_79 (by decide) ?_
            exact yy_iret C Z hr hlk rfl dX9_move_80 h
          · refine lv_iconst (v := 0) C.1.1 C.1.2.1 dX9_move_48 (by decide) ?_
            exact yy_iret C Z hr hlk rfl dX9_move_49 h
  · refine lv_iconst (v := 0) C.1.1 C.1.2.1 dX9_move_9 (by decide) ?_
    exact yy_iret C Z hr hlk rfl dX9_move_10 h
set_option maxHeartbeats 4000000 in
set_option maxRecDepth 100000 in
theorem ss_X9_move (l : Launch) (D : va_G) (κ : Nat → Nat) (ext : va_W) (x1 : Int32) (x2 : Int32) (x3 : Int32) (x4 : Int32) : yy_Mi l D κ ext yX9_move cX9_move 7 (some .boolean) rm_X9_move 0 0 [.ref (κ 4 + 0), .int x1, .int x2, .int x3, .int x4] (mm_X9_move x1 x2 x3 x4) := by
  intro sz τ res h
  refine yy_ofW (by decide) (Nat.le_of_ble_eq_true rfl) ?_
  intro p e s m args below meth c ls hsz E
  obtain ⟨C, hr, hlk, Z, hl⟩ := E
  subst hsz
  exact ww_X9_move_E  C hr hlk Z hl h
/-! MovedLines.take()I -/
noncomputable def mm_X9_take : yy_M Int32 :=
  yy_cl (mm_X9_startStep 0) (fun r1 => yy_cl (mm_X2_copyAll r1 10) (fun _ => yy_rF 7 2 fun v3 => yy_rt v3))
theorem kw_X9_take : yy_wV RX9 yX9_take cX9_take 1 (some .int) 0 := ⟨⟨tw_684, tw_685, tw_51, tw_686⟩, by decide +kernel⟩
abbrev rm_X9_take : Room := { frames := 5, cells := 0, slots := 0, locals := 136 }
set_option maxHeartbeats 4000000 in
set_option maxRecDepth 100000 in
theorem ww_X9_take_E {res : Int32 × yy_T} (C : yy_C D κ p m c cX9_take 1 s args RX9) (hr : meth.sig.returnType = (some .int)) (hlk : meth.locks = false) (Z : yy_Z D κ ext A s.heap τ H locs) (hl : lv_has ls 1 [(0, .ref (κ 4 + 0))]) (h : mm_X9_take  τ = some res) : W p l e rm_X9_take s m args below meth c H locs 0 0 (MQ below (yy_Qi D κ ext A res) args s 0 0 A) (F0 m 0 ls []) := by
  unfold mm_X9_take at h
  refine lv_aload_n C.1.1 C.1.2.1 dX9_take_0 rfl (lv_at hl 0 rfl) ?_
  refine lv_iconst (v := 0) C.1.1 C.1.2.1 dX9_take_1 (by decide) ?_
  refine yy_cVr0 (As := [.int 0]) (rest := []) (id := 0) (ci := 9) (q := (RX9, TX9, 11)) C Z (ss_X9_startStep l D κ ext 0) (by decide) (yy_ent_0 _) rfl tw_646 kw_X9_startStep ⟨⟨rfl, rfl⟩, ⟨Nat.le_of_ble_eq_true rfl, Nat.le_of_ble_eq_true rfl⟩, Nat.le_of_ble_eq_true rfl, Nat.le_of_ble_eq_true rfl⟩ hl.1 rfl (Nat.le_of_ble_eq_true rfl) dX9_take_2 h (fun r1 τ H locs hp2 Z h => ?_)
  refine lv_aload_n C.1.1 C.1.2.1 dX9_take_5 rfl (lv_at hl 0 rfl) ?_
  refine yg_X9_3 C Z tw_334 dX9_take_6 ?_
  refine yy_cVv0 (As := [.ref (κ 4 + 10)]) (rest := []) (id := r1) (ci := 2) (q := (RX2, TX2, 3)) C Z (ss_X2_copyAll l D κ ext r1 10 hp2 (by decide)) (yy_Eds_lt _ hp2) (yy_ent_Eds hp2 _) rfl tw_412 kw_X2_copyAll ⟨⟨rfl, rfl⟩, ⟨Nat.le_of_ble_eq_true rfl, Nat.le_of_ble_eq_true rfl⟩, Nat.le_of_ble_eq_true rfl, Nat.le_of_ble_eq_true rfl⟩ hl.1 rfl (Nat.le_of_ble_eq_true rfl) dX9_take_9 h (fun τ H locs Z h => ?_)
  refine lv_aload_n C.1.1 C.1.2.1 dX9_take_12 rfl (lv_at hl 0 rfl) ?_
  refine yg_X9_2 C Z tw_333 dX9_take_13 ?_
  refine yg_X2_2 C Z (by decide) tw_114 dX9_take_16 h (fun v3 h => ?_)
  exact yy_iret C Z hr hlk rfl dX9_take_19 h
set_option maxHeartbeats 4000000 in
set_option maxRecDepth 100000 in
theorem ss_X9_take (l : Launch) (D : va_G) (κ : Nat → Nat) (ext : va_W) : yy_Mi l D κ ext yX9_take cX9_take 1 (some .int) rm_X9_take 0 0 [.ref (κ 4 + 0)] (mm_X9_take ) := by
  intro sz τ res h
  refine yy_ofW (by decide) (Nat.le_of_ble_eq_true rfl) ?_
  intro p e s m args below meth c ls hsz E
  obtain ⟨C, hr, hlk, Z, hl⟩ := E
  subst hsz
  exact ww_X9_take_E  C hr hlk Z hl h
/-! MovedLines.undo()I -/
noncomputable def mm_X9_undo : yy_M Int32 :=
  yy_rF 16 2 fun v1 => yy_br (v1 = 0) (yy_rt ((-1))) (yy_cl (mm_X5_stepBack ) (fun r2 => yy_rA 18 10 r2 fun v3 => yy_cl (mm_X9_editionOf v3) (fun r4 => yy_ck (yy_in r2 10 = true) (yy_cl (mm_X2_copyAll r4 (19 + 3 * Int32.toNatClampNeg r2)) (fun _ => yy_wF 0 10 1 (yy_rF 16 2 fun v7 => yy_rt v7))))))
theorem kw_X9_undo : yy_wV RX9 yX9_undo cX9_undo 2 (some .int) 0 := ⟨⟨tw_688, tw_689, tw_51, tw_690⟩, by decide +kernel⟩
abbrev rm_X9_undo : Room := { frames := 3, cells := 0, slots := 0, locals := 93 }
set_option maxHeartbeats 4000000 in
set_option maxRecDepth 100000 in
theorem ww_X9_undo_E {res : Int32 × yy_T} (C : yy_C D κ p m c cX9_undo 2 s args RX9) (hr : meth.sig.returnType = (some .int)) (hlk : meth.locks = false) (Z : yy_Z D κ ext A s.heap τ H locs) (hl : lv_has ls 2 [(0, .ref (κ 4 + 0))]) (h : mm_X9_undo  τ = some res) : W p l e rm_X9_undo s m args below meth c H locs 0 0 (MQ below (yy_Qi D κ ext A res) args s 0 0 A) (F0 m 0 ls []) := by
  unfold mm_X9_undo at h
  refine lv_aload_n C.1.1 C.1.2.1 dX9_undo_0 rfl (lv_at hl 0 rfl) ?_
  refine yg_X9_5 C Z tw_336 dX9_undo_1 ?_
  refine yg_X5_2 C Z tw_159 dX9_undo_4 h (fun v1 h => ?_)
  refine yy_if_ne (tgt := 12) C dX9_undo_7 (by decide) h (fun h => ?_) (fun h => ?_)
  · refine lv_aload_n C.1.1 C.1.2.1 dX9_undo_12 rfl (lv_at hl 0 rfl) ?_
    refine yg_X9_5 C Z tw_336 dX9_undo_13 ?_
    refine yy_cVi0 (As := []) (rest := []) (id := 16) (ci := 5) (q := (RX5, TX5, 4)) C Z (ss_X5_stepBack l D κ ext ) (by decide) (yy_ent_16 _) rfl tw_691 kw_X5_stepBack ⟨⟨rfl, rfl⟩, ⟨Nat.le_of_ble_eq_true rfl, Nat.le_of_ble_eq_true rfl⟩, Nat.le_of_ble_eq_true rfl, Nat.le_of_ble_eq_true rfl⟩ hl.1 rfl (Nat.le_of_ble_eq_true rfl) dX9_undo_16 h (fun r2 τ H locs Z h => ?_)
    refine lv_istore_n (lv' := [(1, .int r2), (0, .ref (κ 4 + 0))]) C.1.1 C.1.2.1 dX9_undo_19 rfl hl (by decide) rfl (fun ls hl => ?_)
    refine lv_aload_n C.1.1 C.1.2.1 dX9_undo_20 rfl (lv_at hl 1 rfl) ?_
    refine lv_aload_n C.1.1 C.1.2.1 dX9_undo_21 rfl (lv_at hl 1 rfl) ?_
    refine yg_X9_5 C Z tw_336 dX9_undo_22 ?_
    refine yg_X5_1 C Z tw_157 dX9_undo_25 ?_
    refine lv_iload_n C.1.1 C.1.2.1 dX9_undo_28 rfl (lv_at hl 0 rfl) ?_
    refine yy_iald C Z (by decide) rfl dX9_undo_29 h (fun v3 h => ?_)
    refine yy_cVr0 (As := [.int v3]) (rest := []) (id := 0) (ci := 9) (q := (RX9, TX9, 11)) C Z (ss_X9_editionOf l D κ ext v3) (by decide) (yy_ent_0 _) rfl tw_408 kw_X9_editionOf ⟨⟨rfl, rfl⟩, ⟨Nat.le_of_ble_eq_true rfl, Nat.le_of_ble_eq_true rfl⟩, Nat.le_of_ble_eq_true rfl, Nat.le_of_ble_eq_true rfl⟩ hl.1 rfl (Nat.le_of_ble_eq_true rfl) dX9_undo_30 h (fun r4 τ H locs hp5 Z h => ?_)
    refine lv_aload_n C.1.1 C.1.2.1 dX9_undo_33 rfl (lv_at hl 1 rfl) ?_
    refine yg_X9_5 C Z tw_336 dX9_undo_34 ?_
    refine yg_X5_0 C Z tw_155 dX9_undo_37 ?_
    refine lv_iload_n C.1.1 C.1.2.1 dX9_undo_40 rfl (lv_at hl 0 rfl) ?_
    refine yy_aaldE C Z dX9_undo_41 h (fun hn6 h => ?_)
    refine yy_cVv0 (As := [.ref (κ 4 + (19 + 3 * Int32.toNatClampNeg r2))]) (rest := []) (id := r4) (ci := 2) (q := (RX2, TX2, 3)) C Z (ss_X2_copyAll l D κ ext r4 (19 + 3 * Int32.toNatClampNeg r2) hp5 (yy_P0 _ hn6)) (yy_Eds_lt _ hp5) (yy_ent_Eds hp5 _) rfl tw_412 kw_X2_copyAll ⟨⟨rfl, rfl⟩, ⟨Nat.le_of_ble_eq_true rfl, Nat.le_of_ble_eq_true rfl⟩, Nat.le_of_ble_eq_true rfl, Nat.le_of_ble_eq_true rfl⟩ hl.1 rfl (Nat.le_of_ble_eq_true rfl) dX9_undo_42 h (fun τ H locs Z h => ?_)
    refine lv_aload_n C.1.1 C.1.2.1 dX9_undo_45 rfl (lv_at hl 1 rfl) ?_
    refine lv_iconst (v := 1) C.1.1 C.1.2.1 dX9_undo_46 (by decide) ?_
    refine yp_X9_10 C Z (Or.inr rfl) tw_341 dX9_undo_47 h (fun H locs τ Z h => ?_)
    refine lv_aload_n C.1.1 C.1.2.1 dX9_undo_50 rfl (lv_at hl 1 rfl) ?_
    refine yg_X9_5 C Z tw_336 dX9_undo_51 ?_
    refine yg_X5_2 C Z tw_159 dX9_undo_54 h (fun v7 h => ?_)
    exact yy_iret C Z hr hlk rfl dX9_undo_57 h
  · refine lv_iconst (v := (-1)) C.1.1 C.1.2.1 dX9_undo_10 (by decide) ?_
    exact yy_iret C Z hr hlk rfl dX9_undo_11 h
set_option maxHeartbeats 4000000 in
set_option maxRecDepth 100000 in
theorem ss_X9_undo (l : Launch) (D : va_G) (κ : Nat → Nat) (ext : va_W) : yy_Mi l D κ ext yX9_undo cX9_undo 2 (some .int) rm_X9_undo 0 0 [.ref (κ 4 + 0)] (mm_X9_undo ) := by
  intro sz τ res h
  refine yy_ofW (by decide) (Nat.le_of_ble_eq_true rfl) ?_
  intro p e s m args below meth c ls hsz E
  obtain ⟨C, hr, hlk, Z, hl⟩ := E
  subst hsz
  exact ww_X9_undo_E  C hr hlk Z hl h
/-! MovedLinesModel.thrown()I -/
noncomputable def mm_X10_thrown : yy_M Int32 :=
  yy_rF 112 0 fun v1 => yy_rt v1
theorem kw_X10_thrown : yy_wV RX10 yX10_thrown cX10_thrown 1 (some .int) 0 := ⟨⟨tw_771, tw_772, tw_61, tw_773⟩, by decide +kernel⟩
abbrev rm_X10_thrown : Room := { frames := 0, cells := 0, slots := 0, locals := 0 }
set_option maxHeartbeats 4000000 in
set_option maxRecDepth 100000 in
theorem ww_X10_thrown_E {res : Int32 × yy_T} (C : yy_C D κ p m c cX10_thrown 1 s args RX10) (hr : meth.sig.returnType = (some .int)) (hlk : meth.locks = false) (Z : yy_Z D κ ext A s.heap τ H locs) (hl : lv_has ls 1 [(0, .ref (κ 4 + 112))]) (h : mm_X10_thrown  τ = some res) : W p l e rm_X10_thrown s m args below meth c H locs 0 0 (MQ below (yy_Qi D κ ext A res) args s 0 0 A) (F0 m 0 ls []) := by
  unfold mm_X10_thrown at h
  refine lv_aload_n C.1.1 C.1.2.1 dX10_thrown_0 rfl (lv_at hl 0 rfl) ?_
  refine yg_X10_0 C Z tw_792 dX10_thrown_1 h (fun v1 h => ?_)
  exact yy_iret C Z hr hlk rfl dX10_thrown_4 h
set_option maxHeartbeats 4000000 in
set_option maxRecDepth 100000 in
theorem ss_X10_thrown (l : Launch) (D : va_G) (κ : Nat → Nat) (ext : va_W) : yy_Mi l D κ ext yX10_thrown cX10_thrown 1 (some .int) rm_X10_thrown 0 0 [.ref (κ 4 + 112)] (mm_X10_thrown ) := by
  intro sz τ res h
  refine yy_ofW (by decide) (Nat.le_of_ble_eq_true rfl) ?_
  intro p e s m args below meth c ls hsz E
  obtain ⟨C, hr, hlk, Z, hl⟩ := E
  subst hsz
  exact ww_X10_thrown_E  C hr hlk Z hl h
/-! MovedLinesModel.refuse()I -/
noncomputable def mm_X10_refuse : yy_M Int32 :=
  yy_wF 112 0 1 (yy_rt 0)
theorem kw_X10_refuse : yy_wV RX10 yX10_refuse cX10_refuse 1 (some .int) 0 := ⟨⟨tw_963, tw_43, tw_61, tw_964⟩, by decide +kernel⟩
abbrev rm_X10_refuse : Room := { frames := 0, cells := 0, slots := 0, locals := 0 }
set_option maxHeartbeats 4000000 in
set_option maxRecDepth 100000 in
theorem ww_X10_refuse_E {res : Int32 × yy_T} (C : yy_C D κ p m c cX10_refuse 1 s args RX10) (hr : meth.sig.returnType = (some .int)) (hlk : meth.locks = false) (Z : yy_Z D κ ext A s.heap τ H locs) (hl : lv_has ls 1 [(0, .ref (κ 4 + 112))]) (h : mm_X10_refuse  τ = some res) : W p l e rm_X10_refuse s m args below meth c H locs 0 0 (MQ below (yy_Qi D κ ext A res) args s 0 0 A) (F0 m 0 ls []) := by
  unfold mm_X10_refuse at h
  refine lv_aload_n C.1.1 C.1.2.1 dX10_refuse_0 rfl (lv_at hl 0 rfl) ?_
  refine lv_iconst (v := 1) C.1.1 C.1.2.1 dX10_refuse_1 (by decide) ?_
  refine yp_X10_0 C Z tw_792 dX10_refuse_2 h (fun H locs τ Z h => ?_)
  refine lv_iconst (v := 0) C.1.1 C.1.2.1 dX10_refuse_5 (by decide) ?_
  exact yy_iret C Z hr hlk rfl dX10_refuse_6 h
set_option maxHeartbeats 4000000 in
set_option maxRecDepth 100000 in
theorem ss_X10_refuse (l : Launch) (D : va_G) (κ : Nat → Nat) (ext : va_W) : yy_Mi l D κ ext yX10_refuse cX10_refuse 1 (some .int) rm_X10_refuse 0 0 [.ref (κ 4 + 112)] (mm_X10_refuse ) := by
  intro sz τ res h
  refine yy_ofW (by decide) (Nat.le_of_ble_eq_true rfl) ?_
  intro p e s m args below meth c ls hsz E
  obtain ⟨C, hr, hlk, Z, hl⟩ := E
  subst hsz
  exact ww_X10_refuse_E  C hr hlk Z hl h
/-! MovedLinesModel.isIn(III)Z -/
noncomputable def mm_X10_isIn (x0 : Int32) (x1 : Int32) (x2 : Int32) : yy_M Int32 :=
  yy_br (x0 < x1) (yy_rt 0) (yy_br (x2 < x0) (yy_rt 0) (yy_rt 1))
theorem kw_X10_isIn : yy_wS RX10 yX10_isIn cX10_isIn 3 (some .boolean) 3 := ⟨⟨tw_861, tw_61, tw_862⟩, by decide +kernel⟩
abbrev rm_X10_isIn : Room := { frames := 0, cells := 0, slots := 0, locals := 0 }
set_option maxHeartbeats 4000000 in
set_option maxRecDepth 100000 in
theorem ww_X10_isIn_E {x0 : Int32} {x1 : Int32} {x2 : Int32} {res : Int32 × yy_T} (C : yy_C D κ p m c cX10_isIn 3 s args RX10) (hr : meth.sig.returnType = (some .boolean)) (hlk : meth.locks = false) (Z : yy_Z D κ ext A s.heap τ H locs) (hl : lv_has ls 3 [(0, .int x0), (1, .int x1), (2, .int x2)]) (h : mm_X10_isIn x0 x1 x2 τ = some res) : W p l e rm_X10_isIn s m args below meth c H locs 0 0 (MQ below (yy_Qi D κ ext A res) args s 0 0 A) (F0 m 0 ls []) := by
  unfold mm_X10_isIn at h
  refine lv_iload_n C.1.1 C.1.2.1 dX10_isIn_0 rfl (lv_at hl 0 rfl) ?_
  refine lv_iload_n C.1.1 C.1.2.1 dX10_isIn_1 rfl (lv_at hl 1 rfl) ?_
  refine yy_icmp_lt (tgt := 14) C dX10_isIn_2 (by decide) h (fun h => ?_) (fun h => ?_)
  · refine lv_iconst (v := 0) C.1.1 C.1.2.1 dX10_isIn_14 (by decide) ?_
    exact yy_iret C Z hr hlk rfl dX10_isIn_15 h
  · refine lv_iload_n C.1.1 C.1.2.1 dX10_isIn_5 rfl (lv_at hl 0 rfl) ?_
    refine lv_iload_n C.1.1 C.1.2.1 dX10_isIn_6 rfl (lv_at hl 2 rfl) ?_
    refine yy_icmp_gt (tgt := 14) C dX10_isIn_7 (by decide) h (fun h => ?_) (fun h => ?_)
    · refine lv_iconst (v := 0) C.1.1 C.1.2.1 dX10_isIn_14 (by decide) ?_
      exact yy_iret C Z hr hlk rfl dX10_isIn_15 h
    · refine lv_iconst (v := 1) C.1.1 C.1.2.1 dX10_isIn_10 (by decide) ?_
      refine lv_goto (tgt := 15) C.1.1 C.1.2.1 dX10_isIn_11 (by decide) ?_
      exact yy_iret C Z hr hlk rfl dX10_isIn_15 h
set_option maxHeartbeats 4000000 in
set_option maxRecDepth 100000 in
theorem ss_X10_isIn (l : Launch) (D : va_G) (κ : Nat → Nat) (ext : va_W) (x0 : Int32) (x1 : Int32) (x2 : Int32) : yy_Mi l D κ ext yX10_isIn cX10_isIn 3 (some .boolean) rm_X10_isIn 0 0 [.int x0, .int x1, .int x2] (mm_X10_isIn x0 x1 x2) := by
  intro sz τ res h
  refine yy_ofW (by decide) (Nat.le_of_ble_eq_true rfl) ?_
  intro p e s m args below meth c ls hsz E
  obtain ⟨C, hr, hlk, Z, hl⟩ := E
  subst hsz
  exact ww_X10_isIn_E  C hr hlk Z hl h
/-! MovedLinesModel.lays(I)V -/
noncomputable def mm_X10_lays_3b (x1 : Int32) (x2 : Int32) : yy_M ((Int32) ⊕ ((Unit))) :=
  yy_br (x2 < 0) (yy_rt (.inr ())) (yy_rF 112 2 fun v1 => yy_wA 113 640 v1 (((Int32.toUInt32 x1 >>> (Int32.toUInt32 x2 &&& Int32.toUInt32 31)).toInt32) &&& 255) (yy_rF 112 2 fun v2 => yy_wF 112 2 (v2 + 1) (yy_rt (.inl (x2 + (-8))))))
noncomputable def mm_X10_lays_39 : yy_M Unit :=
  yy_rt ()
noncomputable def mm_X10_lays_3 (x1 : Int32) (x2 : Int32) : yy_M Unit :=
  yy_cl (yy_lp (fun (w : Int32) => mm_X10_lays_3b x1 w) x2) (fun w => mm_X10_lays_39 )
noncomputable def mm_X10_lays (x1 : Int32) : yy_M Unit :=
  mm_X10_lays_3 x1 24
theorem kw_X10_lays : yy_wV RX10 yX10_lays cX10_lays 3 none 1 := ⟨⟨tw_780, tw_22, tw_61, tw_782⟩, by decide +kernel⟩
abbrev rm_X10_lays : Room := { frames := 0, cells := 0, slots := 0, locals := 0 }
set_option maxHeartbeats 4000000 in
set_option maxRecDepth 100000 in
theorem ww_X10_lays_3b {x1 : Int32} {x2 : Int32} {res : ((Int32) ⊕ ((Unit))) × yy_T} {Q : State → Prop} (C : yy_C D κ p m c cX10_lays 3 s args RX10) (Z : yy_Z D κ ext A s.heap τ H locs) (hl : lv_has ls 3 [(0, .ref (κ 4 + 112)), (1, .int x1), (2, .int x2)]) (h : mm_X10_lays_3b x1 x2 τ = some res)
    (kI : ∀ (w : Int32) (τ1 : yy_T) (H1 : Heap) (locs1 : List Loc) (ls1 : Array Slot), res = (.inl w, τ1) → yy_Z D κ ext A s.heap τ1 H1 locs1 → lv_has ls1 3 [(0, .ref (κ 4 + 112)), (1, .int x1), (2, .int w)] → W p l e rm_X10_lays s m args below meth c H1 locs1 0 0 Q (F0 m 3 ls1 []))
    (kR0 : ∀ (w : Unit) (τ1 : yy_T) (H1 : Heap) (locs1 : List Loc) (ls1 : Array Slot), res = (.inr w, τ1) → yy_Z D κ ext A s.heap τ1 H1 locs1 → lv_has ls1 3 [] → W p l e rm_X10_lays s m args below meth c H1 locs1 0 0 Q (F0 m 39 ls1 [])) : W p l e rm_X10_lays s m args below meth c H locs 0 0 Q (F0 m 3 ls []) := by
  unfold mm_X10_lays_3b at h
  refine lv_iload_n C.1.1 C.1.2.1 dX10_lays_3 rfl (lv_at hl 2 rfl) ?_
  refine yy_if_lt (tgt := 39) C dX10_lays_4 (by decide) h (fun h => ?_) (fun h => ?_)
  · exact kR0 _ _ _ _ _ (yy_rt_of h) Z (lv_sub hl [] rfl)
  · refine lv_aload_n C.1.1 C.1.2.1 dX10_lays_7 rfl (lv_at hl 0 rfl) ?_
    refine yg_X10_1 C Z tw_793 dX10_lays_8 ?_
    refine lv_aload_n C.1.1 C.1.2.1 dX10_lays_11 rfl (lv_at hl 0 rfl) ?_
    refine yg_X10_2 C Z tw_794 dX10_lays_12 h (fun v1 h => ?_)
    refine lv_iload_n C.1.1 C.1.2.1 dX10_lays_15 rfl (lv_at hl 1 rfl) ?_
    refine lv_iload_n C.1.1 C.1.2.1 dX10_lays_16 rfl (lv_at hl 2 rfl) ?_
    refine lv_iushr C.1.1 C.1.2.1 dX10_lays_17 rfl ?_
    refine lv_sipush (v := 255) C.1.1 C.1.2.1 dX10_lays_18 (by decide) ?_
    refine lv_iand C.1.1 C.1.2.1 dX10_lays_21 ?_
    refine yy_iast C Z (by decide) rfl dX10_lays_22 h (fun H locs τ Z h => ?_)
    refine lv_aload_n C.1.1 C.1.2.1 dX10_lays_23 rfl (lv_at hl 0 rfl) ?_
    refine lv_dup C.1.1 C.1.2.1 dX10_lays_24 rfl ?_
    refine yg_X10_2 C Z tw_794 dX10_lays_25 h (fun v2 h => ?_)
    refine lv_iconst (v := 1) C.1.1 C.1.2.1 dX10_lays_28 (by decide) ?_
    refine lv_iadd C.1.1 C.1.2.1 dX10_lays_29 ?_
    refine yp_X10_2 C Z tw_794 dX10_lays_30 h (fun H locs τ Z h => ?_)
    refine lv_iinc (v := x2 + (-8)) (lv' := [(2, .int (x2 + (-8))), (0, .ref (κ 4 + 112)), (1, .int x1)]) C.1.1 C.1.2.1 dX10_lays_33 hl (k := 2) rfl (by rfl) (by decide) rfl (fun ls hl => ?_)
    refine lv_goto (tgt := 3) C.1.1 C.1.2.1 dX10_lays_36 (by decide) ?_
    exact kI _ _ _ _ _ (yy_rt_of h) Z (lv_sub hl [1, 2, 0] rfl)
set_option maxHeartbeats 4000000 in
set_option maxRecDepth 100000 in
theorem ww_X10_lays_39 {res : Unit × yy_T} (C : yy_C D κ p m c cX10_lays 3 s args RX10) (hr : meth.sig.returnType = none) (hlk : meth.locks = false) (Z : yy_Z D κ ext A s.heap τ H locs) (hl : lv_has ls 3 []) (h : mm_X10_lays_39  τ = some res) : W p l e rm_X10_lays s m args below meth c H locs 0 0 (MQ below (yy_Qv D κ ext A res) args s 0 0 A) (F0 m 39 ls []) := by
  unfold mm_X10_lays_39 at h
  exact yy_vret C Z hr hlk dX10_lays_39 h
set_option maxHeartbeats 4000000 in
set_option maxRecDepth 100000 in
theorem ww_X10_lays_3 {x1 : Int32} {x2 : Int32} {res : Unit × yy_T} (C : yy_C D κ p m c cX10_lays 3 s args RX10) (hr : meth.sig.returnType = none) (hlk : meth.locks = false) (Z : yy_Z D κ ext A s.heap τ H locs) (hl : lv_has ls 3 [(0, .ref (κ 4 + 112)), (1, .int x1), (2, .int x2)]) (h : mm_X10_lays_3 x1 x2 τ = some res) : W p l e rm_X10_lays s m args below meth c H locs 0 0 (MQ below (yy_Qv D κ ext A res) args s 0 0 A) (F0 m 3 ls []) := by
  unfold mm_X10_lays_3 at h
  refine yy_loop h (fun (w : Int32) (τ : yy_T) => ∀ (H : Heap) (locs : List Loc) (ls : Array Slot), yy_Z D κ ext A s.heap τ H locs → lv_has ls 3 [(0, .ref (κ 4 + 112)), (1, .int x1), (2, .int w)] → W p l e rm_X10_lays s m args below meth c H locs 0 0 (MQ below (yy_Qv D κ ext A res) args s 0 0 A) (F0 m 3 ls [])) ?_ H locs ls Z hl
  intro w τ y hy hI hX H locs ls Z hl
  refine ww_X10_lays_3b  C Z hl hy (fun w τ H locs ls ey Z hl => hI w τ ey H locs ls Z hl) (fun w τ H locs ls ey Z hl => ?_)
  · have h := hX _ _ ey
    exact ww_X10_lays_39  C hr hlk Z (lv_sub hl [] rfl) h
set_option maxHeartbeats 4000000 in
set_option maxRecDepth 100000 in
theorem ww_X10_lays_E {x1 : Int32} {res : Unit × yy_T} (C : yy_C D κ p m c cX10_lays 3 s args RX10) (hr : meth.sig.returnType = none) (hlk : meth.locks = false) (Z : yy_Z D κ ext A s.heap τ H locs) (hl : lv_has ls 3 [(0, .ref (κ 4 + 112)), (1, .int x1)]) (h : mm_X10_lays x1 τ = some res) : W p l e rm_X10_lays s m args below meth c H locs 0 0 (MQ below (yy_Qv D κ ext A res) args s 0 0 A) (F0 m 0 ls []) := by
  unfold mm_X10_lays at h
  refine lv_bipush (v := 24) C.1.1 C.1.2.1 dX10_lays_0 (by decide) ?_
  refine lv_istore_n (lv' := [(2, .int 24), (0, .ref (κ 4 + 112)), (1, .int x1)]) C.1.1 C.1.2.1 dX10_lays_2 rfl hl (by decide) rfl (fun ls hl => ?_)
  exact ww_X10_lays_3  C hr hlk Z (lv_sub hl [1, 2, 0] rfl) h
set_option maxHeartbeats 4000000 in
set_option maxRecDepth 100000 in
theorem ss_X10_lays (l : Launch) (D : va_G) (κ : Nat → Nat) (ext : va_W) (x1 : Int32) : yy_Mv l D κ ext yX10_lays cX10_lays 3 none rm_X10_lays 0 0 [.ref (κ 4 + 112), .int x1] (mm_X10_lays x1) := by
  intro sz τ res h
  refine yy_ofW (by decide) (Nat.le_of_ble_eq_true rfl) ?_
  intro p e s m args below meth c ls hsz E
  obtain ⟨C, hr, hlk, Z, hl⟩ := E
  subst hsz
  exact ww_X10_lays_E  C hr hlk Z hl h
/-! MovedLinesModel.feed(IIIII)I -/
noncomputable def mm_X10_feed (x1 : Int32) (x2 : Int32) (x3 : Int32) (x4 : Int32) (x5 : Int32) : yy_M Int32 :=
  yy_wF 112 0 0 (yy_rF 112 2 fun v1 => yy_br ((v1 + 20) ≤ 640) (yy_cl (mm_X10_lays x1) (fun _ => yy_cl (mm_X10_lays x2) (fun _ => yy_cl (mm_X10_lays x3) (fun _ => yy_cl (mm_X10_lays x4) (fun _ => yy_cl (mm_X10_lays x5) (fun _ => yy_rF 112 2 fun v2 => yy_rt v2)))))) (yy_rt ((-1))))
theorem kw_X10_feed : yy_wV RX10 yX10_feed cX10_feed 6 (some .int) 5 := ⟨⟨tw_775, tw_776, tw_61, tw_777⟩, by decide +kernel⟩
abbrev rm_X10_feed : Room := { frames := 1, cells := 0, slots := 0, locals := 22 }
set_option maxHeartbeats 4000000 in
set_option maxRecDepth 100000 in
theorem ww_X10_feed_E {x1 : Int32} {x2 : Int32} {x3 : Int32} {x4 : Int32} {x5 : Int32} {res : Int32 × yy_T} (C : yy_C D κ p m c cX10_feed 6 s args RX10) (hr : meth.sig.returnType = (some .int)) (hlk : meth.locks = false) (Z : yy_Z D κ ext A s.heap τ H locs) (hl : lv_has ls 6 [(0, .ref (κ 4 + 112)), (1, .int x1), (2, .int x2), (3, .int x3), (4, .int x4), (5, .int x5)]) (h : mm_X10_feed x1 x2 x3 x4 x5 τ = some res) : W p l e rm_X10_feed s m args below meth c H locs 0 0 (MQ below (yy_Qi D κ ext A res) args s 0 0 A) (F0 m 0 ls []) := by
  unfold mm_X10_feed at h
  refine lv_aload_n C.1.1 C.1.2.1 dX10_feed_0 rfl (lv_at hl 0 rfl) ?_
  refine lv_iconst (v := 0) C.1.1 C.1.2.1 dX10_feed_1 (by decide) ?_
  refine yp_X10_0 C Z tw_792 dX10_feed_2 h (fun H locs τ Z h => ?_)
  refine lv_aload_n C.1.1 C.1.2.1 dX10_feed_5 rfl (lv_at hl 0 rfl) ?_
  refine yg_X10_2 C Z tw_794 dX10_feed_6 h (fun v1 h => ?_)
  refine lv_bipush (v := 20) C.1.1 C.1.2.1 dX10_feed_9 (by decide) ?_
  refine lv_iadd C.1.1 C.1.2.1 dX10_feed_11 ?_
  refine lv_sipush (v := 640) C.1.1 C.1.2.1 dX10_feed_12 (by decide) ?_
  refine yy_icmp_le (tgt := 20) C dX10_feed_15 (by decide) h (fun h => ?_) (fun h => ?_)
  · refine lv_aload_n C.1.1 C.1.2.1 dX10_feed_20 rfl (lv_at hl 0 rfl) ?_
    refine lv_iload_n C.1.1 C.1.2.1 dX10_feed_21 rfl (lv_at hl 1 rfl) ?_
    refine yy_cVv0 (As := [.int x1]) (rest := []) (id := 112) (ci := 10) (q := (RX10, TX10, 20)) C Z (ss_X10_lays l D κ ext x1) (by decide) (yy_ent_112 _) rfl tw_778 kw_X10_lays ⟨⟨rfl, rfl⟩, ⟨Nat.le_of_ble_eq_true rfl, Nat.le_of_ble_eq_true rfl⟩, Nat.le_of_ble_eq_true rfl, Nat.le_of_ble_eq_true rfl⟩ hl.1 rfl (Nat.le_of_ble_eq_true rfl) dX10_feed_22 h (fun τ H locs Z h => ?_)
    refine lv_aload_n C.1.1 C.1.2.1 dX10_feed_25 rfl (lv_at hl 0 rfl) ?_
    refine lv_iload_n C.1.1 C.1.2.1 dX10_feed_26 rfl (lv_at hl 2 rfl) ?_
    refine yy_cVv0 (As := [.int x2]) (rest := []) (id := 112) (ci := 10) (q := (RX10, TX10, 20)) C Z (ss_X10_lays l D κ ext x2) (by decide) (yy_ent_112 _) rfl tw_778 kw_X10_lays ⟨⟨rfl, rfl⟩, ⟨Nat.le_of_ble_eq_true rfl, Nat.le_of_ble_eq_true rfl⟩, Nat.le_of_ble_eq_true rfl, Nat.le_of_ble_eq_true rfl⟩ hl.1 rfl (Nat.le_of_ble_eq_true rfl) dX10_feed_27 h (fun τ H locs Z h => ?_)
    refine lv_aload_n C.1.1 C.1.2.1 dX10_feed_30 rfl (lv_at hl 0 rfl) ?_
    refine lv_iload_n C.1.1 C.1.2.1 dX10_feed_31 rfl (lv_at hl 3 rfl) ?_
    refine yy_cVv0 (As := [.int x3]) (rest := []) (id := 112) (ci := 10) (q := (RX10, TX10, 20)) C Z (ss_X10_lays l D κ ext x3) (by decide) (yy_ent_112 _) rfl tw_778 kw_X10_lays ⟨⟨rfl, rfl⟩, ⟨Nat.le_of_ble_eq_true rfl, Nat.le_of_ble_eq_true rfl⟩, Nat.le_of_ble_eq_true rfl, Nat.le_of_ble_eq_true rfl⟩ hl.1 rfl (Nat.le_of_ble_eq_true rfl) dX10_feed_32 h (fun τ H locs Z h => ?_)
    refine lv_aload_n C.1.1 C.1.2.1 dX10_feed_35 rfl (lv_at hl 0 rfl) ?_
    refine lv_iload C.1.1 C.1.2.1 dX10_feed_36 (lv_at hl 4 rfl) ?_
    refine yy_cVv0 (As := [.int x4]) (rest := []) (id := 112) (ci := 10) (q := (RX10, TX10, 20)) C Z (ss_X10_lays l D κ ext x4) (by decide) (yy_ent_112 _) rfl tw_778 kw_X10_lays ⟨⟨rfl, rfl⟩, ⟨Nat.le_of_ble_eq_true rfl, Nat.le_of_ble_eq_true rfl⟩, Nat.le_of_ble_eq_true rfl, Nat.le_of_ble_eq_true rfl⟩ hl.1 rfl (Nat.le_of_ble_eq_true rfl) dX10_feed_38 h (fun τ H locs Z h => ?_)
    refine lv_aload_n C.1.1 C.1.2.1 dX10_feed_41 rfl (lv_at hl 0 rfl) ?_
    refine lv_iload C.1.1 C.1.2.1 dX10_feed_42 (lv_at hl 5 rfl) ?_
    refine yy_cVv0 (As := [.int x5]) (rest := []) (id := 112) (ci := 10) (q := (RX10, TX10, 20)) C Z (ss_X10_lays l D κ ext x5) (by decide) (yy_ent_112 _) rfl tw_778 kw_X10_lays ⟨⟨rfl, rfl⟩, ⟨Nat.le_of_ble_eq_true rfl, Nat.le_of_ble_eq_true rfl⟩, Nat.le_of_ble_eq_true rfl, Nat.le_of_ble_eq_true rfl⟩ hl.1 rfl (Nat.le_of_ble_eq_true rfl) dX10_feed_44 h (fun τ H locs Z h => ?_)
    refine lv_aload_n C.1.1 C.1.2.1 dX10_feed_47 rfl (lv_at hl 0 rfl) ?_
    refine yg_X10_2 C Z tw_794 dX10_feed_48 h (fun v2 h => ?_)
    exact yy_iret C Z hr hlk rfl dX10_feed_51 h
  · refine lv_iconst (v := (-1)) C.1.1 C.1.2.1 dX10_feed_18 (by decide) ?_
    exact yy_iret C Z hr hlk rfl dX10_feed_19 h
set_option maxHeartbeats 4000000 in
set_option maxRecDepth 100000 in
theorem ss_X10_feed (l : Launch) (D : va_G) (κ : Nat → Nat) (ext : va_W) (x1 : Int32) (x2 : Int32) (x3 : Int32) (x4 : Int32) (x5 : Int32) : yy_Mi l D κ ext yX10_feed cX10_feed 6 (some .int) rm_X10_feed 0 0 [.ref (κ 4 + 112), .int x1, .int x2, .int x3, .int x4, .int x5] (mm_X10_feed x1 x2 x3 x4 x5) := by
  intro sz τ res h
  refine yy_ofW (by decide) (Nat.le_of_ble_eq_true rfl) ?_
  intro p e s m args below meth c ls hsz E
  obtain ⟨C, hr, hlk, Z, hl⟩ := E
  subst hsz
  exact ww_X10_feed_E  C hr hlk Z hl h
/-! MovedLinesModel.end(I)Z -/
noncomputable def mm_X10_end (x1 : Int32) : yy_M Int32 :=
  yy_wF 112 0 0 (yy_br (x1 < 0) (yy_rt 0) (yy_rF 112 2 fun v1 => yy_br (x1 ≤ v1) (yy_wF 112 2 x1 (yy_rt 1)) (yy_rt 0)))
theorem kw_X10_end : yy_wV RX10 yX10_end cX10_end 2 (some .boolean) 1 := ⟨⟨tw_784, tw_785, tw_61, tw_786⟩, by decide +kernel⟩
abbrev rm_X10_end : Room := { frames := 0, cells := 0, slots := 0, locals := 0 }
set_option maxHeartbeats 4000000 in
set_option maxRecDepth 100000 in
theorem ww_X10_end_E {x1 : Int32} {res : Int32 × yy_T} (C : yy_C D κ p m c cX10_end 2 s args RX10) (hr : meth.sig.returnType = (some .boolean)) (hlk : meth.locks = false) (Z : yy_Z D κ ext A s.heap τ H locs) (hl : lv_has ls 2 [(0, .ref (κ 4 + 112)), (1, .int x1)]) (h : mm_X10_end x1 τ = some res) : W p l e rm_X10_end s m args below meth c H locs 0 0 (MQ below (yy_Qi D κ ext A res) args s 0 0 A) (F0 m 0 ls []) := by
  unfold mm_X10_end at h
  refine lv_aload_n C.1.1 C.1.2.1 dX10_end_0 rfl (lv_at hl 0 rfl) ?_
  refine lv_iconst (v := 0) C.1.1 C.1.2.1 dX10_end_1 (by decide) ?_
  refine yp_X10_0 C Z tw_792 dX10_end_2 h (fun H locs τ Z h => ?_)
  refine lv_iload_n C.1.1 C.1.2.1 dX10_end_5 rfl (lv_at hl 1 rfl) ?_
  refine yy_if_lt (tgt := 17) C dX10_end_6 (by decide) h (fun h => ?_) (fun h => ?_)
  · refine lv_iconst (v := 0) C.1.1 C.1.2.1 dX10_end_17 (by decide) ?_
    exact yy_iret C Z hr hlk rfl dX10_end_18 h
  · refine lv_iload_n C.1.1 C.1.2.1 dX10_end_9 rfl (lv_at hl 1 rfl) ?_
    refine lv_aload_n C.1.1 C.1.2.1 dX10_end_10 rfl (lv_at hl 0 rfl) ?_
    refine yg_X10_2 C Z tw_794 dX10_end_11 h (fun v1 h => ?_)
    refine yy_icmp_le (tgt := 19) C dX10_end_14 (by decide) h (fun h => ?_) (fun h => ?_)
    · refine lv_aload_n C.1.1 C.1.2.1 dX10_end_19 rfl (lv_at hl 0 rfl) ?_
      refine lv_iload_n C.1.1 C.1.2.1 dX10_end_20 rfl (lv_at hl 1 rfl) ?_
      refine yp_X10_2 C Z tw_794 dX10_end_21 h (fun H locs τ Z h => ?_)
      refine lv_iconst (v := 1) C.1.1 C.1.2.1 dX10_end_24 (by decide) ?_
      exact yy_iret C Z hr hlk rfl dX10_end_25 h
    · refine lv_iconst (v := 0) C.1.1 C.1.2.1 dX10_end_17 (by decide) ?_
      exact yy_iret C Z hr hlk rfl dX10_end_18 h
set_option maxHeartbeats 4000000 in
set_option maxRecDepth 100000 in
theorem ss_X10_end (l : Launch) (D : va_G) (κ : Nat → Nat) (ext : va_W) (x1 : Int32) : yy_Mi l D κ ext yX10_end cX10_end 2 (some .boolean) rm_X10_end 0 0 [.ref (κ 4 + 112), .int x1] (mm_X10_end x1) := by
  intro sz τ res h
  refine yy_ofW (by decide) (Nat.le_of_ble_eq_true rfl) ?_
  intro p e s m args below meth c ls hsz E
  obtain ⟨C, hr, hlk, Z, hl⟩ := E
  subst hsz
  exact ww_X10_end_E  C hr hlk Z hl h
/-! MovedLinesModel.lineAt(II)I -/
noncomputable def mm_X10_lineAt (x0 : Int32) (x1 : Int32) : yy_M Int32 :=
  yy_rt (((127 * x0) + 1) + (9 * x1))
theorem kw_X10_lineAt : yy_wS RX10 yX10_lineAt cX10_lineAt 2 (some .int) 2 := ⟨⟨tw_915, tw_61, tw_916⟩, by decide +kernel⟩
abbrev rm_X10_lineAt : Room := { frames := 0, cells := 0, slots := 0, locals := 0 }
set_option maxHeartbeats 4000000 in
set_option maxRecDepth 100000 in
theorem ww_X10_lineAt_E {x0 : Int32} {x1 : Int32} {res : Int32 × yy_T} (C : yy_C D κ p m c cX10_lineAt 2 s args RX10) (hr : meth.sig.returnType = (some .int)) (hlk : meth.locks = false) (Z : yy_Z D κ ext A s.heap τ H locs) (hl : lv_has ls 2 [(0, .int x0), (1, .int x1)]) (h : mm_X10_lineAt x0 x1 τ = some res) : W p l e rm_X10_lineAt s m args below meth c H locs 0 0 (MQ below (yy_Qi D κ ext A res) args s 0 0 A) (F0 m 0 ls []) := by
  unfold mm_X10_lineAt at h
  refine lv_bipush (v := 127) C.1.1 C.1.2.1 dX10_lineAt_0 (by decide) ?_
  refine lv_iload_n C.1.1 C.1.2.1 dX10_lineAt_2 rfl (lv_at hl 0 rfl) ?_
  refine lv_imul C.1.1 C.1.2.1 dX10_lineAt_3 ?_
  refine lv_iconst (v := 1) C.1.1 C.1.2.1 dX10_lineAt_4 (by decide) ?_
  refine lv_iadd C.1.1 C.1.2.1 dX10_lineAt_5 ?_
  refine lv_bipush (v := 9) C.1.1 C.1.2.1 dX10_lineAt_6 (by decide) ?_
  refine lv_iload_n C.1.1 C.1.2.1 dX10_lineAt_8 rfl (lv_at hl 1 rfl) ?_
  refine lv_imul C.1.1 C.1.2.1 dX10_lineAt_9 ?_
  refine lv_iadd C.1.1 C.1.2.1 dX10_lineAt_10 ?_
  exact yy_iret C Z hr hlk rfl dX10_lineAt_11 h
set_option maxHeartbeats 4000000 in
set_option maxRecDepth 100000 in
theorem ss_X10_lineAt (l : Launch) (D : va_G) (κ : Nat → Nat) (ext : va_W) (x0 : Int32) (x1 : Int32) : yy_Mi l D κ ext yX10_lineAt cX10_lineAt 2 (some .int) rm_X10_lineAt 0 0 [.int x0, .int x1] (mm_X10_lineAt x0 x1) := by
  intro sz τ res h
  refine yy_ofW (by decide) (Nat.le_of_ble_eq_true rfl) ?_
  intro p e s m args below meth c ls hsz E
  obtain ⟨C, hr, hlk, Z, hl⟩ := E
  subst hsz
  exact ww_X10_lineAt_E  C hr hlk Z hl h
/-! MovedLinesModel.isEdition(I)Z -/
noncomputable def mm_X10_isEdition (x0 : Int32) : yy_M Int32 :=
  yy_cl (mm_X10_isIn x0 0 1) (fun r1 => yy_ck (r1 = 0 ∨ r1 = 1) (yy_rt r1))
theorem kw_X10_isEdition : yy_wS RX10 yX10_isEdition cX10_isEdition 1 (some .boolean) 1 := ⟨⟨tw_858, tw_61, tw_859⟩, by decide +kernel⟩
abbrev rm_X10_isEdition : Room := { frames := 1, cells := 0, slots := 0, locals := 22 }
set_option maxHeartbeats 4000000 in
set_option maxRecDepth 100000 in
theorem ww_X10_isEdition_E {x0 : Int32} {res : Int32 × yy_T} (C : yy_C D κ p m c cX10_isEdition 1 s args RX10) (hr : meth.sig.returnType = (some .boolean)) (hlk : meth.locks = false) (Z : yy_Z D κ ext A s.heap τ H locs) (hl : lv_has ls 1 [(0, .int x0)]) (h : mm_X10_isEdition x0 τ = some res) : W p l e rm_X10_isEdition s m args below meth c H locs 0 0 (MQ below (yy_Qi D κ ext A res) args s 0 0 A) (F0 m 0 ls []) := by
  unfold mm_X10_isEdition at h
  refine lv_iload_n C.1.1 C.1.2.1 dX10_isEdition_0 rfl (lv_at hl 0 rfl) ?_
  refine lv_iconst (v := 0) C.1.1 C.1.2.1 dX10_isEdition_1 (by decide) ?_
  refine lv_iconst (v := 1) C.1.1 C.1.2.1 dX10_isEdition_2 (by decide) ?_
  refine yy_cSi0 (As := [.int x0, .int 0, .int 1]) (rest := [])  C Z (ss_X10_isIn l D κ ext x0 0 1) tw_860 kw_X10_isIn ⟨⟨rfl, rfl⟩, ⟨Nat.le_of_ble_eq_true rfl, Nat.le_of_ble_eq_true rfl⟩, Nat.le_of_ble_eq_true rfl, Nat.le_of_ble_eq_true rfl⟩ hl.1 rfl (Nat.le_of_ble_eq_true rfl) dX10_isEdition_3 h (fun r1 τ H locs Z h => ?_)
  exact yy_zret C Z hr hlk dX10_isEdition_6 h
set_option maxHeartbeats 4000000 in
set_option maxRecDepth 100000 in
theorem ss_X10_isEdition (l : Launch) (D : va_G) (κ : Nat → Nat) (ext : va_W) (x0 : Int32) : yy_Mi l D κ ext yX10_isEdition cX10_isEdition 1 (some .boolean) rm_X10_isEdition 0 0 [.int x0] (mm_X10_isEdition x0) := by
  intro sz τ res h
  refine yy_ofW (by decide) (Nat.le_of_ble_eq_true rfl) ?_
  intro p e s m args below meth c ls hsz E
  obtain ⟨C, hr, hlk, Z, hl⟩ := E
  subst hsz
  exact ww_X10_isEdition_E  C hr hlk Z hl h
/-! MovedLinesModel.many(I)I -/
noncomputable def mm_X10_many (x1 : Int32) : yy_M Int32 :=
  yy_rA 114 254 (127 * x1) fun v1 => yy_rt v1
theorem kw_X10_many : yy_wV RX10 yX10_many cX10_many 2 (some .int) 1 := ⟨⟨tw_884, tw_27, tw_61, tw_885⟩, by decide +kernel⟩
abbrev rm_X10_many : Room := { frames := 0, cells := 0, slots := 0, locals := 0 }
set_option maxHeartbeats 4000000 in
set_option maxRecDepth 100000 in
theorem ww_X10_many_E {x1 : Int32} {res : Int32 × yy_T} (C : yy_C D κ p m c cX10_many 2 s args RX10) (hr : meth.sig.returnType = (some .int)) (hlk : meth.locks = false) (Z : yy_Z D κ ext A s.heap τ H locs) (hl : lv_has ls 2 [(0, .ref (κ 4 + 112)), (1, .int x1)]) (h : mm_X10_many x1 τ = some res) : W p l e rm_X10_many s m args below meth c H locs 0 0 (MQ below (yy_Qi D κ ext A res) args s 0 0 A) (F0 m 0 ls []) := by
  unfold mm_X10_many at h
  refine lv_aload_n C.1.1 C.1.2.1 dX10_many_0 rfl (lv_at hl 0 rfl) ?_
  refine yg_X10_3 C Z tw_795 dX10_many_1 ?_
  refine lv_bipush (v := 127) C.1.1 C.1.2.1 dX10_many_4 (by decide) ?_
  refine lv_iload_n C.1.1 C.1.2.1 dX10_many_6 rfl (lv_at hl 1 rfl) ?_
  refine lv_imul C.1.1 C.1.2.1 dX10_many_7 ?_
  refine yy_iald C Z (by decide) rfl dX10_many_8 h (fun v1 h => ?_)
  exact yy_iret C Z hr hlk rfl dX10_many_9 h
set_option maxHeartbeats 4000000 in
set_option maxRecDepth 100000 in
theorem ss_X10_many (l : Launch) (D : va_G) (κ : Nat → Nat) (ext : va_W) (x1 : Int32) : yy_Mi l D κ ext yX10_many cX10_many 2 (some .int) rm_X10_many 0 0 [.ref (κ 4 + 112), .int x1] (mm_X10_many x1) := by
  intro sz τ res h
  refine yy_ofW (by decide) (Nat.le_of_ble_eq_true rfl) ?_
  intro p e s m args below meth c ls hsz E
  obtain ⟨C, hr, hlk, Z, hl⟩ := E
  subst hsz
  exact ww_X10_many_E  C hr hlk Z hl h
/-! MovedLinesModel.isLine(II)Z -/
noncomputable def mm_X10_isLine (x1 : Int32) (x2 : Int32) : yy_M Int32 :=
  yy_cl (mm_X10_isEdition x1) (fun r1 => yy_br (r1 = 0) (yy_rt 0) (yy_cl (mm_X10_many x1) (fun r2 => yy_cl (mm_X10_isIn x2 0 (r2 - 1)) (fun r3 => yy_br (r3 = 0) (yy_rt 0) (yy_rt 1)))))
theorem kw_X10_isLine : yy_wV RX10 yX10_isLine cX10_isLine 3 (some .boolean) 2 := ⟨⟨tw_959, tw_42, tw_61, tw_960⟩, by decide +kernel⟩
abbrev rm_X10_isLine : Room := { frames := 2, cells := 0, slots := 0, locals := 42 }
set_option maxHeartbeats 4000000 in
set_option maxRecDepth 100000 in
theorem ww_X10_isLine_E {x1 : Int32} {x2 : Int32} {res : Int32 × yy_T} (C : yy_C D κ p m c cX10_isLine 3 s args RX10) (hr : meth.sig.returnType = (some .boolean)) (hlk : meth.locks = false) (Z : yy_Z D κ ext A s.heap τ H locs) (hl : lv_has ls 3 [(0, .ref (κ 4 + 112)), (1, .int x1), (2, .int x2)]) (h : mm_X10_isLine x1 x2 τ = some res) : W p l e rm_X10_isLine s m args below meth c H locs 0 0 (MQ below (yy_Qi D κ ext A res) args s 0 0 A) (F0 m 0 ls []) := by
  unfold mm_X10_isLine at h
  refine lv_iload_n C.1.1 C.1.2.1 dX10_isLine_0 rfl (lv_at hl 1 rfl) ?_
  refine yy_cSi0 (As := [.int x1]) (rest := [])  C Z (ss_X10_isEdition l D κ ext x1) tw_857 kw_X10_isEdition ⟨⟨rfl, rfl⟩, ⟨Nat.le_of_ble_eq_true rfl, Nat.le_of_ble_eq_true rfl⟩, Nat.le_of_ble_eq_true rfl, Nat.le_of_ble_eq_true rfl⟩ hl.1 rfl (Nat.le_of_ble_eq_true rfl) dX10_isLine_1 h (fun r1 τ H locs Z h => ?_)
  refine yy_if_eq (tgt := 26) C dX10_isLine_4 (by decide) h (fun h => ?_) (fun h => ?_)
  · refine lv_iconst (v := 0) C.1.1 C.1.2.1 dX10_isLine_26 (by decide) ?_
    exact yy_iret C Z hr hlk rfl dX10_isLine_27 h
  · refine lv_iload_n C.1.1 C.1.2.1 dX10_isLine_7 rfl (lv_at hl 2 rfl) ?_
    refine lv_iconst (v := 0) C.1.1 C.1.2.1 dX10_isLine_8 (by decide) ?_
    refine lv_aload_n C.1.1 C.1.2.1 dX10_isLine_9 rfl (lv_at hl 0 rfl) ?_
    refine lv_iload_n C.1.1 C.1.2.1 dX10_isLine_10 rfl (lv_at hl 1 rfl) ?_
    refine yy_cVi0 (As := [.int x1]) (rest := [.int 0, .int x2]) (id := 112) (ci := 10) (q := (RX10, TX10, 20)) C Z (ss_X10_many l D κ ext x1) (by decide) (yy_ent_112 _) rfl tw_882 kw_X10_many ⟨⟨rfl, rfl⟩, ⟨Nat.le_of_ble_eq_true rfl, Nat.le_of_ble_eq_true rfl⟩, Nat.le_of_ble_eq_true rfl, Nat.le_of_ble_eq_true rfl⟩ hl.1 rfl (Nat.le_of_ble_eq_true rfl) dX10_isLine_11 h (fun r2 τ H locs Z h => ?_)
    refine lv_iconst (v := 1) C.1.1 C.1.2.1 dX10_isLine_14 (by decide) ?_
    refine lv_isub C.1.1 C.1.2.1 dX10_isLine_15 ?_
    refine yy_cSi0 (As := [.int x2, .int 0, .int (r2 - 1)]) (rest := [])  C Z (ss_X10_isIn l D κ ext x2 0 (r2 - 1)) tw_860 kw_X10_isIn ⟨⟨rfl, rfl⟩, ⟨Nat.le_of_ble_eq_true rfl, Nat.le_of_ble_eq_true rfl⟩, Nat.le_of_ble_eq_true rfl, Nat.le_of_ble_eq_true rfl⟩ hl.1 rfl (Nat.le_of_ble_eq_true rfl) dX10_isLine_16 h (fun r3 τ H locs Z h => ?_)
    refine yy_if_eq (tgt := 26) C dX10_isLine_19 (by decide) h (fun h => ?_) (fun h => ?_)
    · refine lv_iconst (v := 0) C.1.1 C.1.2.1 dX10_isLine_26 (by decide) ?_
      exact yy_iret C Z hr hlk rfl dX10_isLine_27 h
    · refine lv_iconst (v := 1) C.1.1 C.1.2.1 dX10_isLine_22 (by decide) ?_
      refine lv_goto (tgt := 27) C.1.1 C.1.2.1 dX10_isLine_23 (by decide) ?_
      exact yy_iret C Z hr hlk rfl dX10_isLine_27 h
set_option maxHeartbeats 4000000 in
set_option maxRecDepth 100000 in
theorem ss_X10_isLine (l : Launch) (D : va_G) (κ : Nat → Nat) (ext : va_W) (x1 : Int32) (x2 : Int32) : yy_Mi l D κ ext yX10_isLine cX10_isLine 3 (some .boolean) rm_X10_isLine 0 0 [.ref (κ 4 + 112), .int x1, .int x2] (mm_X10_isLine x1 x2) := by
  intro sz τ res h
  refine yy_ofW (by decide) (Nat.le_of_ble_eq_true rfl) ?_
  intro p e s m args below meth c ls hsz E
  obtain ⟨C, hr, hlk, Z, hl⟩ := E
  subst hsz
  exact ww_X10_isLine_E  C hr hlk Z hl h
/-! MovedLinesModel.bad(II)Z -/
noncomputable def mm_X10_bad (x1 : Int32) (x2 : Int32) : yy_M Int32 :=
  yy_wF 112 7 x1 (yy_wF 112 8 x2 (yy_rt 0))
theorem kw_X10_bad : yy_wV RX10 yX10_bad cX10_bad 3 (some .boolean) 2 := ⟨⟨tw_869, tw_24, tw_61, tw_870⟩, by decide +kernel⟩
abbrev rm_X10_bad : Room := { frames := 0, cells := 0, slots := 0, locals := 0 }
set_option maxHeartbeats 4000000 in
set_option maxRecDepth 100000 in
theorem ww_X10_bad_E {x1 : Int32} {x2 : Int32} {res : Int32 × yy_T} (C : yy_C D κ p m c cX10_bad 3 s args RX10) (hr : meth.sig.returnType = (some .boolean)) (hlk : meth.locks = false) (Z : yy_Z D κ ext A s.heap τ H locs) (hl : lv_has ls 3 [(0, .ref (κ 4 + 112)), (1, .int x1), (2, .int x2)]) (h : mm_X10_bad x1 x2 τ = some res) : W p l e rm_X10_bad s m args below meth c H locs 0 0 (MQ below (yy_Qi D κ ext A res) args s 0 0 A) (F0 m 0 ls []) := by
  unfold mm_X10_bad at h
  refine lv_aload_n C.1.1 C.1.2.1 dX10_bad_0 rfl (lv_at hl 0 rfl) ?_
  refine lv_iload_n C.1.1 C.1.2.1 dX10_bad_1 rfl (lv_at hl 1 rfl) ?_
  refine yp_X10_7 C Z tw_799 dX10_bad_2 h (fun H locs τ Z h => ?_)
  refine lv_aload_n C.1.1 C.1.2.1 dX10_bad_5 rfl (lv_at hl 0 rfl) ?_
  refine lv_iload_n C.1.1 C.1.2.1 dX10_bad_6 rfl (lv_at hl 2 rfl) ?_
  refine yp_X10_8 C Z tw_800 dX10_bad_7 h (fun H locs τ Z h => ?_)
  refine lv_iconst (v := 0) C.1.1 C.1.2.1 dX10_bad_10 (by decide) ?_
  exact yy_iret C Z hr hlk rfl dX10_bad_11 h
set_option maxHeartbeats 4000000 in
set_option maxRecDepth 100000 in
theorem ss_X10_bad (l : Launch) (D : va_G) (κ : Nat → Nat) (ext : va_W) (x1 : Int32) (x2 : Int32) : yy_Mi l D κ ext yX10_bad cX10_bad 3 (some .boolean) rm_X10_bad 0 0 [.ref (κ 4 + 112), .int x1, .int x2] (mm_X10_bad x1 x2) := by
  intro sz τ res h
  refine yy_ofW (by decide) (Nat.le_of_ble_eq_true rfl) ?_
  intro p e s m args below meth c ls hsz E
  obtain ⟨C, hr, hlk, Z, hl⟩ := E
  subst hsz
  exact ww_X10_bad_E  C hr hlk Z hl h
/-! MovedLinesModel.isLetter(I)Z -/
noncomputable def mm_X10_isLetter (x0 : Int32) : yy_M Int32 :=
  yy_br (x0 < 97) (yy_rt 0) (yy_br (122 < x0) (yy_rt 0) (yy_rt 1))
theorem kw_X10_isLetter : yy_wS RX10 yX10_isLetter cX10_isLetter 1 (some .boolean) 1 := ⟨⟨tw_872, tw_61, tw_873⟩, by decide +kernel⟩
abbrev rm_X10_isLetter : Room := { frames := 0, cells := 0, slots := 0, locals := 0 }
set_option maxHeartbeats 4000000 in
set_option maxRecDepth 100000 in
theorem ww_X10_isLetter_E {x0 : Int32} {res : Int32 × yy_T} (C : yy_C D κ p m c cX10_isLetter 1 s args RX10) (hr : meth.sig.returnType = (some .boolean)) (hlk : meth.locks = false) (Z : yy_Z D κ ext A s.heap τ H locs) (hl : lv_has ls 1 [(0, .int x0)]) (h : mm_X10_isLetter x0 τ = some res) : W p l e rm_X10_isLetter s m args below meth c H locs 0 0 (MQ below (yy_Qi D κ ext A res) args s 0 0 A) (F0 m 0 ls []) := by
  unfold mm_X10_isLetter at h
  refine lv_iload_n C.1.1 C.1.2.1 dX10_isLetter_0 rfl (lv_at hl 0 rfl) ?_
  refine lv_bipush (v := 97) C.1.1 C.1.2.1 dX10_isLetter_1 (by decide) ?_
  refine yy_icmp_lt (tgt := 16) C dX10_isLetter_3 (by decide) h (fun h => ?_) (fun h => ?_)
  · refine lv_iconst (v := 0) C.1.1 C.1.2.1 dX10_isLetter_16 (by decide) ?_
    exact yy_iret C Z hr hlk rfl dX10_isLetter_17 h
  · refine lv_iload_n C.1.1 C.1.2.1 dX10_isLetter_6 rfl (lv_at hl 0 rfl) ?_
    refine lv_bipush (v := 122) C.1.1 C.1.2.1 dX10_isLetter_7 (by decide) ?_
    refine yy_icmp_gt (tgt := 16) C dX10_isLetter_9 (by decide) h (fun h => ?_) (fun h => ?_)
    · refine lv_iconst (v := 0) C.1.1 C.1.2.1 dX10_isLetter_16 (by decide) ?_
      exact yy_iret C Z hr hlk rfl dX10_isLetter_17 h
    · refine lv_iconst (v := 1) C.1.1 C.1.2.1 dX10_isLetter_12 (by decide) ?_
      refine lv_goto (tgt := 17) C.1.1 C.1.2.1 dX10_isLetter_13 (by decide) ?_
      exact yy_iret C Z hr hlk rfl dX10_isLetter_17 h
set_option maxHeartbeats 4000000 in
set_option maxRecDepth 100000 in
theorem ss_X10_isLetter (l : Launch) (D : va_G) (κ : Nat → Nat) (ext : va_W) (x0 : Int32) : yy_Mi l D κ ext yX10_isLetter cX10_isLetter 1 (some .boolean) rm_X10_isLetter 0 0 [.int x0] (mm_X10_isLetter x0) := by
  intro sz τ res h
  refine yy_ofW (by decide) (Nat.le_of_ble_eq_true rfl) ?_
  intro p e s m args below meth c ls hsz E
  obtain ⟨C, hr, hlk, Z, hl⟩ := E
  subst hsz
  exact ww_X10_isLetter_E  C hr hlk Z hl h
/-! MovedLinesModel.readLetter(III)Z -/
noncomputable def mm_X10_readLetter_76 (x1 : Int32) (x2 : Int32) (x4 : Int32) : yy_M Int32 :=
  yy_rF 112 9 fun v3 => yy_br (v3 = 6) (yy_cl (mm_X10_bad 2 x2) (fun r8 => yy_ck (r8 = 0 ∨ r8 = 1) (yy_rt r8))) (yy_rF 112 9 fun v4 => yy_wF 112 9 (v4 + 1) (yy_rA 115 127 x4 fun v5 => yy_rA 115 127 x4 fun v6 => yy_rA 115 127 (x4 + v6) fun v7 => yy_wA 115 127 (x4 + v5) (((27 * v7) + x1) - 96) (yy_rt 1)))
noncomputable def mm_X10_readLetter_42 (x2 : Int32) : yy_M Int32 :=
  yy_cl (mm_X10_bad 2 x2) (fun r10 => yy_ck (r10 = 0 ∨ r10 = 1) (yy_rt r10))
noncomputable def mm_X10_readLetter (x1 : Int32) (x2 : Int32) (x3 : Int32) : yy_M Int32 :=
  yy_rA 115 127 0 fun v1 => yy_rF 112 9 fun v2 => yy_br (v2 = 0) (yy_rA 115 127 0 fun v9 => yy_br (v9 = x3) (mm_X10_readLetter_42 x2) (yy_rA 115 127 (1 + (9 * v1)) fun v11 => yy_br (v11 = 8) (mm_X10_readLetter_42 x2) (yy_rA 115 127 (1 + (9 * v1)) fun v12 => yy_wA 115 127 (1 + (9 * v1)) (v12 + 1) (yy_rA 115 127 (1 + (9 * v1)) fun v13 => yy_wA 115 127 ((1 + (9 * v1)) + v13) 0 (mm_X10_readLetter_76 x1 x2 (1 + (9 * v1))))))) (mm_X10_readLetter_76 x1 x2 (1 + (9 * v1)))
theorem kw_X10_readLetter : yy_wV RX10 yX10_readLetter cX10_readLetter 5 (some .boolean) 3 := ⟨⟨tw_876, tw_25, tw_61, tw_877⟩, by decide +kernel⟩
abbrev rm_X10_readLetter : Room := { frames := 1, cells := 0, slots := 0, locals := 22 }
set_option maxHeartbeats 4000000 in
set_option maxRecDepth 100000 in
theorem ww_X10_readLetter_76 {x1 : Int32} {x2 : Int32} {x4 : Int32} {res : Int32 × yy_T} (C : yy_C D κ p m c cX10_readLetter 5 s args RX10) (hr : meth.sig.returnType = (some .boolean)) (hlk : meth.locks = false) (Z : yy_Z D κ ext A s.heap τ H locs) (hl : lv_has ls 5 [(0, .ref (κ 4 + 112)), (1, .int x1), (2, .int x2), (4, .int x4)]) (h : mm_X10_readLetter_76 x1 x2 x4 τ = some res) : W p l e rm_X10_readLetter s m args below meth c H locs 0 0 (MQ below (yy_Qi D κ ext A res) args s 0 0 A) (F0 m 76 ls []) := by
  unfold mm_X10_readLetter_76 at h
  refine lv_aload_n C.1.1 C.1.2.1 dX10_readLetter_76 rfl (lv_at hl 0 rfl) ?_
  refine yg_X10_9 C Z tw_801 dX10_readLetter_77 h (fun v3 h => ?_)
  refine lv_bipush (v := 6) C.1.1 C.1.2.1 dX10_readLetter_80 (by decide) ?_
  refine yy_icmp_ne (tgt := 92) C dX10_readLetter_82 (by decide) h (fun h => ?_) (fun h => ?_)
  · refine lv_aload_n C.1.1 C.1.2.1 dX10_readLetter_92 rfl (lv_at hl 0 rfl) ?_
    refine lv_dup C.1.1 C.1.2.1 dX10_readLetter_93 rfl ?_
    refine yg_X10_9 C Z tw_801 dX10_readLetter_94 h (fun v4 h => ?_)
    refine lv_iconst (v := 1) C.1.1 C.1.2.1 dX10_readLetter_97 (by decide) ?_
    refine lv_iadd C.1.1 C.1.2.1 dX10_readLetter_98 ?_
    refine yp_X10_9 C Z tw_801 dX10_readLetter_99 h (fun H locs τ Z h => ?_)
    refine lv_aload_n C.1.1 C.1.2.1 dX10_readLetter_102 rfl (lv_at hl 0 rfl) ?_
    refine yg_X10_4 C Z tw_796 dX10_readLetter_103 ?_
    refine lv_iload C.1.1 C.1.2.1 dX10_readLetter_106 (lv_at hl 3 rfl) ?_
    refine lv_aload_n C.1.1 C.1.2.1 dX10_readLetter_108 rfl (lv_at hl 0 rfl) ?_
    refine yg_X10_4 C Z tw_796 dX10_readLetter_109 ?_
    refine lv_iload C.1.1 C.1.2.1 dX10_readLetter_112 (lv_at hl 3 rfl) ?_
    refine yy_iald C Z (by decide) rfl dX10_readLetter_114 h (fun v5 h => ?_)
    refine lv_iadd C.1.1 C.1.2.1 dX10_readLetter_115 ?_
    refine lv_bipush (v := 27) C.1.1 C.1.2.1 dX10_readLetter_116 (by decide) ?_
    refine lv_aload_n C.1.1 C.1.2.1 dX10_readLetter_118 rfl (lv_at hl 0 rfl) ?_
    refine yg_X10_4 C Z tw_796 dX10_readLetter_119 ?_
    refine lv_iload C.1.1 C.1.2.1 dX10_readLetter_122 (lv_at hl 3 rfl) ?_
    refine lv_aload_n C.1.1 C.1.2.1 dX10_readLetter_124 rfl (lv_at hl 0 rfl) ?_
    refine yg_X10_4 C Z tw_796 dX10_readLetter_125 ?_
    refine lv_iload C.1.1 C.1.2.1 dX10_readLetter_128 (lv_at hl 3 rfl) ?_
    refine yy_iald C Z (by decide) rfl dX10_readLetter_130 h (fun v6 h => ?_)
    refine lv_iadd C.1.1 C.1.2.1 dX10_readLetter_131 ?_
    refine yy_iald C Z (by decide) rfl dX10_readLetter_132 h (fun v7 h => ?_)
    refine lv_imul C.1.1 C.1.2.1 dX10_readLetter_133 ?_
    refine lv_iload_n C.1.1 C.1.2.1 dX10_readLetter_134 rfl (lv_at hl 1 rfl) ?_
    refine lv_iadd C.1.1 C.1.2.1 dX10_readLetter_135 ?_
    refine lv_bipush (v := 96) C.1.1 C.1.2.1 dX10_readLetter_136 (by decide) ?_
    refine lv_isub C.1.1 C.1.2.1 dX10_readLetter_138 ?_
    refine yy_iast C Z (by decide) rfl dX10_readLetter_139 h (fun H locs τ Z h => ?_)
    refine lv_iconst (v := 1) C.1.1 C.1.2.1 dX10_readLetter_140 (by decide) ?_
    exact yy_iret C Z hr hlk rfl dX10_readLetter_141 h
  · refine lv_aload_n C.1.1 C.1.2.1 dX10_readLetter_85 rfl (lv_at hl 0 rfl) ?_
    refine lv_iconst (v := 2) C.1.1 C.1.2.1 dX10_readLetter_86 (by decide) ?_
    refine lv_iload_n C.1.1 C.1.2.1 dX10_readLetter_87 rfl (lv_at hl 2 rfl) ?_
    refine yy_cVi0 (As := [.int 2, .int x2]) (rest := []) (id := 112) (ci := 10) (q := (RX10, TX10, 20)) C Z (ss_X10_bad l D κ ext 2 x2) (by decide) (yy_ent_112 _) rfl tw_867 kw_X10_bad ⟨⟨rfl, rfl⟩, ⟨Nat.le_of_ble_eq_true rfl, Nat.le_of_ble_eq_true rfl⟩, Nat.le_of_ble_eq_true rfl, Nat.le_of_ble_eq_true rfl⟩ hl.1 rfl (Nat.le_of_ble_eq_true rfl) dX10_readLetter_88 h (fun r8 τ H locs Z h => ?_)
    exact yy_zret C Z hr hlk dX10_readLetter_91 h
set_option maxHeartbeats 4000000 in
set_option maxRecDepth 100000 in
theorem ww_X10_readLetter_42 {x2 : Int32} {res : Int32 × yy_T} (C : yy_C D κ p m c cX10_readLetter 5 s args RX10) (hr : meth.sig.returnType = (some .boolean)) (hlk : meth.locks = false) (Z : yy_Z D κ ext A s.heap τ H locs) (hl : lv_has ls 5 [(0, .ref (κ 4 + 112)), (2, .int x2)]) (h : mm_X10_readLetter_42 x2 τ = some res) : W p l e rm_X10_readLetter s m args below meth c H locs 0 0 (MQ below (yy_Qi D κ ext A res) args s 0 0 A) (F0 m 42 ls []) := by
  unfold mm_X10_readLetter_42 at h
  refine lv_aload_n C.1.1 C.1.2.1 dX10_readLetter_42 rfl (lv_at hl 0 rfl) ?_
  refine lv_iconst (v := 2) C.1.1 C.1.2.1 dX10_readLetter_43 (by decide) ?_
  refine lv_iload_n C.1.1 C.1.2.1 dX10_readLetter_44 rfl (lv_at hl 1 rfl) ?_
  refine yy_cVi0 (As := [.int 2, .int x2]) (rest := []) (id := 112) (ci := 10) (q := (RX10, TX10, 20)) C Z (ss_X10_bad l D κ ext 2 x2) (by decide) (yy_ent_112 _) rfl tw_867 kw_X10_bad ⟨⟨rfl, rfl⟩, ⟨Nat.le_of_ble_eq_true rfl, Nat.le_of_ble_eq_true rfl⟩, Nat.le_of_ble_eq_true rfl, Nat.le_of_ble_eq_true rfl⟩ hl.1 rfl (Nat.le_of_ble_eq_true rfl) dX10_readLetter_45 h (fun r10 τ H locs Z h => ?_)
  exact yy_zret C Z hr hlk dX10_readLetter_48 h
set_option maxHeartbeats 4000000 in
set_option maxRecDepth 100000 in
theorem ww_X10_readLetter_E {x1 : Int32} {x2 : Int32} {x3 : Int32} {res : Int32 × yy_T} (C : yy_C D κ p m c cX10_readLetter 5 s args RX10) (hr : meth.sig.returnType = (some .boolean)) (hlk : meth.locks = false) (Z : yy_Z D κ ext A s.heap τ H locs) (hl : lv_has ls 5 [(0, .ref (κ 4 + 112)), (1, .int x1), (2, .int x2), (3, .int x3)]) (h : mm_X10_readLetter x1 x2 x3 τ = some res) : W p l e rm_X10_readLetter s m args below meth c H locs 0 0 (MQ below (yy_Qi D κ ext A res) args s 0 0 A) (F0 m 0 ls []) := by
  unfold mm_X10_readLetter at h
  refine lv_iconst (v := 1) C.1.1 C.1.2.1 dX10_readLetter_0 (by decide) ?_
  refine lv_bipush (v := 9) C.1.1 C.1.2.1 dX10_readLetter_1 (by decide) ?_
  refine lv_aload_n C.1.1 C.1.2.1 dX10_readLetter_3 rfl (lv_at hl 0 rfl) ?_
  refine yg_X10_4 C Z tw_796 dX10_readLetter_4 ?_
  refine lv_iconst (v := 0) C.1.1 C.1.2.1 dX10_readLetter_7 (by decide) ?_
  refine yy_iald C Z (by decide) rfl dX10_readLetter_8 h (fun v1 h => ?_)
  refine lv_imul C.1.1 C.1.2.1 dX10_readLetter_9 ?_
  refine lv_iadd C.1.1 C.1.2.1 dX10_readLetter_10 ?_
  refine lv_istore (lv' := [(4, .int (1 + (9 * v1))), (0, .ref (κ 4 + 112)), (1, .int x1), (2, .int x2), (3, .int x3)]) C.1.1 C.1.2.1 dX10_readLetter_11 hl (by decide) rfl (fun ls hl => ?_)
  refine lv_aload_n C.1.1 C.1.2.1 dX10_readLetter_13 rfl (lv_at hl 1 rfl) ?_
  refine yg_X10_9 C Z tw_801 dX10_readLetter_14 h (fun v2 h => ?_)
  refine yy_if_ne (tgt := 76) C dX10_readLetter_17 (by decide) h (fun h => ?_) (fun h => ?_)
  · exact ww_X10_readLetter_76  C hr hlk Z (lv_sub hl [1, 2, 3, 0] rfl) h
  · refine lv_aload_n C.1.1 C.1.2.1 dX10_readLetter_20 rfl (lv_at hl 1 rfl) ?_
    refine yg_X10_4 C Z tw_796 dX10_readLetter_21 ?_
    refine lv_iconst (v := 0) C.1.1 C.1.2.1 dX10_readLetter_24 (by decide) ?_
    refine yy_iald C Z (by decide) rfl dX10_readLetter_25 h (fun v9 h => ?_)
    refine lv_iload_n C.1.1 C.1.2.1 dX10_readLetter_26 rfl (lv_at hl 4 rfl) ?_
    refine yy_icmp_eq (tgt := 42) C dX10_readLetter_27 (by decide) h (fun h => ?_) (fun h => ?_)
    · exact ww_X10_readLetter_42  C hr hlk Z (lv_sub hl [1, 3] rfl) h
    · refine lv_aload_n C.1.1 C.1.2.1 dX10_readLetter_30 rfl (lv_at hl 1 rfl) ?_
      refine yg_X10_4 C Z tw_796 dX10_readLetter_31 ?_
      refine lv_iload C.1.1 C.1.2.1 dX10_readLetter_34 (lv_at hl 0 rfl) ?_
      refine yy_iald C Z (by decide) rfl dX10_readLetter_36 h (fun v11 h => ?_)
      refine lv_bipush (v := 8) C.1.1 C.1.2.1 dX10_readLetter_37 (by decide) ?_
      refine yy_icmp_ne (tgt := 49) C dX10_readLetter_39 (by decide) h (fun h => ?_) (fun h => ?_)
      · refine lv_aload_n C.1.1 C.1.2.1 dX10_readLetter_49 rfl (lv_at hl 1 rfl) ?_
        refine yg_X10_4 C Z tw_796 dX10_readLetter_50 ?_
        refine lv_iload C.1.1 C.1.2.1 dX10_readLetter_53 (lv_at hl 0 rfl) ?_
        refine lv_dup2_11 C.1.1 C.1.2.1 dX10_readLetter_55 rfl rfl ?_
        refine yy_iald C Z (by decide) rfl dX10_readLetter_56 h (fun v12 h => ?_)
        refine lv_iconst (v := 1) C.1.1 C.1.2.1 dX10_readLetter_57 (by decide) ?_
        refine lv_iadd C.1.1 C.1.2.1 dX10_readLetter_58 ?_
        refine yy_iast C Z (by decide) rfl dX10_readLetter_59 h (fun H locs τ Z h => ?_)
        refine lv_aload_n C.1.1 C.1.2.1 dX10_readLetter_60 rfl (lv_at hl 1 rfl) ?_
        refine yg_X10_4 C Z tw_796 dX10_readLetter_61 ?_
        refine lv_iload C.1.1 C.1.2.1 dX10_readLetter_64 (lv_at hl 0 rfl) ?_
        refine lv_aload_n C.1.1 C.1.2.1 dX10_readLetter_66 rfl (lv_at hl 1 rfl) ?_
        refine yg_X10_4 C Z tw_796 dX10_readLetter_67 ?_
        refine lv_iload C.1.1 C.1.2.1 dX10_readLetter_70 (lv_at hl 0 rfl) ?_
        refine yy_iald C Z (by decide) rfl dX10_readLetter_72 h (fun v13 h => ?_)
        refine lv_iadd C.1.1 C.1.2.1 dX10_readLetter_73 ?_
        refine lv_iconst (v := 0) C.1.1 C.1.2.1 dX10_readLetter_74 (by decide) ?_
        refine yy_iast C Z (by decide) rfl dX10_readLetter_75 h (fun H locs τ Z h => ?_)
        exact ww_X10_readLetter_76  C hr hlk Z (lv_sub hl [1, 2, 3, 0] rfl) h
      · exact ww_X10_readLetter_42  C hr hlk Z (lv_sub hl [1, 3] rfl) h
set_option maxHeartbeats 4000000 in
set_option maxRecDepth 100000 in
theorem ss_X10_readLetter (l : Launch) (D : va_G) (κ : Nat → Nat) (ext : va_W) (x1 : Int32) (x2 : Int32) (x3 : Int32) : yy_Mi l D κ ext yX10_readLetter cX10_readLetter 5 (some .boolean) rm_X10_readLetter 0 0 [.ref (κ 4 + 112), .int x1, .int x2, .int x3] (mm_X10_readLetter x1 x2 x3) := by
  intro sz τ res h
  refine yy_ofW (by decide) (Nat.le_of_ble_eq_true rfl) ?_
  intro p e s m args below meth c ls hsz E
  obtain ⟨C, hr, hlk, Z, hl⟩ := E
  subst hsz
  exact ww_X10_readLetter_E  C hr hlk Z hl h
end
