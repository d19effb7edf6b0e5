section
variable {p : Program} {l : Launch} {e : Env} {s : State} {m : MethodId} {args : Array Value} {below : List Frame} {meth : Method} {c : Code} {H : Heap} {locs : List Loc} {ls : Array Slot} {D : va_G} {κ : Nat → Nat} {ext : va_W} {A : Nat → Prop} {τ : yy_T}
/-! MovedLinesModel.laysRead(II)V -/
noncomputable def mm_X10_laysRead_2b (x1 : Int32) (x2 : Int32) (x3 : Int32) : yy_M ((Int32) ⊕ ((Unit))) :=
  yy_br (9 ≤ x3) (yy_rt (.inr ())) (yy_cl (mm_X10_lineAt x1 x2) (fun r1 => yy_rA 115 127 (1 + x3) fun v2 => yy_wA 114 254 (r1 + x3) v2 (yy_rt (.inl (x3 + 1)))))
noncomputable def mm_X10_laysRead_34 : yy_M Unit :=
  yy_rt ()
noncomputable def mm_X10_laysRead_2 (x1 : Int32) (x2 : Int32) (x3 : Int32) : yy_M Unit :=
  yy_cl (yy_lp (fun (w : Int32) => mm_X10_laysRead_2b x1 x2 w) x3) (fun w => mm_X10_laysRead_34 )
noncomputable def mm_X10_laysRead (x1 : Int32) (x2 : Int32) : yy_M Unit :=
  mm_X10_laysRead_2 x1 x2 0
theorem kw_X10_laysRead : yy_wV RX10 yX10_laysRead cX10_laysRead 4 none 2 := ⟨⟨tw_1022, tw_48, tw_61, tw_1023⟩, by decide +kernel⟩
abbrev rm_X10_laysRead : Room := { frames := 1, cells := 0, slots := 0, locals := 21 }
set_option maxHeartbeats 4000000 in
set_option maxRecDepth 100000 in
theorem ww_X10_laysRead_2b {x1 : Int32} {x2 : Int32} {x3 : Int32} {res : ((Int32) ⊕ ((Unit))) × yy_T} {Q : State → Prop} (C : yy_C D κ p m c cX10_laysRead 4 s args RX10) (Z : yy_Z D κ ext A s.heap τ H locs) (hl : lv_has ls 4 [(0, .ref (κ 4 + 112)), (1, .int x1), (2, .int x2), (3, .int x3)]) (h : mm_X10_laysRead_2b x1 x2 x3 τ = some res)
    (kI : ∀ (w : Int32) (τ1 : yy_T) (H1 : Heap) (locs1 : List Loc) (ls1 : Array Slot), res = (.inl w, τ1) → yy_Z D κ ext A s.heap τ1 H1 locs1 → lv_has ls1 4 [(0, .ref (κ 4 + 112)), (1, .int x1), (2, .int x2), (3, .int w)] → W p l e rm_X10_laysRead s m args below meth c H1 locs1 0 0 Q (F0 m 2 ls1 []))
    (kR0 : ∀ (w : Unit) (τ1 : yy_T) (H1 : Heap) (locs1 : List Loc) (ls1 : Array Slot), res = (.inr w, τ1) → yy_Z D κ ext A s.heap τ1 H1 locs1 → lv_has ls1 4 [] → W p l e rm_X10_laysRead s m args below meth c H1 locs1 0 0 Q (F0 m 34 ls1 [])) : W p l e rm_X10_laysRead s m args below meth c H locs 0 0 Q (F0 m 2 ls []) := by
  unfold mm_X10_laysRead_2b at h
  refine lv_iload_n C.1.1 C.1.2.1 dX10_laysRead_2 rfl (lv_at hl 3 rfl) ?_
  refine lv_bipush (v := 9) C.1.1 C.1.2.1 dX10_laysRead_3 (by decide) ?_
  refine yy_icmp_ge (tgt := 34) C dX10_laysRead_5 (by decide) h (fun h => ?_) (fun h => ?_)
  · exact kR0 _ _ _ _ _ (yy_rt_of h) Z (lv_sub hl [] rfl)
  · refine lv_aload_n C.1.1 C.1.2.1 dX10_laysRead_8 rfl (lv_at hl 0 rfl) ?_
    refine yg_X10_3 C Z tw_795 dX10_laysRead_9 ?_
    refine lv_iload_n C.1.1 C.1.2.1 dX10_laysRead_12 rfl (lv_at hl 1 rfl) ?_
    refine lv_iload_n C.1.1 C.1.2.1 dX10_laysRead_13 rfl (lv_at hl 2 rfl) ?_
    refine yy_cSi0 (As := [.int x1, .int x2]) (rest := [.ref (κ 4 + 114)])  C Z (ss_X10_lineAt l D κ ext x1 x2) tw_914 kw_X10_lineAt ⟨⟨rfl, rfl⟩, ⟨Nat.le_of_ble_eq_true rfl, Nat.le_of_ble_eq_true rfl⟩, Nat.le_of_ble_eq_true rfl, Nat.le_of_ble_eq_true rfl⟩ hl.1 rfl (Nat.le_of_ble_eq_true rfl) dX10_laysRead_14 h (fun r1 τ H locs Z h => ?_)
    refine lv_iload_n C.1.1 C.1.2.1 dX10_laysRead_17 rfl (lv_at hl 3 rfl) ?_
    refine lv_iadd C.1.1 C.1.2.1 dX10_laysRead_18 ?_
    refine lv_aload_n C.1.1 C.1.2.1 dX10_laysRead_19 rfl (lv_at hl 0 rfl) ?_
    refine yg_X10_4 C Z tw_796 dX10_laysRead_20 ?_
    refine lv_iconst (v := 1) C.1.1 C.1.2.1 dX10_laysRead_23 (by decide) ?_
    refine lv_iload_n C.1.1 C.1.2.1 dX10_laysRead_24 rfl (lv_at hl 3 rfl) ?_
    refine lv_iadd C.1.1 C.1.2.1 dX10_laysRead_25 ?_
    refine yy_iald C Z (by decide) rfl dX10_laysRead_26 h (fun v2 h => ?_)
    refine yy_iast C Z (by decide) rfl dX10_laysRead_27 h (fun H locs τ Z h => ?_)
    refine lv_iinc (v := x3 + 1) (lv' := [(3, .int (x3 + 1)), (0, .ref (κ 4 + 112)), (1, .int x1), (2, .int x2)]) C.1.1 C.1.2.1 dX10_laysRead_28 hl (k := 3) rfl (by rfl) (by decide) rfl (fun ls hl => ?_)
    refine lv_goto (tgt := 2) C.1.1 C.1.2.1 dX10_laysRead_31 (by decide) ?_
    exact kI _ _ _ _ _ (yy_rt_of h) Z (lv_sub hl [1, 2, 3, 0] rfl)
set_option maxHeartbeats 4000000 in
set_option maxRecDepth 100000 in
theorem ww_X10_laysRead_34 {res : Unit × yy_T} (C : yy_C D κ p m c cX10_laysRead 4 s args RX10) (hr : meth.sig.returnType = none) (hlk : meth.locks = false) (Z : yy_Z D κ ext A s.heap τ H locs) (hl : lv_has ls 4 []) (h : mm_X10_laysRead_34  τ = some res) : W p l e rm_X10_laysRead s m args below meth c H locs 0 0 (MQ below (yy_Qv D κ ext A res) args s 0 0 A) (F0 m 34 ls []) := by
  unfold mm_X10_laysRead_34 at h
  exact yy_vret C Z hr hlk dX10_laysRead_34 h
set_option maxHeartbeats 4000000 in
set_option maxRecDepth 100000 in
theorem ww_X10_laysRead_2 {x1 : Int32} {x2 : Int32} {x3 : Int32} {res : Unit × yy_T} (C : yy_C D κ p m c cX10_laysRead 4 s args RX10) (hr : meth.sig.returnType = none) (hlk : meth.locks = false) (Z : yy_Z D κ ext A s.heap τ H locs) (hl : lv_has ls 4 [(0, .ref (κ 4 + 112)), (1, .int x1), (2, .int x2), (3, .int x3)]) (h : mm_X10_laysRead_2 x1 x2 x3 τ = some res) : W p l e rm_X10_laysRead s m args below meth c H locs 0 0 (MQ below (yy_Qv D κ ext A res) args s 0 0 A) (F0 m 2 ls []) := by
  unfold mm_X10_laysRead_2 at h
  refine yy_loop h (fun (w : Int32) (τ : yy_T) => ∀ (H : Heap) (locs : List Loc) (ls : Array Slot), yy_Z D κ ext A s.heap τ H locs → lv_has ls 4 [(0, .ref (κ 4 + 112)), (1, .int x1), (2, .int x2), (3, .int w)] → W p l e rm_X10_laysRead s m args below meth c H locs 0 0 (MQ below (yy_Qv D κ ext A res) args s 0 0 A) (F0 m 2 ls [])) ?_ H locs ls Z hl
  intro w τ y hy hI hX H locs ls Z hl
  refine ww_X10_laysRead_2b  C Z hl hy (fun w τ H locs ls ey Z hl => hI w τ ey H locs ls Z hl) (fun w τ H locs ls ey Z hl => ?_)
  · have h := hX _ _ ey
    exact ww_X10_laysRead_34  C hr hlk Z (lv_sub hl [] rfl) h
set_option maxHeartbeats 4000000 in
set_option maxRecDepth 100000 in
theorem ww_X10_laysRead_E {x1 : Int32} {x2 : Int32} {res : Unit × yy_T} (C : yy_C D κ p m c cX10_laysRead 4 s args RX10) (hr : meth.sig.returnType = none) (hlk : meth.locks = false) (Z : yy_Z D κ ext A s.heap τ H locs) (hl : lv_has ls 4 [(0, .ref (κ 4 + 112)), (1, .int x1), (2, .int x2)]) (h : mm_X10_laysRead x1 x2 τ = some res) : W p l e rm_X10_laysRead s m args below meth c H locs 0 0 (MQ below (yy_Qv D κ ext A res) args s 0 0 A) (F0 m 0 ls []) := by
  unfold mm_X10_laysRead at h
  refine lv_iconst (v := 0) C.1.1 C.1.2.1 dX10_laysRead_0 (by decide) ?_
  refine lv_istore_n (lv' := [(3, .int 0), (0, .ref (κ 4 + 112)), (1, .int x1), (2, .int x2)]) C.1.1 C.1.2.1 dX10_laysRead_1 rfl hl (by decide) rfl (fun ls hl => ?_)
  exact ww_X10_laysRead_2  C hr hlk Z (lv_sub hl [1, 2, 3, 0] rfl) h
set_option maxHeartbeats 4000000 in
set_option maxRecDepth 100000 in
theorem ss_X10_laysRead (l : Launch) (D : va_G) (κ : Nat → Nat) (ext : va_W) (x1 : Int32) (x2 : Int32) : yy_Mv l D κ ext yX10_laysRead cX10_laysRead 4 none rm_X10_laysRead 0 0 [.ref (κ 4 + 112), .int x1, .int x2] (mm_X10_laysRead x1 x2) := by
  intro sz τ res h
  refine yy_ofW (by decide) (Nat.le_of_ble_eq_true rfl) ?_
  intro p e s m args below meth c ls hsz E
  obtain ⟨C, hr, hlk, Z, hl⟩ := E
  subst hsz
  exact ww_X10_laysRead_E  C hr hlk Z hl h
/-! MovedLinesModel.put(II)I -/
noncomputable def mm_X10_put (x1 : Int32) (x2 : Int32) : yy_M Int32 :=
  yy_wF 112 0 0 (yy_cl (mm_X10_isEdition x1) (fun r1 => yy_br (r1 = 0) (yy_rt ((-1))) (yy_cl (mm_X10_many x1) (fun r2 => yy_cl (mm_X10_isIn x2 0 r2) (fun r3 => yy_br (r3 = 0) (yy_rt ((-1))) (yy_cl (mm_X10_many x1) (fun r4 => yy_br (r4 = 14) (yy_rt ((-1000))) (yy_cl (mm_X10_reads 80 1) (fun r5 => yy_br (r5 = 0) (yy_rF 112 8 fun v7 => yy_rt (((-2)) - v7)) (yy_cl (mm_X10_snap ) (fun _ => yy_cl (mm_X10_opens x1 x2) (fun _ => yy_cl (mm_X10_laysRead x1 x2) (fun _ => yy_cl (mm_X10_many x1) (fun r6 => yy_rt r6))))))))))))))
theorem kw_X10_put : yy_wV RX10 yX10_put cX10_put 3 (some .int) 2 := ⟨⟨tw_1009, tw_1010, tw_61, tw_1011⟩, by decide +kernel⟩
abbrev rm_X10_put : Room := { frames := 3, cells := 0, slots := 0, locals := 72 }
set_option maxHeartbeats 4000000 in
set_option maxRecDepth 100000 in
theorem ww_X10_put_E {x1 : Int32} {x2 : Int32} {res : Int32 × yy_T} (C : yy_C D κ p m c cX10_put 3 s args RX10) (hr : meth.sig.returnType = (some .int)) (hlk : meth.locks = false) (Z : yy_Z D κ ext A s.heap τ H locs) (hl : lv_has ls 3 [(0, .ref (κ 4 + 112)), (1, .int x1), (2, .int x2)]) (h : mm_X10_put x1 x2 τ = some res) : W p l e rm_X10_put s m args below meth c H locs 0 0 (MQ below (yy_Qi D κ ext A res) args s 0 0 A) (F0 m 0 ls []) := by
  unfold mm_X10_put at h
  refine lv_aload_n C.1.1 C.1.2.1 dX10_put_0 rfl (lv_at hl 0 rfl) ?_
  refine lv_iconst (v := 0) C.1.1 C.1.2.1 dX10_put_1 (by decide) ?_
  refine yp_X10_0 C Z tw_792 dX10_put_2 h (fun H locs τ Z h => ?_)
  refine lv_iload_n C.1.1 C.1.2.1 dX10_put_5 rfl (lv_at hl 1 rfl) ?_
  refine yy_cSi0 (As := [.int x1]) (rest := [])  C Z (ss_X10_isEdition l D κ ext x1) tw_857 kw_X10_isEdition ⟨⟨rfl, rfl⟩, ⟨Nat.le_of_ble_eq_true rfl, Nat.le_of_ble_eq_true rfl⟩, Nat.le_of_ble_eq_true rfl, Nat.le_of_ble_eq_true rfl⟩ hl.1 rfl (Nat.le_of_ble_eq_true rfl) dX10_put_6 h (fun r1 τ H locs Z h => ?_)
  refine yy_if_eq (tgt := 25) C dX10_put_9 (by decide) h (fun h => ?_) (fun h => ?_)
  · refine lv_iconst (v := (-1)) C.1.1 C.1.2.1 dX10_put_25 (by decide) ?_
    exact yy_iret C Z hr hlk rfl dX10_put_26 h
  · refine lv_iload_n C.1.1 C.1.2.1 dX10_put_12 rfl (lv_at hl 2 rfl) ?_
    refine lv_iconst (v := 0) C.1.1 C.1.2.1 dX10_put_13 (by decide) ?_
    refine lv_aload_n C.1.1 C.1.2.1 dX10_put_14 rfl (lv_at hl 0 rfl) ?_
    refine lv_iload_n C.1.1 C.1.2.1 dX10_put_15 rfl (lv_at hl 1 rfl) ?_
    refine yy_cVi0 (As := [.int x1]) (rest := [.int 0, .int x2]) (id := 112) (ci := 10) (q := (RX10, TX10, 20)) C Z (ss_X10_many l D κ ext x1) (by decide) (yy_ent_112 _) rfl tw_882 kw_X10_many ⟨⟨rfl, rfl⟩, ⟨Nat.le_of_ble_eq_true rfl, Nat.le_of_ble_eq_true rfl⟩, Nat.le_of_ble_eq_true rfl, Nat.le_of_ble_eq_true rfl⟩ hl.1 rfl (Nat.le_of_ble_eq_true rfl) dX10_put_16 h (fun r2 τ H locs Z h => ?_)
    refine yy_cSi0 (As := [.int x2, .int 0, .int r2]) (rest := [])  C Z (ss_X10_isIn l D κ ext x2 0 r2) tw_860 kw_X10_isIn ⟨⟨rfl, rfl⟩, ⟨Nat.le_of_ble_eq_true rfl, Nat.le_of_ble_eq_true rfl⟩, Nat.le_of_ble_eq_true rfl, Nat.le_of_ble_eq_true rfl⟩ hl.1 rfl (Nat.le_of_ble_eq_true rfl) dX10_put_19 h (fun r3 τ H locs Z h => ?_)
    refine yy_if_ne (tgt := 27) C dX10_put_22 (by decide) h (fun h => ?_) (fun h => ?_)
    · refine lv_aload_n C.1.1 C.1.2.1 dX10_put_27 rfl (lv_at hl 0 rfl) ?_
      refine lv_iload_n C.1.1 C.1.2.1 dX10_put_28 rfl (lv_at hl 1 rfl) ?_
      refine yy_cVi0 (As := [.int x1]) (rest := []) (id := 112) (ci := 10) (q := (RX10, TX10, 20)) C Z (ss_X10_many l D κ ext x1) (by decide) (yy_ent_112 _) rfl tw_882 kw_X10_many ⟨⟨rfl, rfl⟩, ⟨Nat.le_of_ble_eq_true rfl, Nat.le_of_ble_eq_true rfl⟩, Nat.le_of_ble_eq_true rfl, Nat.le_of_ble_eq_true rfl⟩ hl.1 rfl (Nat.le_of_ble_eq_true rfl) dX10_put_29 h (fun r4 τ H locs Z h => ?_)
      refine lv_bipush (v := 14) C.1.1 C.1.2.1 dX10_put_32 (by decide) ?_
      refine yy_icmp_ne (tgt := 41) C dX10_put_34 (by decide) h (fun h => ?_) (fun h => ?_)
      · refine lv_aload_n C.1.1 C.1.2.1 dX10_put_41 rfl (lv_at hl 0 rfl) ?_
        refine lv_bipush (v := 80) C.1.1 C.1.2.1 dX10_put_42 (by decide) ?_
        refine lv_iconst (v := 1) C.1.1 C.1.2.1 dX10_put_44 (by decide) ?_
        refine yy_cVi0 (As := [.int 80, .int 1]) (rest := []) (id := 112) (ci := 10) (q := (RX10, TX10, 20)) C Z (ss_X10_reads l D κ ext 80 1) (by decide) (yy_ent_112 _) rfl tw_863 kw_X10_reads ⟨⟨rfl, rfl⟩, ⟨Nat.le_of_ble_eq_true rfl, Nat.le_of_ble_eq_true rfl⟩, Nat.le_of_ble_eq_true rfl, Nat.le_of_ble_eq_true rfl⟩ hl.1 rfl (Nat.le_of_ble_eq_true rfl) dX10_put_45 h (fun r5 τ H locs Z h => ?_)
        refine yy_if_ne (tgt := 59) C dX10_put_48 (by decide) h (fun h => ?_) (fun h => ?_)
        · refine lv_aload_n C.1.1 C.1.2.1 dX10_put_59 rfl (lv_at hl 0 rfl) ?_
          refine yy_cVv0 (As := []) (rest := []) (id := 112) (ci := 10) (q := (RX10, TX10, 20)) C Z (ss_X10_snap l D κ ext ) (by decide) (yy_ent_112 _) rfl tw_1012 kw_X10_snap ⟨⟨rfl, rfl⟩, ⟨Nat.le_of_ble_eq_true rfl, Nat.le_of_ble_eq_true rfl⟩, Nat.le_of_ble_eq_true rfl, Nat.le_of_ble_eq_true rfl⟩ hl.1 rfl (Nat.le_of_ble_eq_true rfl) dX10_put_60 h (fun τ H locs Z h => ?_)
          refine lv_aload_n C.1.1 C.1.2.1 dX10_put_63 rfl (lv_at hl 0 rfl) ?_
          refine lv_iload_n C.1.1 C.1.2.1 dX10_put_64 rfl (lv_at hl 1 rfl) ?_
          refine lv_iload_n C.1.1 C.1.2.1 dX10_put_65 rfl (lv_at hl 2 rfl) ?_
          refine yy_cVv0 (As := [.int x1, .int x2]) (rest := []) (id := 112) (ci := 10) (q := (RX10, TX10, 20)) C Z (ss_X10_opens l D κ ext x1 x2) (by decide) (yy_ent_112 _) rfl tw_1016 kw_X10_opens ⟨⟨rfl, rfl⟩, ⟨Nat.le_of_ble_eq_true rfl, Nat.le_of_ble_eq_true rfl⟩, Nat.le_of_ble_eq_true rfl, Nat.le_of_ble_eq_true rfl⟩ hl.1 rfl (Nat.le_of_ble_eq_true rfl) dX10_put_66 h (fun τ H locs Z h => ?_)
          refine lv_aload_n C.1.1 C.1.2.1 dX10_put_69 rfl (lv_at hl 0 rfl) ?_
          refine lv_iload_n C.1.1 C.1.2.1 dX10_put_70 rfl (lv_at hl 1 rfl) ?_
          refine lv_iload_n C.1.1 C.1.2.1 dX10_put_71 rfl (lv_at hl 2 rfl) ?_
          refine yy_cVv0 (As := [.int x1, .int x2]) (rest := []) (id := 112) (ci := 10) (q := (RX10, TX10, 20)) C Z (ss_X10_laysRead l D κ ext x1 x2) (by decide) (yy_ent_112 _) rfl tw_1020 kw_X10_laysRead ⟨⟨rfl, rfl⟩, ⟨Nat.le_of_ble_eq_true rfl, Nat.le_of_ble_eq_true rfl⟩, Nat.le_of_ble_eq_true rfl, Nat.le_of_ble_eq_true rfl⟩ hl.1 rfl (Nat.le_of_ble_eq_true rfl) dX10_put_72 h (fun τ H locs Z h => ?_)
          refine lv_aload_n C.1.1 C.1.2.1 dX10_put_75 rfl (lv_at hl 0 rfl) ?_
          refine lv_iload_n C.1.1 C.1.2.1 dX10_put_76 rfl (lv_at hl 1 rfl) ?_
          refine yy_cVi0 (As := [.int x1]) (rest := []) (id := 112) (ci := 10) (q := (RX10, TX10, 20)) C Z (ss_X10_many l D κ ext x1) (by decide) (yy_ent_112 _) rfl tw_882 kw_X10_many ⟨⟨rfl, rfl⟩, ⟨Nat.le_of_ble_eq_true rfl, Nat.le_of_ble_eq_true rfl⟩, Nat.le_of_ble_eq_true rfl, Nat.le_of_ble_eq_true rfl⟩ hl.1 rfl (Nat.le_of_ble_eq_true rfl) dX10_put_77 h (fun r6 τ H locs Z h => ?_)
          exact yy_iret C Z hr hlk rfl dX10_put_80 h
        · refine lv_bipush (v := (-2)) C.1.1 C.1.2.1 dX10_put_51 (by decide) ?_
          refine lv_aload_n C.1.1 C.1.2.1 dX10_put_53 rfl (lv_at hl 0 rfl) ?_
          refine yg_X10_8 C Z tw_800 dX10_put_54 h (fun v7 h => ?_)
          refine lv_isub C.1.1 C.1.2.1 dX10_put_57 ?_
          exact yy_iret C Z hr hlk rfl dX10_put_58 h
      · refine lv_sipush (v := (-1000)) C.1.1 C.1.2.1 dX10_put_37 (by decide) ?_
        exact yy_iret C Z hr hlk rfl dX10_put_40 h
    · refine lv_iconst (v := (-1)) C.1.1 C.1.2.1 dX10_put_25 (by decide) ?_
      exact yy_iret C Z hr hlk rfl dX10_put_26 h
set_option maxHeartbeats 4000000 in
set_option maxRecDepth 100000 in
theorem ss_X10_put (l : Launch) (D : va_G) (κ : Nat → Nat) (ext : va_W) (x1 : Int32) (x2 : Int32) : yy_Mi l D κ ext yX10_put cX10_put 3 (some .int) rm_X10_put 0 0 [.ref (κ 4 + 112), .int x1, .int x2] (mm_X10_put x1 x2) := by
  intro sz τ res h
  refine yy_ofW (by decide) (Nat.le_of_ble_eq_true rfl) ?_
  intro p e s m args below meth c ls hsz E
  obtain ⟨C, hr, hlk, Z, hl⟩ := E
  subst hsz
  exact ww_X10_put_E  C hr hlk Z hl h
/-! MovedLinesModel.change(II)I -/
noncomputable def mm_X10_change (x1 : Int32) (x2 : Int32) : yy_M Int32 :=
  yy_wF 112 0 0 (yy_cl (mm_X10_isLine x1 x2) (fun r1 => yy_br (r1 = 0) (yy_rt ((-1))) (yy_cl (mm_X10_reads 80 1) (fun r2 => yy_br (r2 = 0) (yy_rF 112 8 fun v4 => yy_rt (((-2)) - v4)) (yy_cl (mm_X10_snap ) (fun _ => yy_cl (mm_X10_laysRead x1 x2) (fun _ => yy_cl (mm_X10_wordsOf x1 x2) (fun r3 => yy_rt r3))))))))
theorem kw_X10_change : yy_wV RX10 yX10_change cX10_change 3 (some .int) 2 := ⟨⟨tw_1025, tw_1026, tw_61, tw_1027⟩, by decide +kernel⟩
abbrev rm_X10_change : Room := { frames := 3, cells := 0, slots := 0, locals := 72 }
set_option maxHeartbeats 4000000 in
set_option maxRecDepth 100000 in
theorem ww_X10_change_E {x1 : Int32} {x2 : Int32} {res : Int32 × yy_T} (C : yy_C D κ p m c cX10_change 3 s args RX10) (hr : meth.sig.returnType = (some .int)) (hlk : meth.locks = false) (Z : yy_Z D κ ext A s.heap τ H locs) (hl : lv_has ls 3 [(0, .ref (κ 4 + 112)), (1, .int x1), (2, .int x2)]) (h : mm_X10_change x1 x2 τ = some res) : W p l e rm_X10_change s m args below meth c H locs 0 0 (MQ below (yy_Qi D κ ext A res) args s 0 0 A) (F0 m 0 ls []) := by
  unfold mm_X10_change at h
  refine lv_aload_n C.1.1 C.1.2.1 dX10_change_0 rfl (lv_at hl 0 rfl) ?_
  refine lv_iconst (v := 0) C.1.1 C.1.2.1 dX10_change_1 (by decide) ?_
  refine yp_X10_0 C Z tw_792 dX10_change_2 h (fun H locs τ Z h => ?_)
  refine lv_aload_n C.1.1 C.1.2.1 dX10_change_5 rfl (lv_at hl 0 rfl) ?_
  refine lv_iload_n C.1.1 C.1.2.1 dX10_change_6 rfl (lv_at hl 1 rfl) ?_
  refine lv_iload_n C.1.1 C.1.2.1 dX10_change_7 rfl (lv_at hl 2 rfl) ?_
  refine yy_cVi0 (As := [.int x1, .int x2]) (rest := []) (id := 112) (ci := 10) (q := (RX10, TX10, 20)) C Z (ss_X10_isLine l D κ ext x1 x2) (by decide) (yy_ent_112 _) rfl tw_957 kw_X10_isLine ⟨⟨rfl, rfl⟩, ⟨Nat.le_of_ble_eq_true rfl, Nat.le_of_ble_eq_true rfl⟩, Nat.le_of_ble_eq_true rfl, Nat.le_of_ble_eq_true rfl⟩ hl.1 rfl (Nat.le_of_ble_eq_true rfl) dX10_change_8 h (fun r1 τ H locs Z h => ?_)
  refine yy_if_ne (tgt := 16) C dX10_change_11 (by decide) h (fun h => ?_) (fun h => ?_)
  · refine lv_aload_n C.1.1 C.1.2.1 dX10_change_16 rfl (lv_at hl 0 rfl) ?_
    refine lv_bipush (v := 80) C.1.1 C.1.2.1 dX10_change_17 (by decide) ?_
    refine lv_iconst (v := 1) C.1.1 C.1.2.1 dX10_change_19 (by decide) ?_
    refine yy_cVi0 (As := [.int 80, .int 1]) (rest := []) (id := 112) (ci := 10) (q := (RX10, TX10, 20)) C Z (ss_X10_reads l D κ ext 80 1) (by decide) (yy_ent_112 _) rfl tw_863 kw_X10_reads ⟨⟨rfl, rfl⟩, ⟨Nat.le_of_ble_eq_true rfl, Nat.le_of_ble_eq_true rfl⟩, Nat.le_of_ble_eq_true rfl, Nat.le_of_ble_eq_true rfl⟩ hl.1 rfl (Nat.le_of_ble_eq_true rfl) dX10_change_20 h (fun r2 τ H locs Z h => ?_)
    refine yy_if_ne (tgt := 34) C dX10_change_23 (by decide) h (fun h => ?_) (fun h => ?_)
    · refine lv_aload_n C.1.1 C.1.2.1 dX10_change_34 rfl (lv_at hl 0 rfl) ?_
      refine yy_cVv0 (As := []) (rest := []) (id := 112) (ci := 10) (q := (RX10, TX10, 20)) C Z (ss_X10_snap l D κ ext ) (by decide) (yy_ent_112 _) rfl tw_1012 kw_X10_snap ⟨⟨rfl, rfl⟩, ⟨Nat.le_of_ble_eq_true rfl, Nat.le_of_ble_eq_true rfl⟩, Nat.le_of_ble_eq_true rfl, Nat.le_of_ble_eq_true rfl⟩ hl.1 rfl (Nat.le_of_ble_eq_true rfl) dX10_change_35 h (fun τ H locs Z h => ?_)
      refine lv_aload_n C.1.1 C.1.2.1 dX10_change_38 rfl (lv_at hl 0 rfl) ?_
      refine lv_iload_n C.1.1 C.1.2.1 dX10_change_39 rfl (lv_at hl 1 rfl) ?_
      refine lv_iload_n C.1.1 C.1.2.1 dX10_change_40 rfl (lv_at hl 2 rfl) ?_
      refine yy_cVv0 (As := [.int x1, .int x2]) (rest := []) (id := 112) (ci := 10) (q := (RX10, TX10, 20)) C Z (ss_X10_laysRead l D κ ext x1 x2) (by decide) (yy_ent_112 _) rfl tw_1020 kw_X10_laysRead ⟨⟨rfl, rfl⟩, ⟨Nat.le_of_ble_eq_true rfl, Nat.le_of_ble_eq_true rfl⟩, Nat.le_of_ble_eq_true rfl, Nat.le_of_ble_eq_true rfl⟩ hl.1 rfl (Nat.le_of_ble_eq_true rfl) dX10_change_41 h (fun τ H locs Z h => ?_)
      refine lv_aload_n C.1.1 C.1.2.1 dX10_change_44 rfl (lv_at hl 0 rfl) ?_
      refine lv_iload_n C.1.1 C.1.2.1 dX10_change_45 rfl (lv_at hl 1 rfl) ?_
      refine lv_iload_n C.1.1 C.1.2.1 dX10_change_46 rfl (lv_at hl 2 rfl) ?_
      refine yy_cVi0 (As := [.int x1, .int x2]) (rest := []) (id := 112) (ci := 10) (q := (RX10, TX10, 20)) C Z (ss_X10_wordsOf l D κ ext x1 x2) (by decide) (yy_ent_112 _) rfl tw_910 kw_X10_wordsOf ⟨⟨rfl, rfl⟩, ⟨Nat.le_of_ble_eq_true rfl, Nat.le_of_ble_eq_true rfl⟩, Nat.le_of_ble_eq_true rfl, Nat.le_of_ble_eq_true rfl⟩ hl.1 rfl (Nat.le_of_ble_eq_true rfl) dX10_change_47 h (fun r3 τ H locs Z h => ?_)
      exact yy_iret C Z hr hlk rfl dX10_change_50 h
    · refine lv_bipush (v := (-2)) C.1.1 C.1.2.1 dX10_change_26 (by decide) ?_
      refine lv_aload_n C.1.1 C.1.2.1 dX10_change_28 rfl (lv_at hl 0 rfl) ?_
      refine yg_X10_8 C Z tw_800 dX10_change_29 h (fun v4 h => ?_)
      refine lv_isub C.1.1 C.1.2.1 dX10_change_32 ?_
      exact yy_iret C Z hr hlk rfl dX10_change_33 h
  · refine lv_iconst (v := (-1)) C.1.1 C.1.2.1 dX10_change_14 (by decide) ?_
    exact yy_iret C Z hr hlk rfl dX10_change_15 h
set_option maxHeartbeats 4000000 in
set_option maxRecDepth 100000 in
theorem ss_X10_change (l : Launch) (D : va_G) (κ : Nat → Nat) (ext : va_W) (x1 : Int32) (x2 : Int32) : yy_Mi l D κ ext yX10_change cX10_change 3 (some .int) rm_X10_change 0 0 [.ref (κ 4 + 112), .int x1, .int x2] (mm_X10_change x1 x2) := by
  intro sz τ res h
  refine yy_ofW (by decide) (Nat.le_of_ble_eq_true rfl) ?_
  intro p e s m args below meth c ls hsz E
  obtain ⟨C, hr, hlk, Z, hl⟩ := E
  subst hsz
  exact ww_X10_change_E  C hr hlk Z hl h
/-! MovedLinesModel.cut(II)I -/
noncomputable def mm_X10_cut (x1 : Int32) (x2 : Int32) : yy_M Int32 :=
  yy_wF 112 0 0 (yy_cl (mm_X10_isLine x1 x2) (fun r1 => yy_br (r1 = 0) (yy_rt ((-1))) (yy_cl (mm_X10_snap ) (fun _ => yy_cl (mm_X10_closes x1 x2) (fun _ => yy_cl (mm_X10_many x1) (fun r2 => yy_rt r2))))))
theorem kw_X10_cut : yy_wV RX10 yX10_cut cX10_cut 3 (some .int) 2 := ⟨⟨tw_1029, tw_1030, tw_61, tw_1031⟩, by decide +kernel⟩
abbrev rm_X10_cut : Room := { frames := 3, cells := 0, slots := 0, locals := 64 }
set_option maxHeartbeats 4000000 in
set_option maxRecDepth 100000 in
theorem ww_X10_cut_E {x1 : Int32} {x2 : Int32} {res : Int32 × yy_T} (C : yy_C D κ p m c cX10_cut 3 s args RX10) (hr : meth.sig.returnType = (some .int)) (hlk : meth.locks = false) (Z : yy_Z D κ ext A s.heap τ H locs) (hl : lv_has ls 3 [(0, .ref (κ 4 + 112)), (1, .int x1), (2, .int x2)]) (h : mm_X10_cut x1 x2 τ = some res) : W p l e rm_X10_cut s m args below meth c H locs 0 0 (MQ below (yy_Qi D κ ext A res) args s 0 0 A) (F0 m 0 ls []) := by
  unfold mm_X10_cut at h
  refine lv_aload_n C.1.1 C.1.2.1 dX10_cut_0 rfl (lv_at hl 0 rfl) ?_
  refine lv_iconst (v := 0) C.1.1 C.1.2.1 dX10_cut_1 (by decide) ?_
  refine yp_X10_0 C Z tw_792 dX10_cut_2 h (fun H locs τ Z h => ?_)
  refine lv_aload_n C.1.1 C.1.2.1 dX10_cut_5 rfl (lv_at hl 0 rfl) ?_
  refine lv_iload_n C.1.1 C.1.2.1 dX10_cut_6 rfl (lv_at hl 1 rfl) ?_
  refine lv_iload_n C.1.1 C.1.2.1 dX10_cut_7 rfl (lv_at hl 2 rfl) ?_
  refine yy_cVi0 (As := [.int x1, .int x2]) (rest := []) (id := 112) (ci := 10) (q := (RX10, TX10, 20)) C Z (ss_X10_isLine l D κ ext x1 x2) (by decide) (yy_ent_112 _) rfl tw_957 kw_X10_isLine ⟨⟨rfl, rfl⟩, ⟨Nat.le_of_ble_eq_true rfl, Nat.le_of_ble_eq_true rfl⟩, Nat.le_of_ble_eq_true rfl, Nat.le_of_ble_eq_true rfl⟩ hl.1 rfl (Nat.le_of_ble_eq_true rfl) dX10_cut_8 h (fun r1 τ H locs Z h => ?_)
  refine yy_if_ne (tgt := 16) C dX10_cut_11 (by decide) h (fun h => ?_) (fun h => ?_)
  · refine lv_aload_n C.1.1 C.1.2.1 dX10_cut_16 rfl (lv_at hl 0 rfl) ?_
    refine yy_cVv0 (As := []) (rest := []) (id := 112) (ci := 10) (q := (RX10, TX10, 20)) C Z (ss_X10_snap l D κ ext ) (by decide) (yy_ent_112 _) rfl tw_1012 kw_X10_snap ⟨⟨rfl, rfl⟩, ⟨Nat.le_of_ble_eq_true rfl, Nat.le_of_ble_eq_true rfl⟩, Nat.le_of_ble_eq_true rfl, Nat.le_of_ble_eq_true rfl⟩ hl.1 rfl (Nat.le_of_ble_eq_true rfl) dX10_cut_17 h (fun τ H locs Z h => ?_)
    refine lv_aload_n C.1.1 C.1.2.1 dX10_cut_20 rfl (lv_at hl 0 rfl) ?_
    refine lv_iload_n C.1.1 C.1.2.1 dX10_cut_21 rfl (lv_at hl 1 rfl) ?_
    refine lv_iload_n C.1.1 C.1.2.1 dX10_cut_22 rfl (lv_at hl 2 rfl) ?_
    refine yy_cVv0 (As := [.int x1, .int x2]) (rest := []) (id := 112) (ci := 10) (q := (RX10, TX10, 20)) C Z (ss_X10_closes l D κ ext x1 x2) (by decide) (yy_ent_112 _) rfl tw_1032 kw_X10_closes ⟨⟨rfl, rfl⟩, ⟨Nat.le_of_ble_eq_true rfl, Nat.le_of_ble_eq_true rfl⟩, Nat.le_of_ble_eq_true rfl, Nat.le_of_ble_eq_true rfl⟩ hl.1 rfl (Nat.le_of_ble_eq_true rfl) dX10_cut_23 h (fun τ H locs Z h => ?_)
    refine lv_aload_n C.1.1 C.1.2.1 dX10_cut_26 rfl (lv_at hl 0 rfl) ?_
    refine lv_iload_n C.1.1 C.1.2.1 dX10_cut_27 rfl (lv_at hl 1 rfl) ?_
    refine yy_cVi0 (As := [.int x1]) (rest := []) (id := 112) (ci := 10) (q := (RX10, TX10, 20)) C Z (ss_X10_many l D κ ext x1) (by decide) (yy_ent_112 _) rfl tw_882 kw_X10_many ⟨⟨rfl, rfl⟩, ⟨Nat.le_of_ble_eq_true rfl, Nat.le_of_ble_eq_true rfl⟩, Nat.le_of_ble_eq_true rfl, Nat.le_of_ble_eq_true rfl⟩ hl.1 rfl (Nat.le_of_ble_eq_true rfl) dX10_cut_28 h (fun r2 τ H locs Z h => ?_)
    exact yy_iret C Z hr hlk rfl dX10_cut_31 h
  · refine lv_iconst (v := (-1)) C.1.1 C.1.2.1 dX10_cut_14 (by decide) ?_
    exact yy_iret C Z hr hlk rfl dX10_cut_15 h
set_option maxHeartbeats 4000000 in
set_option maxRecDepth 100000 in
theorem ss_X10_cut (l : Launch) (D : va_G) (κ : Nat → Nat) (ext : va_W) (x1 : Int32) (x2 : Int32) : yy_Mi l D κ ext yX10_cut cX10_cut 3 (some .int) rm_X10_cut 0 0 [.ref (κ 4 + 112), .int x1, .int x2] (mm_X10_cut x1 x2) := by
  intro sz τ res h
  refine yy_ofW (by decide) (Nat.le_of_ble_eq_true rfl) ?_
  intro p e s m args below meth c ls hsz E
  obtain ⟨C, hr, hlk, Z, hl⟩ := E
  subst hsz
  exact ww_X10_cut_E  C hr hlk Z hl h
/-! MovedLinesModel.take()I -/
noncomputable def mm_X10_take_11b (x1 : Int32) : yy_M ((Int32) ⊕ ((Unit))) :=
  yy_br (127 ≤ x1) (yy_rt (.inr ())) (yy_rA 114 254 (127 + x1) fun v1 => yy_wA 114 254 x1 v1 (yy_rt (.inl (x1 + 1))))
noncomputable def mm_X10_take_38 : yy_M Int32 :=
  yy_cl (mm_X10_many 0) (fun r2 => yy_rt r2)
noncomputable def mm_X10_take_11 (x1 : Int32) : yy_M Int32 :=
  yy_cl (yy_lp (fun (w : Int32) => mm_X10_take_11b w) x1) (fun w => mm_X10_take_38 )
noncomputable def mm_X10_take : yy_M Int32 :=
  yy_wF 112 0 0 (yy_cl (mm_X10_snap ) (fun _ => mm_X10_take_11 0))
theorem kw_X10_take : yy_wV RX10 yX10_take cX10_take 2 (some .int) 0 := ⟨⟨tw_1041, tw_1042, tw_61, tw_1043⟩, by decide +kernel⟩
abbrev rm_X10_take : Room := { frames := 1, cells := 0, slots := 0, locals := 21 }
set_option maxHeartbeats 4000000 in
set_option maxRecDepth 100000 in
theorem ww_X10_take_11b {x1 : Int32} {res : ((Int32) ⊕ ((Unit))) × yy_T} {Q : State → Prop} (C : yy_C D κ p m c cX10_take 2 s args RX10) (Z : yy_Z D κ ext A s.heap τ H locs) (hl : lv_has ls 2 [(0, .ref (κ 4 + 112)), (1, .int x1)]) (h : mm_X10_take_11b x1 τ = some res)
    (kI : ∀ (w : Int32) (τ1 : yy_T) (H1 : Heap) (locs1 : List Loc) (ls1 : Array Slot), res = (.inl w, τ1) → yy_Z D κ ext A s.heap τ1 H1 locs1 → lv_has ls1 2 [(0, .ref (κ 4 + 112)), (1, .int w)] → W p l e rm_X10_take s m args below meth c H1 locs1 0 0 Q (F0 m 11 ls1 []))
    (kR0 : ∀ (w : Unit) (τ1 : yy_T) (H1 : Heap) (locs1 : List Loc) (ls1 : Array Slot), res = (.inr w, τ1) → yy_Z D κ ext A s.heap τ1 H1 locs1 → lv_has ls1 2 [(0, .ref (κ 4 + 112))] → W p l e rm_X10_take s m args below meth c H1 locs1 0 0 Q (F0 m 38 ls1 [])) : W p l e rm_X10_take s m args below meth c H locs 0 0 Q (F0 m 11 ls []) := by
  unfold mm_X10_take_11b at h
  refine lv_iload_n C.1.1 C.1.2.1 dX10_take_11 rfl (lv_at hl 1 rfl) ?_
  refine lv_bipush (v := 127) C.1.1 C.1.2.1 dX10_take_12 (by decide) ?_
  refine yy_icmp_ge (tgt := 38) C dX10_take_14 (by decide) h (fun h => ?_) (fun h => ?_)
  · exact kR0 _ _ _ _ _ (yy_rt_of h) Z (lv_sub hl [0] rfl)
  · refine lv_aload_n C.1.1 C.1.2.1 dX10_take_17 rfl (lv_at hl 0 rfl) ?_
    refine yg_X10_3 C Z tw_795 dX10_take_18 ?_
    refine lv_iload_n C.1.1 C.1.2.1 dX10_take_21 rfl (lv_at hl 1 rfl) ?_
    refine lv_aload_n C.1.1 C.1.2.1 dX10_take_22 rfl (lv_at hl 0 rfl) ?_
    refine yg_X10_3 C Z tw_795 dX10_take_23 ?_
    refine lv_bipush (v := 127) C.1.1 C.1.2.1 dX10_take_26 (by decide) ?_
    refine lv_iload_n C.1.1 C.1.2.1 dX10_take_28 rfl (lv_at hl 1 rfl) ?_
    refine lv_iadd C.1.1 C.1.2.1 dX10_take_29 ?_
    refine yy_iald C Z (by decide) rfl dX10_take_30 h (fun v1 h => ?_)
    refine yy_iast C Z (by decide) rfl dX10_take_31 h (fun H locs τ Z h => ?_)
    refine lv_iinc (v := x1 + 1) (lv' := [(1, .int (x1 + 1)), (0, .ref (κ 4 + 112))]) C.1.1 C.1.2.1 dX10_take_32 hl (k := 1) rfl (by rfl) (by decide) rfl (fun ls hl => ?_)
    refine lv_goto (tgt := 11) C.1.1 C.1.2.1 dX10_take_35 (by decide) ?_
    exact kI _ _ _ _ _ (yy_rt_of h) Z (lv_sub hl [1, 0] rfl)
set_option maxHeartbeats 4000000 in
set_option maxRecDepth 100000 in
theorem ww_X10_take_38 {res : Int32 × yy_T} (C : yy_C D κ p m c cX10_take 2 s args RX10) (hr : meth.sig.returnType = (some .int)) (hlk : meth.locks = false) (Z : yy_Z D κ ext A s.heap τ H locs) (hl : lv_has ls 2 [(0, .ref (κ 4 + 112))]) (h : mm_X10_take_38  τ = some res) : W p l e rm_X10_take s m args below meth c H locs 0 0 (MQ below (yy_Qi D κ ext A res) args s 0 0 A) (F0 m 38 ls []) := by
  unfold mm_X10_take_38 at h
  refine lv_aload_n C.1.1 C.1.2.1 dX10_take_38 rfl (lv_at hl 0 rfl) ?_
  refine lv_iconst (v := 0) C.1.1 C.1.2.1 dX10_take_39 (by decide) ?_
  refine yy_cVi0 (As := [.int 0]) (rest := []) (id := 112) (ci := 10) (q := (RX10, TX10, 20)) C Z (ss_X10_many l D κ ext 0) (by decide) (yy_ent_112 _) rfl tw_882 kw_X10_many ⟨⟨rfl, rfl⟩, ⟨Nat.le_of_ble_eq_true rfl, Nat.le_of_ble_eq_true rfl⟩, Nat.le_of_ble_eq_true rfl, Nat.le_of_ble_eq_true rfl⟩ hl.1 rfl (Nat.le_of_ble_eq_true rfl) dX10_take_40 h (fun r2 τ H locs Z h => ?_)
  exact yy_iret C Z hr hlk rfl dX10_take_43 h
set_option maxHeartbeats 4000000 in
set_option maxRecDepth 100000 in
theorem ww_X10_take_11 {x1 : Int32} {res : Int32 × yy_T} (C : yy_C D κ p m c cX10_take 2 s args RX10) (hr : meth.sig.returnType = (some .int)) (hlk : meth.locks = false) (Z : yy_Z D κ ext A s.heap τ H locs) (hl : lv_has ls 2 [(0, .ref (κ 4 + 112)), (1, .int x1)]) (h : mm_X10_take_11 x1 τ = some res) : W p l e rm_X10_take s m args below meth c H locs 0 0 (MQ below (yy_Qi D κ ext A res) args s 0 0 A) (F0 m 11 ls []) := by
  unfold mm_X10_take_11 at h
  refine yy_loop h (fun (w : Int32) (τ : yy_T) => ∀ (H : Heap) (locs : List Loc) (ls : Array Slot), yy_Z D κ ext A s.heap τ H locs → lv_has ls 2 [(0, .ref (κ 4 + 112)), (1, .int w)] → W p l e rm_X10_take s m args below meth c H locs 0 0 (MQ below (yy_Qi D κ ext A res) args s 0 0 A) (F0 m 11 ls [])) ?_ H locs ls Z hl
  intro w τ y hy hI hX H locs ls Z hl
  refine ww_X10_take_11b  C Z hl hy (fun w τ H locs ls ey Z hl => hI w τ ey H locs ls Z hl) (fun w τ H locs ls ey Z hl => ?_)
  · have h := hX _ _ ey
    exact ww_X10_take_38  C hr hlk Z (lv_sub hl [0] rfl) h
set_option maxHeartbeats 4000000 in
set_option maxRecDepth 100000 in
theorem ww_X10_take_E {res : Int32 × yy_T} (C : yy_C D κ p m c cX10_take 2 s args RX10) (hr : meth.sig.returnType = (some .int)) (hlk : meth.locks = false) (Z : yy_Z D κ ext A s.heap τ H locs) (hl : lv_has ls 2 [(0, .ref (κ 4 + 112))]) (h : mm_X10_take  τ = some res) : W p l e rm_X10_take s m args below meth c H locs 0 0 (MQ below (yy_Qi D κ ext A res) args s 0 0 A) (F0 m 0 ls []) := by
  unfold mm_X10_take at h
  refine lv_aload_n C.1.1 C.1.2.1 dX10_take_0 rfl (lv_at hl 0 rfl) ?_
  refine lv_iconst (v := 0) C.1.1 C.1.2.1 dX10_take_1 (by decide) ?_
  refine yp_X10_0 C Z tw_792 dX10_take_2 h (fun H locs τ Z h => ?_)
  refine lv_aload_n C.1.1 C.1.2.1 dX10_take_5 rfl (lv_at hl 0 rfl) ?_
  refine yy_cVv0 (As := []) (rest := []) (id := 112) (ci := 10) (q := (RX10, TX10, 20)) C Z (ss_X10_snap l D κ ext ) (by decide) (yy_ent_112 _) rfl tw_1012 kw_X10_snap ⟨⟨rfl, rfl⟩, ⟨Nat.le_of_ble_eq_true rfl, Nat.le_of_ble_eq_true rfl⟩, Nat.le_of_ble_eq_true rfl, Nat.le_of_ble_eq_true rfl⟩ hl.1 rfl (Nat.le_of_ble_eq_true rfl) dX10_take_6 h (fun τ H locs Z h => ?_)
  refine lv_iconst (v := 0) C.1.1 C.1.2.1 dX10_take_9 (by decide) ?_
  refine lv_istore_n (lv' := [(1, .int 0), (0, .ref (κ 4 + 112))]) C.1.1 C.1.2.1 dX10_take_10 rfl hl (by decide) rfl (fun ls hl => ?_)
  exact ww_X10_take_11  C hr hlk Z (lv_sub hl [1, 0] rfl) h
set_option maxHeartbeats 4000000 in
set_option maxRecDepth 100000 in
theorem ss_X10_take (l : Launch) (D : va_G) (κ : Nat → Nat) (ext : va_W) : yy_Mi l D κ ext yX10_take cX10_take 2 (some .int) rm_X10_take 0 0 [.ref (κ 4 + 112)] (mm_X10_take ) := by
  intro sz τ res h
  refine yy_ofW (by decide) (Nat.le_of_ble_eq_true rfl) ?_
  intro p e s m args below meth c ls hsz E
  obtain ⟨C, hr, hlk, Z, hl⟩ := E
  subst hsz
  exact ww_X10_take_E  C hr hlk Z hl h
/-! MovedLinesModel.undo()I -/
noncomputable def mm_X10_undo_26b (x1 : Int32) : yy_M ((Int32) ⊕ ((Unit))) :=
  yy_br (254 ≤ x1) (yy_rt (.inr ())) (yy_rF 112 6 fun v3 => yy_rA 116 2540 ((254 * v3) + x1) fun v4 => yy_wA 114 254 x1 v4 (yy_rt (.inl (x1 + 1))))
noncomputable def mm_X10_undo_60 : yy_M Int32 :=
  yy_rF 112 6 fun v5 => yy_rt v5
noncomputable def mm_X10_undo_26 (x1 : Int32) : yy_M Int32 :=
  yy_cl (yy_lp (fun (w : Int32) => mm_X10_undo_26b w) x1) (fun w => mm_X10_undo_60 )
noncomputable def mm_X10_undo : yy_M Int32 :=
  yy_wF 112 0 0 (yy_rF 112 6 fun v1 => yy_br (v1 = 0) (yy_rt ((-1))) (yy_rF 112 6 fun v2 => yy_wF 112 6 (v2 - 1) (mm_X10_undo_26 0)))
theorem kw_X10_undo : yy_wV RX10 yX10_undo cX10_undo 2 (some .int) 0 := ⟨⟨tw_1045, tw_1046, tw_61, tw_1047⟩, by decide +kernel⟩
abbrev rm_X10_undo : Room := { frames := 0, cells := 0, slots := 0, locals := 0 }
set_option maxHeartbeats 4000000 in
set_option maxRecDepth 100000 in
theorem ww_X10_undo_26b {x1 : Int32} {res : ((Int32) ⊕ ((Unit))) × yy_T} {Q : State → Prop} (C : yy_C D κ p m c cX10_undo 2 s args RX10) (Z : yy_Z D κ ext A s.heap τ H locs) (hl : lv_has ls 2 [(0, .ref (κ 4 + 112)), (1, .int x1)]) (h : mm_X10_undo_26b x1 τ = some res)
    (kI : ∀ (w : Int32) (τ1 : yy_T) (H1 : Heap) (locs1 : List Loc) (ls1 : Array Slot), res = (.inl w, τ1) → yy_Z D κ ext A s.heap τ1 H1 locs1 → lv_has ls1 2 [(0, .ref (κ 4 + 112)), (1, .int w)] → W p l e rm_X10_undo s m args below meth c H1 locs1 0 0 Q (F0 m 26 ls1 []))
    (kR0 : ∀ (w : Unit) (τ1 : yy_T) (H1 : Heap) (locs1 : List Loc) (ls1 : Array Slot), res = (.inr w, τ1) → yy_Z D κ ext A s.heap τ1 H1 locs1 → lv_has ls1 2 [(0, .ref (κ 4 + 112))] → W p l e rm_X10_undo s m args below meth c H1 locs1 0 0 Q (F0 m 60 ls1 [])) : W p l e rm_X10_undo s m args below meth c H locs 0 0 Q (F0 m 26 ls []) := by
  unfold mm_X10_undo_26b at h
  refine lv_iload_n C.1.1 C.1.2.1 dX10_undo_26 rfl (lv_at hl 1 rfl) ?_
  refine lv_sipush (v := 254) C.1.1 C.1.2.1 dX10_undo_27 (by decide) ?_
  refine yy_icmp_ge (tgt := 60) C dX10_undo_30 (by decide) h (fun h => ?_) (fun h => ?_)
  · exact kR0 _ _ _ _ _ (yy_rt_of h) Z (lv_sub hl [0] rfl)
  · refine lv_aload_n C.1.1 C.1.2.1 dX10_undo_33 rfl (lv_at hl 0 rfl) ?_
    refine yg_X10_3 C Z tw_795 dX10_undo_34 ?_
    refine lv_iload_n C.1.1 C.1.2.1 dX10_undo_37 rfl (lv_at hl 1 rfl) ?_
    refine lv_aload_n C.1.1 C.1.2.1 dX10_undo_38 rfl (lv_at hl 0 rfl) ?_
    refine yg_X10_5 C Z tw_797 dX10_undo_39 ?_
    refine lv_sipush (v := 254) C.1.1 C.1.2.1 dX10_undo_42 (by decide) ?_
    refine lv_aload_n C.1.1 C.1.2.1 dX10_undo_45 rfl (lv_at hl 0 rfl) ?_
    refine yg_X10_6 C Z tw_798 dX10_undo_46 h (fun v3 h => ?_)
    refine lv_imul C.1.1 C.1.2.1 dX10_undo_49 ?_
    refine lv_iload_n C.1.1 C.1.2.1 dX10_undo_50 rfl (lv_at hl 1 rfl) ?_
    refine lv_iadd C.1.1 C.1.2.1 dX10_undo_51 ?_
    refine yy_iald C Z (by decide) rfl dX10_undo_52 h (fun v4 h => ?_)
    refine yy_iast C Z (by decide) rfl dX10_undo_53 h (fun H locs τ Z h => ?_)
    refine lv_iinc (v := x1 + 1) (lv' := [(1, .int (x1 + 1)), (0, .ref (κ 4 + 112))]) C.1.1 C.1.2.1 dX10_undo_54 hl (k := 1) rfl (by rfl) (by decide) rfl (fun ls hl => ?_)
    refine lv_goto (tgt := 26) C.1.1 C.1.2.1 dX10_undo_57 (by decide) ?_
    exact kI _ _ _ _ _ (yy_rt_of h) Z (lv_sub hl [1, 0] rfl)
set_option maxHeartbeats 4000000 in
set_option maxRecDepth 100000 in
theorem ww_X10_undo_60 {res : Int32 × yy_T} (C : yy_C D κ p m c cX10_undo 2 s args RX10) (hr : meth.sig.returnType = (some .int)) (hlk : meth.locks = false) (Z : yy_Z D κ ext A s.heap τ H locs) (hl : lv_has ls 2 [(0, .ref (κ 4 + 112))]) (h : mm_X10_undo_60  τ = some res) : W p l e rm_X10_undo s m args below meth c H locs 0 0 (MQ below (yy_Qi D κ ext A res) args s 0 0 A) (F0 m 60 ls []) := by
  unfold mm_X10_undo_60 at h
  refine lv_aload_n C.1.1 C.1.2.1 dX10_undo_60 rfl (lv_at hl 0 rfl) ?_
  refine yg_X10_6 C Z tw_798 dX10_undo_61 h (fun v5 h => ?_)
  exact yy_iret C Z hr hlk rfl dX10_undo_64 h
set_option maxHeartbeats 4000000 in
set_option maxRecDepth 100000 in
theorem ww_X10_undo_26 {x1 : Int32} {res : Int32 × yy_T} (C : yy_C D κ p m c cX10_undo 2 s args RX10) (hr : meth.sig.returnType = (some .int)) (hlk : meth.locks = false) (Z : yy_Z D κ ext A s.heap τ H locs) (hl : lv_has ls 2 [(0, .ref (κ 4 + 112)), (1, .int x1)]) (h : mm_X10_undo_26 x1 τ = some res) : W p l e rm_X10_undo s m args below meth c H locs 0 0 (MQ below (yy_Qi D κ ext A res) args s 0 0 A) (F0 m 26 ls []) := by
  unfold mm_X10_undo_26 at h
  refine yy_loop h (fun (w : Int32) (τ : yy_T) => ∀ (H : Heap) (locs : List Loc) (ls : Array Slot), yy_Z D κ ext A s.heap τ H locs → lv_has ls 2 [(0, .ref (κ 4 + 112)), (1, .int w)] → W p l e rm_X10_undo s m args below meth c H locs 0 0 (MQ below (yy_Qi D κ ext A res) args s 0 0 A) (F0 m 26 ls [])) ?_ H locs ls Z hl
  intro w τ y hy hI hX H locs ls Z hl
  refine ww_X10_undo_26b  C Z hl hy (fun w τ H locs ls ey Z hl => hI w τ ey H locs ls Z hl) (fun w τ H locs ls ey Z hl => ?_)
  · have h := hX _ _ ey
    exact ww_X10_undo_60  C hr hlk Z (lv_sub hl [0] rfl) h
set_option maxHeartbeats 4000000 in
set_option maxRecDepth 100000 in
theorem ww_X10_undo_E {res : Int32 × yy_T} (C : yy_C D κ p m c cX10_undo 2 s args RX10) (hr : meth.sig.returnType = (some .int)) (hlk : meth.locks = false) (Z : yy_Z D κ ext A s.heap τ H locs) (hl : lv_has ls 2 [(0, .ref (κ 4 + 112))]) (h : mm_X10_undo  τ = some res) : W p l e rm_X10_undo s m args below meth c H locs 0 0 (MQ below (yy_Qi D κ ext A res) args s 0 0 A) (F0 m 0 ls []) := by
  unfold mm_X10_undo at h
  refine lv_aload_n C.1.1 C.1.2.1 dX10_undo_0 rfl (lv_at hl 0 rfl) ?_
  refine lv_iconst (v := 0) C.1.1 C.1.2.1 dX10_undo_1 (by decide) ?_
  refine yp_X10_0 C Z tw_792 dX10_undo_2 h (fun H locs τ Z h => ?_)
  refine lv_aload_n C.1.1 C.1.2.1 dX10_undo_5 rfl (lv_at hl 0 rfl) ?_
  refine yg_X10_6 C Z tw_798 dX10_undo_6 h (fun v1 h => ?_)
  refine yy_if_ne (tgt := 14) C dX10_undo_9 (by decide) h (fun h => ?_) (fun h => ?_)
  · refine lv_aload_n C.1.1 C.1.2.1 dX10_undo_14 rfl (lv_at hl 0 rfl) ?_
    refine lv_dup C.1.1 C.1.2.1 dX10_undo_15 rfl ?_
    refine yg_X10_6 C Z tw_798 dX10_undo_16 h (fun v2 h => ?_)
    refine lv_iconst (v := 1) C.1.1 C.1.2.1 dX10_undo_19 (by decide) ?_
    refine lv_isub C.1.1 C.1.2.1 dX10_undo_20 ?_
    refine yp_X10_6 C Z tw_798 dX10_undo_21 h (fun H locs τ Z h => ?_)
    refine lv_iconst (v := 0) C.1.1 C.1.2.1 dX10_undo_24 (by decide) ?_
    refine lv_istore_n (lv' := [(1, .int 0), (0, .ref (κ 4 + 112))]) C.1.1 C.1.2.1 dX10_undo_25 rfl hl (by decide) rfl (fun ls hl => ?_)
    exact ww_X10_undo_26  C hr hlk Z (lv_sub hl [1, 0] rfl) h
  · refine lv_iconst (v := (-1)) C.1.1 C.1.2.1 dX10_undo_12 (by decide) ?_
    exact yy_iret C Z hr hlk rfl dX10_undo_13 h
set_option maxHeartbeats 4000000 in
set_option maxRecDepth 100000 in
theorem ss_X10_undo (l : Launch) (D : va_G) (κ : Nat → Nat) (ext : va_W) : yy_Mi l D κ ext yX10_undo cX10_undo 2 (some .int) rm_X10_undo 0 0 [.ref (κ 4 + 112)] (mm_X10_undo ) := by
  intro sz τ res h
  refine yy_ofW (by decide) (Nat.le_of_ble_eq_true rfl) ?_
  intro p e s m args below meth c ls hsz E
  obtain ⟨C, hr, hlk, Z, hl⟩ := E
  subst hsz
  exact ww_X10_undo_E  C hr hlk Z hl h
end
