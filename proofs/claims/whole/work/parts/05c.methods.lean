section
variable {p : Program} {l : Launch} {e : Env} {s : State} {m : MethodId} {args : Array Value} {below : List Frame} {meth : Method} {c : Code} {H : Heap} {locs : List Loc} {ls : Array Slot} {D : va_G} {κ : Nat → Nat} {ext : va_W} {A : Nat → Prop} {τ : yy_T}
/-! MovedLines$Keeper.findAnchors(ILMovedLines$Kinds;)V -/
noncomputable def mm_X3_findAnchors_115 (x1 : Int32) (x3 : Int32) : yy_M ((Int32) ⊕ ((Unit))) :=
  yy_rt (.inl (x3 + 1))
noncomputable def mm_X3_findAnchors_12b (x1 : Int32) (x3 : Int32) : yy_M ((Int32) ⊕ ((Unit))) :=
  yy_rA 55 14 x1 fun v2 => yy_br (v2 ≤ x3) (yy_rt (.inr ())) (yy_rA 51 14 x3 fun v3 => yy_rA 56 14 x1 fun v4 => yy_rA 57 14 x1 fun v5 => yy_cl (mm_X3_onlyPlace v3 52 v4 v5) (fun r6 => yy_br (r6 = ((-1))) (mm_X3_findAnchors_115 x1 x3) (yy_rA 54 14 x1 fun v7 => yy_rA 55 14 x1 fun v8 => yy_cl (mm_X3_onlyPlace v3 51 v7 v8) (fun r9 => yy_br (r9 = ((-1))) (mm_X3_findAnchors_115 x1 x3) (yy_rF 53 8 fun v10 => yy_wA 58 14 v10 x3 (yy_rF 53 8 fun v11 => yy_wA 59 14 v11 r6 (yy_rF 53 8 fun v12 => yy_wF 53 8 (v12 + 1) (mm_X3_findAnchors_115 x1 x3))))))))
noncomputable def mm_X3_findAnchors_121 : yy_M Unit :=
  yy_rt ()
noncomputable def mm_X3_findAnchors_12 (x1 : Int32) (x3 : Int32) : yy_M Unit :=
  yy_cl (yy_lp (fun (w : Int32) => mm_X3_findAnchors_12b x1 w) x3) (fun w => mm_X3_findAnchors_121 )
noncomputable def mm_X3_findAnchors (x1 : Int32) : yy_M Unit :=
  yy_wF 53 8 0 (yy_rA 54 14 x1 fun v1 => mm_X3_findAnchors_12 x1 v1)
theorem kw_X3_findAnchors : yy_wV RX3 yX3_findAnchors cX3_findAnchors 6 none 2 := ⟨⟨tw_488, tw_9, tw_58, tw_489⟩, by decide +kernel⟩
abbrev rm_X3_findAnchors : Room := { frames := 1, cells := 0, slots := 0, locals := 25 }
set_option maxHeartbeats 4000000 in
set_option maxRecDepth 100000 in
theorem ww_X3_findAnchors_115 {x1 : Int32} {x3 : Int32} {res : ((Int32) ⊕ ((Unit))) × yy_T} {Q : State → Prop} (C : yy_C D κ p m c cX3_findAnchors 6 s args RX3) (Z : yy_Z D κ ext A s.heap τ H locs) (hl : lv_has ls 6 [(0, .ref (κ 4 + 53)), (1, .int x1), (2, .ref (κ 4 + 50)), (3, .int x3)]) (h : mm_X3_findAnchors_115 x1 x3 τ = some res)
    (kI : ∀ (w : Int32) (τ1 : yy_T) (H1 : Heap) (locs1 : List Loc) (ls1 : Array Slot), res = (.inl w, τ1) → yy_Z D κ ext A s.heap τ1 H1 locs1 → lv_has ls1 6 [(0, .ref (κ 4 + 53)), (1, .int x1), (2, .ref (κ 4 + 50)), (3, .int w)] → W p l e rm_X3_findAnchors s m args below meth c H1 locs1 0 0 Q (F0 m 12 ls1 [])) : W p l e rm_X3_findAnchors s m args below meth c H locs 0 0 Q (F0 m 115 ls []) := by
  unfold mm_X3_findAnchors_115 at h
  refine lv_iinc (v := x3 + 1) (lv' := [(3, .int (x3 + 1)), (0, .ref (κ 4 + 53)), (1, .int x1), (2, .ref (κ 4 + 50))]) C.1.1 C.1.2.1 dX3_findAnchors_115 hl (k := 3) rfl (by rfl) (by decide) rfl (fun ls hl => ?_)
  refine lv_goto (tgt := 12) C.1.1 C.1.2.1 dX3_findAnchors_118 (by decide) ?_
  exact kI _ _ _ _ _ (yy_rt_of h) Z (lv_sub hl [1, 2, 3, 0] rfl)
set_option maxHeartbeats 4000000 in
set_option maxRecDepth 100000 in
theorem ww_X3_findAnchors_12b {x1 : Int32} {x3 : Int32} {res : ((Int32) ⊕ ((Unit))) × yy_T} {Q : State → Prop} (C : yy_C D κ p m c cX3_findAnchors 6 s args RX3) (Z : yy_Z D κ ext A s.heap τ H locs) (hl : lv_has ls 6 [(0, .ref (κ 4 + 53)), (1, .int x1), (2, .ref (κ 4 + 50)), (3, .int x3)]) (h : mm_X3_findAnchors_12b x1 x3 τ = some res)
    (kI : ∀ (w : Int32) (τ1 : yy_T) (H1 : Heap) (locs1 : List Loc) (ls1 : Array Slot), res = (.inl w, τ1) → yy_Z D κ ext A s.heap τ1 H1 locs1 → lv_has ls1 6 [(0, .ref (κ 4 + 53)), (1, .int x1), (2, .ref (κ 4 + 50)), (3, .int w)] → W p l e rm_X3_findAnchors s m args below meth c H1 locs1 0 0 Q (F0 m 12 ls1 []))
    (kR0 : ∀ (w : Unit) (τ1 : yy_T) (H1 : Heap) (locs1 : List Loc) (ls1 : Array Slot), res = (.inr w, τ1) → yy_Z D κ ext A s.heap τ1 H1 locs1 → lv_has ls1 6 [] → W p l e rm_X3_findAnchors s m args below meth c H1 locs1 0 0 Q (F0 m 121 ls1 [])) : W p l e rm_X3_findAnchors s m args below meth c H locs 0 0 Q (F0 m 12 ls []) := by
  unfold mm_X3_findAnchors_12b at h
  refine lv_iload_n C.1.1 C.1.2.1 dX3_findAnchors_12 rfl (lv_at hl 3 rfl) ?_
  refine lv_aload_n C.1.1 C.1.2.1 dX3_findAnchors_13 rfl (lv_at hl 0 rfl) ?_
  refine yg_X3_1 C Z tw_210 dX3_findAnchors_14 ?_
  refine lv_iload_n C.1.1 C.1.2.1 dX3_findAnchors_17 rfl (lv_at hl 1 rfl) ?_
  refine yy_iald C Z (by decide) rfl dX3_findAnchors_18 h (fun v2 h => ?_)
  refine yy_icmp_ge (tgt := 121) C dX3_findAnchors_19 (by decide) h (fun h => ?_) (fun h => ?_)
  · exact kR0 _ _ _ _ _ (yy_rt_of h) Z (lv_sub hl [] rfl)
  · refine lv_aload_n C.1.1 C.1.2.1 dX3_findAnchors_22 rfl (lv_at hl 2 rfl) ?_
    refine yg_X4_0 C Z tw_184 dX3_findAnchors_23 ?_
    refine lv_iload_n C.1.1 C.1.2.1 dX3_findAnchors_26 rfl (lv_at hl 3 rfl) ?_
    refine yy_iald C Z (by decide) rfl dX3_findAnchors_27 h (fun v3 h => ?_)
    refine lv_istore (lv' := [(4, .int v3), (0, .ref (κ 4 + 53)), (1, .int x1), (2, .ref (κ 4 + 50)), (3, .int x3)]) C.1.1 C.1.2.1 dX3_findAnchors_28 hl (by decide) rfl (fun ls hl => ?_)
    refine lv_iload C.1.1 C.1.2.1 dX3_findAnchors_30 (lv_at hl 0 rfl) ?_
    refine lv_aload_n C.1.1 C.1.2.1 dX3_findAnchors_32 rfl (lv_at hl 3 rfl) ?_
    refine yg_X4_1 C Z tw_187 dX3_findAnchors_33 ?_
    refine lv_aload_n C.1.1 C.1.2.1 dX3_findAnchors_36 rfl (lv_at hl 1 rfl) ?_
    refine yg_X3_2 C Z tw_211 dX3_findAnchors_37 ?_
    refine lv_iload_n C.1.1 C.1.2.1 dX3_findAnchors_40 rfl (lv_at hl 2 rfl) ?_
    refine yy_iald C Z (by decide) rfl dX3_findAnchors_41 h (fun v4 h => ?_)
    refine lv_aload_n C.1.1 C.1.2.1 dX3_findAnchors_42 rfl (lv_at hl 1 rfl) ?_
    refine yg_X3_3 C Z tw_212 dX3_findAnchors_43 ?_
    refine lv_iload_n C.1.1 C.1.2.1 dX3_findAnchors_46 rfl (lv_at hl 2 rfl) ?_
    refine yy_iald C Z (by decide) rfl dX3_findAnchors_47 h (fun v5 h => ?_)
    refine yy_cSi0 (As := [.int v3, .ref (κ 4 + 52), .int v4, .int v5]) (rest := [])  C Z (ss_X3_onlyPlace l D κ ext v3 52 v4 v5 (by decide)) tw_490 kw_X3_onlyPlace ⟨⟨rfl, rfl⟩, ⟨Nat.le_of_ble_eq_true rfl, Nat.le_of_ble_eq_true rfl⟩, Nat.le_of_ble_eq_true rfl, Nat.le_of_ble_eq_true rfl⟩ hl.1 rfl (Nat.le_of_ble_eq_true rfl) dX3_findAnchors_48 h (fun r6 τ H locs Z h => ?_)
    refine lv_istore (lv' := [(5, .int r6), (4, .int v3), (0, .ref (κ 4 + 53)), (1, .int x1), (2, .ref (κ 4 + 50)), (3, .int x3)]) C.1.1 C.1.2.1 dX3_findAnchors_51 hl (by decide) rfl (fun ls hl => ?_)
    refine lv_iload C.1.1 C.1.2.1 dX3_findAnchors_53 (lv_at hl 0 rfl) ?_
    refine lv_iconst (v := (-1)) C.1.1 C.1.2.1 dX3_findAnchors_55 (by decide) ?_
    refine yy_icmp_eq (tgt := 115) C dX3_findAnchors_56 (by decide) h (fun h => ?_) (fun h => ?_)
    · exact ww_X3_findAnchors_115  C Z (lv_sub hl [2, 3, 4, 5] rfl) h kI
    · refine lv_iload C.1.1 C.1.2.1 dX3_findAnchors_59 (lv_at hl 1 rfl) ?_
      refine lv_aload_n C.1.1 C.1.2.1 dX3_findAnchors_61 rfl (lv_at hl 4 rfl) ?_
      refine yg_X4_0 C Z tw_184 dX3_findAnchors_62 ?_
      refine lv_aload_n C.1.1 C.1.2.1 dX3_findAnchors_65 rfl (lv_at hl 2 rfl) ?_
      refine yg_X3_0 C Z tw_209 dX3_findAnchors_66 ?_
      refine lv_iload_n C.1.1 C.1.2.1 dX3_findAnchors_69 rfl (lv_at hl 3 rfl) ?_
      refine yy_iald C Z (by decide) rfl dX3_findAnchors_70 h (fun v7 h => ?_)
      refine lv_aload_n C.1.1 C.1.2.1 dX3_findAnchors_71 rfl (lv_at hl 2 rfl) ?_
      refine yg_X3_1 C Z tw_210 dX3_findAnchors_72 ?_
      refine lv_iload_n C.1.1 C.1.2.1 dX3_findAnchors_75 rfl (lv_at hl 3 rfl) ?_
      refine yy_iald C Z (by decide) rfl dX3_findAnchors_76 h (fun v8 h => ?_)
      refine yy_cSi0 (As := [.int v3, .ref (κ 4 + 51), .int v7, .int v8]) (rest := [])  C Z (ss_X3_onlyPlace l D κ ext v3 51 v7 v8 (by decide)) tw_490 kw_X3_onlyPlace ⟨⟨rfl, rfl⟩, ⟨Nat.le_of_ble_eq_true rfl, Nat.le_of_ble_eq_true rfl⟩, Nat.le_of_ble_eq_true rfl, Nat.le_of_ble_eq_true rfl⟩ hl.1 rfl (Nat.le_of_ble_eq_true rfl) dX3_findAnchors_77 h (fun r9 τ H locs Z h => ?_)
      refine lv_iconst (v := (-1)) C.1.1 C.1.2.1 dX3_findAnchors_80 (by decide) ?_
      refine yy_icmp_eq (tgt := 115) C dX3_findAnchors_81 (by decide) h (fun h => ?_) (fun h => ?_)
      · exact ww_X3_findAnchors_115  C Z (lv_sub hl [2, 3, 4, 5] rfl) h kI
      · refine lv_aload_n C.1.1 C.1.2.1 dX3_findAnchors_84 rfl (lv_at hl 2 rfl) ?_
        refine yg_X3_5 C Z tw_214 dX3_findAnchors_85 ?_
        refine lv_aload_n C.1.1 C.1.2.1 dX3_findAnchors_88 rfl (lv_at hl 2 rfl) ?_
        refine yg_X3_8 C Z tw_217 dX3_findAnchors_89 h (fun v10 h => ?_)
        refine lv_iload_n C.1.1 C.1.2.1 dX3_findAnchors_92 rfl (lv_at hl 5 rfl) ?_
        refine yy_iast C Z (by decide) rfl dX3_findAnchors_93 h (fun H locs τ Z h => ?_)
        refine lv_aload_n C.1.1 C.1.2.1 dX3_findAnchors_94 rfl (lv_at hl 2 rfl) ?_
        refine yg_X3_6 C Z tw_215 dX3_findAnchors_95 ?_
        refine lv_aload_n C.1.1 C.1.2.1 dX3_findAnchors_98 rfl (lv_at hl 2 rfl) ?_
        refine yg_X3_8 C Z tw_217 dX3_findAnchors_99 h (fun v11 h => ?_)
        refine lv_iload C.1.1 C.1.2.1 dX3_findAnchors_102 (lv_at hl 0 rfl) ?_
        refine yy_iast C Z (by decide) rfl dX3_findAnchors_104 h (fun H locs τ Z h => ?_)
        refine lv_aload_n C.1.1 C.1.2.1 dX3_findAnchors_105 rfl (lv_at hl 2 rfl) ?_
        refine lv_dup C.1.1 C.1.2.1 dX3_findAnchors_106 rfl ?_
        refine yg_X3_8 C Z tw_217 dX3_findAnchors_107 h (fun v12 h => ?_)
        refine lv_iconst (v := 1) C.1.1 C.1.2.1 dX3_findAnchors_110 (by decide) ?_
        refine lv_iadd C.1.1 C.1.2.1 dX3_findAnchors_111 ?_
        refine yp_X3_8 C Z tw_217 dX3_findAnchors_112 h (fun H locs τ Z h => ?_)
        exact ww_X3_findAnchors_115  C Z (lv_sub hl [2, 3, 4, 5] rfl) h kI
set_option maxHeartbeats 4000000 in
set_option maxRecDepth 100000 in
theorem ww_X3_findAnchors_121 {res : Unit × yy_T} (C : yy_C D κ p m c cX3_findAnchors 6 s args RX3) (hr : meth.sig.returnType = none) (hlk : meth.locks = false) (Z : yy_Z D κ ext A s.heap τ H locs) (hl : lv_has ls 6 []) (h : mm_X3_findAnchors_121  τ = some res) : W p l e rm_X3_findAnchors s m args below meth c H locs 0 0 (MQ below (yy_Qv D κ ext A res) args s 0 0 A) (F0 m 121 ls []) := by
  unfold mm_X3_findAnchors_121 at h
  exact yy_vret C Z hr hlk dX3_findAnchors_121 h
set_option maxHeartbeats 4000000 in
set_option maxRecDepth 100000 in
theorem ww_X3_findAnchors_12 {x1 : Int32} {x3 : Int32} {res : Unit × yy_T} (C : yy_C D κ p m c cX3_findAnchors 6 s args RX3) (hr : meth.sig.returnType = none) (hlk : meth.locks = false) (Z : yy_Z D κ ext A s.heap τ H locs) (hl : lv_has ls 6 [(0, .ref (κ 4 + 53)), (1, .int x1), (2, .ref (κ 4 + 50)), (3, .int x3)]) (h : mm_X3_findAnchors_12 x1 x3 τ = some res) : W p l e rm_X3_findAnchors s m args below meth c H locs 0 0 (MQ below (yy_Qv D κ ext A res) args s 0 0 A) (F0 m 12 ls []) := by
  unfold mm_X3_findAnchors_12 at h
  refine yy_loop h (fun (w : Int32) (τ : yy_T) => ∀ (H : Heap) (locs : List Loc) (ls : Array Slot), yy_Z D κ ext A s.heap τ H locs → lv_has ls 6 [(0, .ref (κ 4 + 53)), (1, .int x1), (2, .ref (κ 4 + 50)), (3, .int w)] → W p l e rm_X3_findAnchors s m args below meth c H locs 0 0 (MQ below (yy_Qv D κ ext A res) args s 0 0 A) (F0 m 12 ls [])) ?_ H locs ls Z hl
  intro w τ y hy hI hX H locs ls Z hl
  refine ww_X3_findAnchors_12b  C Z hl hy (fun w τ H locs ls ey Z hl => hI w τ ey H locs ls Z hl) (fun w τ H locs ls ey Z hl => ?_)
  · have h := hX _ _ ey
    exact ww_X3_findAnchors_121  C hr hlk Z (lv_sub hl [] rfl) h
set_option maxHeartbeats 4000000 in
set_option maxRecDepth 100000 in
theorem ww_X3_findAnchors_E {x1 : Int32} {res : Unit × yy_T} (C : yy_C D κ p m c cX3_findAnchors 6 s args RX3) (hr : meth.sig.returnType = none) (hlk : meth.locks = false) (Z : yy_Z D κ ext A s.heap τ H locs) (hl : lv_has ls 6 [(0, .ref (κ 4 + 53)), (1, .int x1), (2, .ref (κ 4 + 50))]) (h : mm_X3_findAnchors x1 τ = some res) : W p l e rm_X3_findAnchors s m args below meth c H locs 0 0 (MQ below (yy_Qv D κ ext A res) args s 0 0 A) (F0 m 0 ls []) := by
  unfold mm_X3_findAnchors at h
  refine lv_aload_n C.1.1 C.1.2.1 dX3_findAnchors_0 rfl (lv_at hl 0 rfl) ?_
  refine lv_iconst (v := 0) C.1.1 C.1.2.1 dX3_findAnchors_1 (by decide) ?_
  refine yp_X3_8 C Z tw_217 dX3_findAnchors_2 h (fun H locs τ Z h => ?_)
  refine lv_aload_n C.1.1 C.1.2.1 dX3_findAnchors_5 rfl (lv_at hl 0 rfl) ?_
  refine yg_X3_0 C Z tw_209 dX3_findAnchors_6 ?_
  refine lv_iload_n C.1.1 C.1.2.1 dX3_findAnchors_9 rfl (lv_at hl 1 rfl) ?_
  refine yy_iald C Z (by decide) rfl dX3_findAnchors_10 h (fun v1 h => ?_)
  refine lv_istore_n (lv' := [(3, .int v1), (0, .ref (κ 4 + 53)), (1, .int x1), (2, .ref (κ 4 + 50))]) C.1.1 C.1.2.1 dX3_findAnchors_11 rfl hl (by decide) rfl (fun ls hl => ?_)
  exact ww_X3_findAnchors_12  C hr hlk Z (lv_sub hl [1, 2, 3, 0] rfl) h
set_option maxHeartbeats 4000000 in
set_option maxRecDepth 100000 in
theorem ss_X3_findAnchors (l : Launch) (D : va_G) (κ : Nat → Nat) (ext : va_W) (x1 : Int32) : yy_Mv l D κ ext yX3_findAnchors cX3_findAnchors 6 none rm_X3_findAnchors 0 0 [.ref (κ 4 + 53), .int x1, .ref (κ 4 + 50)] (mm_X3_findAnchors x1) := by
  intro sz τ res h
  refine yy_ofW (by decide) (Nat.le_of_ble_eq_true rfl) ?_
  intro p e s m args below meth c ls hsz E
  obtain ⟨C, hr, hlk, Z, hl⟩ := E
  subst hsz
  exact ww_X3_findAnchors_E  C hr hlk Z hl h
/-! MovedLines$Keeper.keepEnds(ILMovedLines$Kinds;LMovedLines$Told;)V -/
noncomputable def mm_X3_keepEnds_0b (x1 : Int32) (k3 : Nat) : yy_M ((Unit) ⊕ ((Unit))) :=
  yy_rA 54 14 x1 fun v1 => yy_rA 55 14 x1 fun v2 => yy_br (v2 ≤ v1) (yy_rt (.inr ())) (yy_rA 56 14 x1 fun v3 => yy_rA 57 14 x1 fun v4 => yy_br (v4 ≤ v3) (yy_rt (.inr ())) (yy_rA 54 14 x1 fun v5 => yy_rA 56 14 x1 fun v6 => yy_cl (mm_X4_areAlike v5 v6) (fun r7 => yy_br (r7 = 0) (yy_rt (.inr ())) (yy_rA 54 14 x1 fun v8 => yy_rA 56 14 x1 fun v9 => yy_cl (mm_X8_join k3 0 v8 v9 ((-1))) (fun _ => yy_rA 54 14 x1 fun v10 => yy_wA 54 14 x1 (v10 + 1) (yy_rA 56 14 x1 fun v11 => yy_wA 56 14 x1 (v11 + 1) (yy_rt (.inl ()))))))))
noncomputable def mm_X3_keepEnds_90b (x1 : Int32) (k3 : Nat) : yy_M ((Unit) ⊕ ((Unit))) :=
  yy_rA 54 14 x1 fun v12 => yy_rA 55 14 x1 fun v13 => yy_br (v13 ≤ v12) (yy_rt (.inr ())) (yy_rA 56 14 x1 fun v14 => yy_rA 57 14 x1 fun v15 => yy_br (v15 ≤ v14) (yy_rt (.inr ())) (yy_rA 55 14 x1 fun v16 => yy_rA 57 14 x1 fun v17 => yy_cl (mm_X4_areAlike (v16 - 1) (v17 - 1)) (fun r18 => yy_br (r18 = 0) (yy_rt (.inr ())) (yy_rA 55 14 x1 fun v19 => yy_wA 55 14 x1 (v19 - 1) (yy_rA 57 14 x1 fun v20 => yy_wA 57 14 x1 (v20 - 1) (yy_rA 55 14 x1 fun v21 => yy_rA 57 14 x1 fun v22 => yy_cl (mm_X8_join k3 0 v21 v22 ((-1))) (fun _ => yy_rt (.inl ()))))))))
noncomputable def mm_X3_keepEnds_184 : yy_M Unit :=
  yy_rt ()
noncomputable def mm_X3_keepEnds_90 (x1 : Int32) (k3 : Nat) : yy_M Unit :=
  yy_cl (yy_lp (fun (w : Unit) => mm_X3_keepEnds_90b x1 k3) ()) (fun w => mm_X3_keepEnds_184 )
noncomputable def mm_X3_keepEnds_0 (x1 : Int32) (k3 : Nat) : yy_M Unit :=
  yy_cl (yy_lp (fun (w : Unit) => mm_X3_keepEnds_0b x1 k3) ()) (fun w => mm_X3_keepEnds_90 x1 k3)
noncomputable def mm_X3_keepEnds (x1 : Int32) (k3 : Nat) : yy_M Unit :=
  mm_X3_keepEnds_0 x1 k3
theorem kw_X3_keepEnds : yy_wV RX3 yX3_keepEnds cX3_keepEnds 4 none 3 := ⟨⟨tw_472, tw_8, tw_58, tw_473⟩, by decide +kernel⟩
abbrev rm_X3_keepEnds : Room := { frames := 2, cells := 0, slots := 0, locals := 46 }
set_option maxHeartbeats 4000000 in
set_option maxRecDepth 100000 in
theorem ww_X3_keepEnds_0b {x1 : Int32} {k3 : Nat} (hk3 : k3 ∈ yy_Tds) {res : ((Unit) ⊕ ((Unit))) × yy_T} {Q : State → Prop} (C : yy_C D κ p m c cX3_keepEnds 4 s args RX3) (Z : yy_Z D κ ext A s.heap τ H locs) (hl : lv_has ls 4 [(0, .ref (κ 4 + 53)), (1, .int x1), (2, .ref (κ 4 + 50)), (3, .ref (κ 4 + k3))]) (h : mm_X3_keepEnds_0b x1 k3 τ = some res)
    (kI : ∀ (w : Unit) (τ1 : yy_T) (H1 : Heap) (locs1 : List Loc) (ls1 : Array Slot), res = (.inl w, τ1) → yy_Z D κ ext A s.heap τ1 H1 locs1 → lv_has ls1 4 [(0, .ref (κ 4 + 53)), (1, .int x1), (2, .ref (κ 4 + 50)), (3, .ref (κ 4 + k3))] → W p l e rm_X3_keepEnds s m args below meth c H1 locs1 0 0 Q (F0 m 0 ls1 []))
    (kR0 : ∀ (w : Unit) (τ1 : yy_T) (H1 : Heap) (locs1 : List Loc) (ls1 : Array Slot), res = (.inr w, τ1) → yy_Z D κ ext A s.heap τ1 H1 locs1 → lv_has ls1 4 [(0, .ref (κ 4 + 53)), (1, .int x1), (2, .ref (κ 4 + 50)), (3, .ref (κ 4 + k3))] → W p l e rm_X3_keepEnds s m args below meth c H1 locs1 0 0 Q (F0 m 90 ls1 [])) : W p l e rm_X3_keepEnds s m args below meth c H locs 0 0 Q (F0 m 0 ls []) := by
  unfold mm_X3_keepEnds_0b at h
  refine lv_aload_n C.1.1 C.1.2.1 dX3_keepEnds_0 rfl (lv_at hl 0 rfl) ?_
  refine yg_X3_0 C Z tw_209 dX3_keepEnds_1 ?_
  refine lv_iload_n C.1.1 C.1.2.1 dX3_keepEnds_4 rfl (lv_at hl 1 rfl) ?_
  refine yy_iald C Z (by decide) rfl dX3_keepEnds_5 h (fun v1 h => ?_)
  refine lv_aload_n C.1.1 C.1.2.1 dX3_keepEnds_6 rfl (lv_at hl 0 rfl) ?_
  refine yg_X3_1 C Z tw_210 dX3_keepEnds_7 ?_
  refine lv_iload_n C.1.1 C.1.2.1 dX3_keepEnds_10 rfl (lv_at hl 1 rfl) ?_
  refine yy_iald C Z (by decide) rfl dX3_keepEnds_11 h (fun v2 h => ?_)
  refine yy_icmp_ge (tgt := 90) C dX3_keepEnds_12 (by decide) h (fun h => ?_) (fun h => ?_)
  · exact kR0 _ _ _ _ _ (yy_rt_of h) Z (lv_sub hl [0, 1, 2, 3] rfl)
  · refine lv_aload_n C.1.1 C.1.2.1 dX3_keepEnds_15 rfl (lv_at hl 0 rfl) ?_
    refine yg_X3_2 C Z tw_211 dX3_keepEnds_16 ?_
    refine lv_iload_n C.1.1 C.1.2.1 dX3_keepEnds_19 rfl (lv_at hl 1 rfl) ?_
    refine yy_iald C Z (by decide) rfl dX3_keepEnds_20 h (fun v3 h => ?_)
    refine lv_aload_n C.1.1 C.1.2.1 dX3_keepEnds_21 rfl (lv_at hl 0 rfl) ?_
    refine yg_X3_3 C Z tw_212 dX3_keepEnds_22 ?_
    refine lv_iload_n C.1.1 C.1.2.1 dX3_keepEnds_25 rfl (lv_at hl 1 rfl) ?_
    refine yy_iald C Z (by decide) rfl dX3_keepEnds_26 h (fun v4 h => ?_)
    refine yy_icmp_ge (tgt := 90) C dX3_keepEnds_27 (by decide) h (fun h => ?_) (fun h => ?_)
    · exact kR0 _ _ _ _ _ (yy_rt_of h) Z (lv_sub hl [0, 1, 2, 3] rfl)
    · refine lv_aload_n C.1.1 C.1.2.1 dX3_keepEnds_30 rfl (lv_at hl 2 rfl) ?_
      refine lv_aload_n C.1.1 C.1.2.1 dX3_keepEnds_31 rfl (lv_at hl 0 rfl) ?_
      refine yg_X3_0 C Z tw_209 dX3_keepEnds_32 ?_
      refine lv_iload_n C.1.1 C.1.2.1 dX3_keepEnds_35 rfl (lv_at hl 1 rfl) ?_
      refine yy_iald C Z (by decide) rfl dX3_keepEnds_36 h (fun v5 h => ?_)
      refine lv_aload_n C.1.1 C.1.2.1 dX3_keepEnds_37 rfl (lv_at hl 0 rfl) ?_
      refine yg_X3_2 C Z tw_211 dX3_keepEnds_38 ?_
      refine lv_iload_n C.1.1 C.1.2.1 dX3_keepEnds_41 rfl (lv_at hl 1 rfl) ?_
      refine yy_iald C Z (by decide) rfl dX3_keepEnds_42 h (fun v6 h => ?_)
      refine yy_cVi0 (As := [.int v5, .int v6]) (rest := []) (id := 50) (ci := 4) (q := (RX4, TX4, 4)) C Z (ss_X4_areAlike l D κ ext v5 v6) (by decide) (yy_ent_50 _) rfl tw_474 kw_X4_areAlike ⟨⟨rfl, rfl⟩, ⟨Nat.le_of_ble_eq_true rfl, Nat.le_of_ble_eq_true rfl⟩, Nat.le_of_ble_eq_true rfl, Nat.le_of_ble_eq_true rfl⟩ hl.1 rfl (Nat.le_of_ble_eq_true rfl) dX3_keepEnds_43 h (fun r7 τ H locs Z h => ?_)
      refine yy_if_eq (tgt := 90) C dX3_keepEnds_46 (by decide) h (fun h => ?_) (fun h => ?_)
      · exact kR0 _ _ _ _ _ (yy_rt_of h) Z (lv_sub hl [0, 1, 2, 3] rfl)
      · refine lv_aload_n C.1.1 C.1.2.1 dX3_keepEnds_49 rfl (lv_at hl 3 rfl) ?_
        refine lv_iconst (v := 0) C.1.1 C.1.2.1 dX3_keepEnds_50 (by decide) ?_
        refine lv_aload_n C.1.1 C.1.2.1 dX3_keepEnds_51 rfl (lv_at hl 0 rfl) ?_
        refine yg_X3_0 C Z tw_209 dX3_keepEnds_52 ?_
        refine lv_iload_n C.1.1 C.1.2.1 dX3_keepEnds_55 rfl (lv_at hl 1 rfl) ?_
        refine yy_iald C Z (by decide) rfl dX3_keepEnds_56 h (fun v8 h => ?_)
        refine lv_aload_n C.1.1 C.1.2.1 dX3_keepEnds_57 rfl (lv_at hl 0 rfl) ?_
        refine yg_X3_2 C Z tw_211 dX3_keepEnds_58 ?_
        refine lv_iload_n C.1.1 C.1.2.1 dX3_keepEnds_61 rfl (lv_at hl 1 rfl) ?_
        refine yy_iald C Z (by decide) rfl dX3_keepEnds_62 h (fun v9 h => ?_)
        refine lv_iconst (v := (-1)) C.1.1 C.1.2.1 dX3_keepEnds_63 (by decide) ?_
        refine yy_cVv0 (As := [.int 0, .int v8, .int v9, .int (-1)]) (rest := []) (id := k3) (ci := 8) (q := (RX8, TX8, 11)) C Z (ss_X8_join l D κ ext k3 0 v8 v9 ((-1)) hk3) (yy_Tds_lt _ hk3) (yy_ent_Tds hk3 _) rfl tw_478 kw_X8_join ⟨⟨rfl, rfl⟩, ⟨Nat.le_of_ble_eq_true rfl, Nat.le_of_ble_eq_true rfl⟩, Nat.le_of_ble_eq_true rfl, Nat.le_of_ble_eq_true rfl⟩ hl.1 rfl (Nat.le_of_ble_eq_true rfl) dX3_keepEnds_64 h (fun τ H locs Z h => ?_)
        refine lv_aload_n C.1.1 C.1.2.1 dX3_keepEnds_67 rfl (lv_at hl 0 rfl) ?_
        refine yg_X3_0 C Z tw_209 dX3_keepEnds_68 ?_
        refine lv_iload_n C.1.1 C.1.2.1 dX3_keepEnds_71 rfl (lv_at hl 1 rfl) ?_
        refine lv_dup2_11 C.1.1 C.1.2.1 dX3_keepEnds_72 rfl rfl ?_
        refine yy_iald C Z (by decide) rfl dX3_keepEnds_73 h (fun v10 h => ?_)
        refine lv_iconst (v := 1) C.1.1 C.1.2.1 dX3_keepEnds_74 (by decide) ?_
        refine lv_iadd C.1.1 C.1.2.1 dX3_keepEnds_75 ?_
        refine yy_iast C Z (by decide) rfl dX3_keepEnds_76 h (fun H locs τ Z h => ?_)
        refine lv_aload_n C.1.1 C.1.2.1 dX3_keepEnds_77 rfl (lv_at hl 0 rfl) ?_
        refine yg_X3_2 C Z tw_211 dX3_keepEnds_78 ?_
        refine lv_iload_n C.1.1 C.1.2.1 dX3_keepEnds_81 rfl (lv_at hl 1 rfl) ?_
        refine lv_dup2_11 C.1.1 C.1.2.1 dX3_keepEnds_82 rfl rfl ?_
        refine yy_iald C Z (by decide) rfl dX3_keepEnds_83 h (fun v11 h => ?_)
        refine lv_iconst (v := 1) C.1.1 C.1.2.1 dX3_keepEnds_84 (by decide) ?_
        refine lv_iadd C.1.1 C.1.2.1 dX3_keepEnds_85 ?_
        refine yy_iast C Z (by decide) rfl dX3_keepEnds_86 h (fun H locs τ Z h => ?_)
        refine lv_goto (tgt := 0) C.1.1 C.1.2.1 dX3_keepEnds_87 (by decide) ?_
        exact kI _ _ _ _ _ (yy_rt_of h) Z (lv_sub hl [0, 1, 2, 3] rfl)
set_option maxHeartbeats 4000000 in
set_option maxRecDepth 100000 in
theorem ww_X3_keepEnds_90b {x1 : Int32} {k3 : Nat} (hk3 : k3 ∈ yy_Tds) {res : ((Unit) ⊕ ((Unit))) × yy_T} {Q : State → Prop} (C : yy_C D κ p m c cX3_keepEnds 4 s args RX3) (Z : yy_Z D κ ext A s.heap τ H locs) (hl : lv_has ls 4 [(0, .ref (κ 4 + 53)), (1, .int x1), (2, .ref (κ 4 + 50)), (3, .ref (κ 4 + k3))]) (h : mm_X3_keepEnds_90b x1 k3 τ = some res)
    (kI : ∀ (w : Unit) (τ1 : yy_T) (H1 : Heap) (locs1 : List Loc) (ls1 : Array Slot), res = (.inl w, τ1) → yy_Z D κ ext A s.heap τ1 H1 locs1 → lv_has ls1 4 [(0, .ref (κ 4 + 53)), (1, .int x1), (2, .ref (κ 4 + 50)), (3, .ref (κ 4 + k3))] → W p l e rm_X3_keepEnds s m args below meth c H1 locs1 0 0 Q (F0 m 90 ls1 []))
    (kR0 : ∀ (w : Unit) (τ1 : yy_T) (H1 : Heap) (locs1 : List Loc) (ls1 : Array Slot), res = (.inr w, τ1) → yy_Z D κ ext A s.heap τ1 H1 locs1 → lv_has ls1 4 [] → W p l e rm_X3_keepEnds s m args below meth c H1 locs1 0 0 Q (F0 m 184 ls1 [])) : W p l e rm_X3_keepEnds s m args below meth c H locs 0 0 Q (F0 m 90 ls []) := by
  unfold mm_X3_keepEnds_90b at h
  refine lv_aload_n C.1.1 C.1.2.1 dX3_keepEnds_90 rfl (lv_at hl 0 rfl) ?_
  refine yg_X3_0 C Z tw_209 dX3_keepEnds_91 ?_
  refine lv_iload_n C.1.1 C.1.2.1 dX3_keepEnds_94 rfl (lv_at hl 1 rfl) ?_
  refine yy_iald C Z (by decide) rfl dX3_keepEnds_95 h (fun v12 h => ?_)
  refine lv_aload_n C.1.1 C.1.2.1 dX3_keepEnds_96 rfl (lv_at hl 0 rfl) ?_
  refine yg_X3_1 C Z tw_210 dX3_keepEnds_97 ?_
  refine lv_iload_n C.1.1 C.1.2.1 dX3_keepEnds_100 rfl (lv_at hl 1 rfl) ?_
  refine yy_iald C Z (by decide) rfl dX3_keepEnds_101 h (fun v13 h => ?_)
  refine yy_icmp_ge (tgt := 184) C dX3_keepEnds_102 (by decide) h (fun h => ?_) (fun h => ?_)
  · exact kR0 _ _ _ _ _ (yy_rt_of h) Z (lv_sub hl [] rfl)
  · refine lv_aload_n C.1.1 C.1.2.1 dX3_keepEnds_105 rfl (lv_at hl 0 rfl) ?_
    refine yg_X3_2 C Z tw_211 dX3_keepEnds_106 ?_
    refine lv_iload_n C.1.1 C.1.2.1 dX3_keepEnds_109 rfl (lv_at hl 1 rfl) ?_
    refine yy_iald C Z (by decide) rfl dX3_keepEnds_110 h (fun v14 h => ?_)
    refine lv_aload_n C.1.1 C.1.2.1 dX3_keepEnds_111 rfl (lv_at hl 0 rfl) ?_
    refine yg_X3_3 C Z tw_212 dX3_keepEnds_112 ?_
    refine lv_iload_n C.1.1 C.1.2.1 dX3_keepEnds_115 rfl (lv_at hl 1 rfl) ?_
    refine yy_iald C Z (by decide) rfl dX3_keepEnds_116 h (fun v15 h => ?_)
    refine yy_icmp_ge (tgt := 184) C dX3_keepEnds_117 (by decide) h (fun h => ?_) (fun h => ?_)
    · exact kR0 _ _ _ _ _ (yy_rt_of h) Z (lv_sub hl [] rfl)
    · refine lv_aload_n C.1.1 C.1.2.1 dX3_keepEnds_120 rfl (lv_at hl 2 rfl) ?_
      refine lv_aload_n C.1.1 C.1.2.1 dX3_keepEnds_121 rfl (lv_at hl 0 rfl) ?_
      refine yg_X3_1 C Z tw_210 dX3_keepEnds_122 ?_
      refine lv_iload_n C.1.1 C.1.2.1 dX3_keepEnds_125 rfl (lv_at hl 1 rfl) ?_
      refine yy_iald C Z (by decide) rfl dX3_keepEnds_126 h (fun v16 h => ?_)
      refine lv_iconst (v := 1) C.1.1 C.1.2.1 dX3_keepEnds_127 (by decide) ?_
      refine lv_isub C.1.1 C.1.2.1 dX3_keepEnds_128 ?_
      refine lv_aload_n C.1.1 C.1.2.1 dX3_keepEnds_129 rfl (lv_at hl 0 rfl) ?_
      refine yg_X3_3 C Z tw_212 dX3_keepEnds_130 ?_
      refine lv_iload_n C.1.1 C.1.2.1 dX3_keepEnds_133 rfl (lv_at hl 1 rfl) ?_
      refine yy_iald C Z (by decide) rfl dX3_keepEnds_134 h (fun v17 h => ?_)
      refine lv_iconst (v := 1) C.1.1 C.1.2.1 dX3_keepEnds_135 (by decide) ?_
      refine lv_isub C.1.1 C.1.2.1 dX3_keepEnds_136 ?_
      refine yy_cVi0 (As := [.int (v16 - 1), .int (v17 - 1)]) (rest := []) (id := 50) (ci := 4) (q := (RX4, TX4, 4)) C Z (ss_X4_areAlike l D κ ext (v16 - 1) (v17 - 1)) (by decide) (yy_ent_50 _) rfl tw_474 kw_X4_areAlike ⟨⟨rfl, rfl⟩, ⟨Nat.le_of_ble_eq_true rfl, Nat.le_of_ble_eq_true rfl⟩, Nat.le_of_ble_eq_true rfl, Nat.le_of_ble_eq_true rfl⟩ hl.1 rfl (Nat.le_of_ble_eq_true rfl) dX3_keepEnds_137 h (fun r18 τ H locs Z h => ?_)
      refine yy_if_eq (tgt := 184) C dX3_keepEnds_140 (by decide) h (fun h => ?_) (fun h => ?_)
      · exact kR0 _ _ _ _ _ (yy_rt_of h) Z (lv_sub hl [] rfl)
      · refine lv_aload_n C.1.1 C.1.2.1 dX3_keepEnds_143 rfl (lv_at hl 0 rfl) ?_
        refine yg_X3_1 C Z tw_210 dX3_keepEnds_144 ?_
        refine lv_iload_n C.1.1 C.1.2.1 dX3_keepEnds_147 rfl (lv_at hl 1 rfl) ?_
        refine lv_dup2_11 C.1.1 C.1.2.1 dX3_keepEnds_148 rfl rfl ?_
        refine yy_iald C Z (by decide) rfl dX3_keepEnds_149 h (fun v19 h => ?_)
        refine lv_iconst (v := 1) C.1.1 C.1.2.1 dX3_keepEnds_150 (by decide) ?_
        refine lv_isub C.1.1 C.1.2.1 dX3_keepEnds_151 ?_
        refine yy_iast C Z (by decide) rfl dX3_keepEnds_152 h (fun H locs τ Z h => ?_)
        refine lv_aload_n C.1.1 C.1.2.1 dX3_keepEnds_153 rfl (lv_at hl 0 rfl) ?_
        refine yg_X3_3 C Z tw_212 dX3_keepEnds_154 ?_
        refine lv_iload_n C.1.1 C.1.2.1 dX3_keepEnds_157 rfl (lv_at hl 1 rfl) ?_
        refine lv_dup2_11 C.1.1 C.1.2.1 dX3_keepEnds_158 rfl rfl ?_
        refine yy_iald C Z (by decide) rfl dX3_keepEnds_159 h (fun v20 h => ?_)
        refine lv_iconst (v := 1) C.1.1 C.1.2.1 dX3_keepEnds_160 (by decide) ?_
        refine lv_isub C.1.1 C.1.2.1 dX3_keepEnds_161 ?_
        refine yy_iast C Z (by decide) rfl dX3_keepEnds_162 h (fun H locs τ Z h => ?_)
        refine lv_aload_n C.1.1 C.1.2.1 dX3_keepEnds_163 rfl (lv_at hl 3 rfl) ?_
        refine lv_iconst (v := 0) C.1.1 C.1.2.1 dX3_keepEnds_164 (by decide) ?_
        refine lv_aload_n C.1.1 C.1.2.1 dX3_keepEnds_165 rfl (lv_at hl 0 rfl) ?_
        refine yg_X3_1 C Z tw_210 dX3_keepEnds_166 ?_
        refine lv_iload_n C.1.1 C.1.2.1 dX3_keepEnds_169 rfl (lv_at hl 1 rfl) ?_
        refine yy_iald C Z (by decide) rfl dX3_keepEnds_170 h (fun v21 h => ?_)
        refine lv_aload_n C.1.1 C.1.2.1 dX3_keepEnds_171 rfl (lv_at hl 0 rfl) ?_
        refine yg_X3_3 C Z tw_212 dX3_keepEnds_172 ?_
        refine lv_iload_n C.1.1 C.1.2.1 dX3_keepEnds_175 rfl (lv_at hl 1 rfl) ?_
        refine yy_iald C Z (by decide) rfl dX3_keepEnds_176 h (fun v22 h => ?_)
        refine lv_iconst (v := (-1)) C.1.1 C.1.2.1 dX3_keepEnds_177 (by decide) ?_
        refine yy_cVv0 (As := [.int 0, .int v21, .int v22, .int (-1)]) (rest := []) (id := k3) (ci := 8) (q := (RX8, TX8, 11)) C Z (ss_X8_join l D κ ext k3 0 v21 v22 ((-1)) hk3) (yy_Tds_lt _ hk3) (yy_ent_Tds hk3 _) rfl tw_478 kw_X8_join ⟨⟨rfl, rfl⟩, ⟨Nat.le_of_ble_eq_true rfl, Nat.le_of_ble_eq_true rfl⟩, Nat.le_of_ble_eq_true rfl, Nat.le_of_ble_eq_true rfl⟩ hl.1 rfl (Nat.le_of_ble_eq_true rfl) dX3_keepEnds_178 h (fun τ H locs Z h => ?_)
        refine lv_goto (tgt := 90) C.1.1 C.1.2.1 dX3_keepEnds_181 (by decide) ?_
        exact kI _ _ _ _ _ (yy_rt_of h) Z (lv_sub hl [0, 1, 2, 3] rfl)
set_option maxHeartbeats 4000000 in
set_option maxRecDepth 100000 in
theorem ww_X3_keepEnds_184 {res : Unit × yy_T} (C : yy_C D κ p m c cX3_keepEnds 4 s args RX3) (hr : meth.sig.returnType = none) (hlk : meth.locks = false) (Z : yy_Z D κ ext A s.heap τ H locs) (hl : lv_has ls 4 []) (h : mm_X3_keepEnds_184  τ = some res) : W p l e rm_X3_keepEnds s m args below meth c H locs 0 0 (MQ below (yy_Qv D κ ext A res) args s 0 0 A) (F0 m 184 ls []) := by
  unfold mm_X3_keepEnds_184 at h
  exact yy_vret C Z hr hlk dX3_keepEnds_184 h
set_option maxHeartbeats 4000000 in
set_option maxRecDepth 100000 in
theorem ww_X3_keepEnds_90 {x1 : Int32} {k3 : Nat} (hk3 : k3 ∈ yy_Tds) {res : Unit × yy_T} (C : yy_C D κ p m c cX3_keepEnds 4 s args RX3) (hr : meth.sig.returnType = none) (hlk : meth.locks = false) (Z : yy_Z D κ ext A s.heap τ H locs) (hl : lv_has ls 4 [(0, .ref (κ 4 + 53)), (1, .int x1), (2, .ref (κ 4 + 50)), (3, .ref (κ 4 + k3))]) (h : mm_X3_keepEnds_90 x1 k3 τ = some res) : W p l e rm_X3_keepEnds s m args below meth c H locs 0 0 (MQ below (yy_Qv D κ ext A res) args s 0 0 A) (F0 m 90 ls []) := by
  unfold mm_X3_keepEnds_90 at h
  refine yy_loop h (fun (w : Unit) (τ : yy_T) => ∀ (H : Heap) (locs : List Loc) (ls : Array Slot), yy_Z D κ ext A s.heap τ H locs → lv_has ls 4 [(0, .ref (κ 4 + 53)), (1, .int x1), (2, .ref (κ 4 + 50)), (3, .ref (κ 4 + k3))] → W p l e rm_X3_keepEnds s m args below meth c H locs 0 0 (MQ below (yy_Qv D κ ext A res) args s 0 0 A) (F0 m 90 ls [])) ?_ H locs ls Z hl
  intro w τ y hy hI hX H locs ls Z hl
  refine ww_X3_keepEnds_90b hk3 C Z hl hy (fun w τ H locs ls ey Z hl => hI w τ ey H locs ls Z hl) (fun w τ H locs ls ey Z hl => ?_)
  · have h := hX _ _ ey
    exact ww_X3_keepEnds_184  C hr hlk Z (lv_sub hl [] rfl) h
set_option maxHeartbeats 4000000 in
set_option maxRecDepth 100000 in
theorem ww_X3_keepEnds_0 {x1 : Int32} {k3 : Nat} (hk3 : k3 ∈ yy_Tds) {res : Unit × yy_T} (C : yy_C D κ p m c cX3_keepEnds 4 s args RX3) (hr : meth.sig.returnType = none) (hlk : meth.locks = false) (Z : yy_Z D κ ext A s.heap τ H locs) (hl : lv_has ls 4 [(0, .ref (κ 4 + 53)), (1, .int x1), (2, .ref (κ 4 + 50)), (3, .ref (κ 4 + k3))]) (h : mm_X3_keepEnds_0 x1 k3 τ = some res) : W p l e rm_X3_keepEnds s m args below meth c H locs 0 0 (MQ below (yy_Qv D κ ext A res) args s 0 0 A) (F0 m 0 ls []) := by
  unfold mm_X3_keepEnds_0 at h
  refine yy_loop h (fun (w : Unit) (τ : yy_T) => ∀ (H : Heap) (locs : List Loc) (ls : Array Slot), yy_Z D κ ext A s.heap τ H locs → lv_has ls 4 [(0, .ref (κ 4 + 53)), (1, .int x1), (2, .ref (κ 4 + 50)), (3, .ref (κ 4 + k3))] → W p l e rm_X3_keepEnds s m args below meth c H locs 0 0 (MQ below (yy_Qv D κ ext A res) args s 0 0 A) (F0 m 0 ls [])) ?_ H locs ls Z hl
  intro w τ y hy hI hX H locs ls Z hl
  refine ww_X3_keepEnds_0b hk3 C Z hl hy (fun w τ H locs ls ey Z hl => hI w τ ey H locs ls Z hl) (fun w τ H locs ls ey Z hl => ?_)
  · have h := hX _ _ ey
    exact ww_X3_keepEnds_90 hk3 C hr hlk Z (lv_sub hl [0, 1, 2, 3] rfl) h
set_option maxHeartbeats 4000000 in
set_option maxRecDepth 100000 in
theorem ww_X3_keepEnds_E {x1 : Int32} {k3 : Nat} (hk3 : k3 ∈ yy_Tds) {res : Unit × yy_T} (C : yy_C D κ p m c cX3_keepEnds 4 s args RX3) (hr : meth.sig.returnType = none) (hlk : meth.locks = false) (Z : yy_Z D κ ext A s.heap τ H locs) (hl : lv_has ls 4 [(0, .ref (κ 4 + 53)), (1, .int x1), (2, .ref (κ 4 + 50)), (3, .ref (κ 4 + k3))]) (h : mm_X3_keepEnds x1 k3 τ = some res) : W p l e rm_X3_keepEnds s m args below meth c H locs 0 0 (MQ below (yy_Qv D κ ext A res) args s 0 0 A) (F0 m 0 ls []) := by
  unfold mm_X3_keepEnds at h
  exact ww_X3_keepEnds_0 hk3 C hr hlk Z (lv_sub hl [0, 1, 2, 3] rfl) h
set_option maxHeartbeats 4000000 in
set_option maxRecDepth 100000 in
theorem ss_X3_keepEnds (l : Launch) (D : va_G) (κ : Nat → Nat) (ext : va_W) (x1 : Int32) (k3 : Nat) (hk3 : k3 ∈ yy_Tds) : yy_Mv l D κ ext yX3_keepEnds cX3_keepEnds 4 none rm_X3_keepEnds 0 0 [.ref (κ 4 + 53), .int x1, .ref (κ 4 + 50), .ref (κ 4 + k3)] (mm_X3_keepEnds x1 k3) := by
  intro sz τ res h
  refine yy_ofW (by decide) (Nat.le_of_ble_eq_true rfl) ?_
  intro p e s m args below meth c ls hsz E
  obtain ⟨C, hr, hlk, Z, hl⟩ := E
  subst hsz
  exact ww_X3_keepEnds_E hk3 C hr hlk Z hl h
/-! MovedLines$Keeper.keepRun(IILMovedLines$Told;)V -/
noncomputable def mm_X3_keepRun_122 (x1 : Int32) (k3 : Nat) (x4 : Int32) (x5 : Int32) (x6 : Int32) (x7 : Int32) : yy_M ((Int32 × Int32 × Int32 × Int32) ⊕ ((Int32 × Int32))) :=
  yy_rt (.inl (x4, x5, x6, (x7 + 1)))
noncomputable def mm_X3_keepRun_22b (x1 : Int32) (k3 : Nat) (x4 : Int32) (x5 : Int32) (x6 : Int32) (x7 : Int32) : yy_M ((Int32 × Int32 × Int32 × Int32) ⊕ ((Int32 × Int32))) :=
  yy_rF 53 8 fun v3 => yy_br (v3 ≤ x7) (yy_rt (.inr (x5, x6))) (yy_rA 60 14 x7 fun v4 => yy_br (v4 = x4) (yy_rA 59 14 x7 fun v5 => yy_br (v5 < x6) (mm_X3_keepRun_122 x1 k3 x4 x5 x6 x7) (yy_rA 58 14 x7 fun v6 => yy_rA 59 14 x7 fun v7 => yy_cl (mm_X3_addRange x5 v6 x6 v7) (fun _ => yy_rA 58 14 x7 fun v8 => yy_rA 59 14 x7 fun v9 => yy_cl (mm_X8_join k3 0 v8 v9 ((-1))) (fun _ => yy_rA 58 14 x7 fun v10 => yy_rA 59 14 x7 fun v11 => mm_X3_keepRun_122 x1 k3 (x4 + (-1)) (v10 + 1) (v11 + 1) x7)))) (mm_X3_keepRun_122 x1 k3 x4 x5 x6 x7))
noncomputable def mm_X3_keepRun_128 (x1 : Int32) (x5 : Int32) (x6 : Int32) : yy_M Unit :=
  yy_rA 55 14 x1 fun v12 => yy_rA 57 14 x1 fun v13 => yy_cl (mm_X3_addRange x5 v12 x6 v13) (fun _ => yy_rt ())
noncomputable def mm_X3_keepRun_22 (x1 : Int32) (k3 : Nat) (x4 : Int32) (x5 : Int32) (x6 : Int32) (x7 : Int32) : yy_M Unit :=
  yy_cl (yy_lp (fun (w : Int32 × Int32 × Int32 × Int32) => mm_X3_keepRun_22b x1 k3 w.1 w.2.1 w.2.2.1 w.2.2.2) (x4, x5, x6, x7)) (fun w => mm_X3_keepRun_128 x1 w.1 w.2)
noncomputable def mm_X3_keepRun (x1 : Int32) (x2 : Int32) (k3 : Nat) : yy_M Unit :=
  yy_rA 54 14 x1 fun v1 => yy_rA 56 14 x1 fun v2 => mm_X3_keepRun_22 x1 k3 x2 v1 v2 0
theorem kw_X3_keepRun : yy_wV RX3 yX3_keepRun cX3_keepRun 8 none 3 := ⟨⟨tw_502, tw_11, tw_58, tw_503⟩, by decide +kernel⟩
abbrev rm_X3_keepRun : Room := { frames := 2, cells := 0, slots := 0, locals := 46 }
set_option maxHeartbeats 4000000 in
set_option maxRecDepth 100000 in
theorem ww_X3_keepRun_122 {x1 : Int32} {k3 : Nat} {x4 : Int32} {x5 : Int32} {x6 : Int32} {x7 : Int32} (hk3 : k3 ∈ yy_Tds) {res : ((Int32 × Int32 × Int32 × Int32) ⊕ ((Int32 × Int32))) × yy_T} {Q : State → Prop} (C : yy_C D κ p m c cX3_keepRun 8 s args RX3) (Z : yy_Z D κ ext A s.heap τ H locs) (hl : lv_has ls 8 [(0, .ref (κ 4 + 53)), (1, .int x1), (3, .ref (κ 4 + k3)), (4, .int x4), (5, .int x5), (6, .int x6), (7, .int x7)]) (h : mm_X3_keepRun_122 x1 k3 x4 x5 x6 x7 τ = some res)
    (kI : ∀ (w : Int32 × Int32 × Int32 × Int32) (τ1 : yy_T) (H1 : Heap) (locs1 : List Loc) (ls1 : Array Slot), res = (.inl w, τ1) → yy_Z D κ ext A s.heap τ1 H1 locs1 → lv_has ls1 8 [(0, .ref (κ 4 + 53)), (1, .int x1), (3, .ref (κ 4 + k3)), (4, .int w.1), (5, .int w.2.1), (6, .int w.2.2.1), (7, .int w.2.2.2)] → W p l e rm_X3_keepRun s m args below meth c H1 locs1 0 0 Q (F0 m 22 ls1 [])) : W p l e rm_X3_keepRun s m args below meth c H locs 0 0 Q (F0 m 122 ls []) := by
  unfold mm_X3_keepRun_122 at h
  refine lv_iinc (v := x7 + 1) (lv' := [(7, .int (x7 + 1)), (0, .ref (κ 4 + 53)), (1, .int x1), (3, .ref (κ 4 + k3)), (4, .int x4), (5, .int x5), (6, .int x6)]) C.1.1 C.1.2.1 dX3_keepRun_122 hl (k := 6) rfl (by rfl) (by decide) rfl (fun ls hl => ?_)
  refine lv_goto (tgt := 22) C.1.1 C.1.2.1 dX3_keepRun_125 (by decide) ?_
  exact kI _ _ _ _ _ (yy_rt_of h) Z (lv_sub hl [1, 2, 3, 4, 5, 6, 0] rfl)
set_option maxHeartbeats 4000000 in
set_option maxRecDepth 100000 in
theorem ww_X3_keepRun_22b {x1 : Int32} {k3 : Nat} {x4 : Int32} {x5 : Int32} {x6 : Int32} {x7 : Int32} (hk3 : k3 ∈ yy_Tds) {res : ((Int32 × Int32 × Int32 × Int32) ⊕ ((Int32 × Int32))) × yy_T} {Q : State → Prop} (C : yy_C D κ p m c cX3_keepRun 8 s args RX3) (Z : yy_Z D κ ext A s.heap τ H locs) (hl : lv_has ls 8 [(0, .ref (κ 4 + 53)), (1, .int x1), (3, .ref (κ 4 + k3)), (4, .int x4), (5, .int x5), (6, .int x6), (7, .int x7)]) (h : mm_X3_keepRun_22b x1 k3 x4 x5 x6 x7 τ = some res)
    (kI : ∀ (w : Int32 × Int32 × Int32 × Int32) (τ1 : yy_T) (H1 : Heap) (locs1 : List Loc) (ls1 : Array Slot), res = (.inl w, τ1) → yy_Z D κ ext A s.heap τ1 H1 locs1 → lv_has ls1 8 [(0, .ref (κ 4 + 53)), (1, .int x1), (3, .ref (κ 4 + k3)), (4, .int w.1), (5, .int w.2.1), (6, .int w.2.2.1), (7, .int w.2.2.2)] → W p l e rm_X3_keepRun s m args below meth c H1 locs1 0 0 Q (F0 m 22 ls1 []))
    (kR0 : ∀ (w : Int32 × Int32) (τ1 : yy_T) (H1 : Heap) (locs1 : List Loc) (ls1 : Array Slot), res = (.inr w, τ1) → yy_Z D κ ext A s.heap τ1 H1 locs1 → lv_has ls1 8 [(0, .ref (κ 4 + 53)), (1, .int x1), (5, .int w.1), (6, .int w.2)] → W p l e rm_X3_keepRun s m args below meth c H1 locs1 0 0 Q (F0 m 128 ls1 [])) : W p l e rm_X3_keepRun s m args below meth c H locs 0 0 Q (F0 m 22 ls []) := by
  unfold mm_X3_keepRun_22b at h
  refine lv_iload C.1.1 C.1.2.1 dX3_keepRun_22 (lv_at hl 6 rfl) ?_
  refine lv_aload_n C.1.1 C.1.2.1 dX3_keepRun_24 rfl (lv_at hl 0 rfl) ?_
  refine yg_X3_8 C Z tw_217 dX3_keepRun_25 h (fun v3 h => ?_)
  refine yy_icmp_ge (tgt := 128) C dX3_keepRun_28 (by decide) h (fun h => ?_) (fun h => ?_)
  · exact kR0 _ _ _ _ _ (yy_rt_of h) Z (lv_sub hl [0, 1, 4, 5] rfl)
  · refine lv_aload_n C.1.1 C.1.2.1 dX3_keepRun_31 rfl (lv_at hl 0 rfl) ?_
    refine yg_X3_7 C Z tw_216 dX3_keepRun_32 ?_
    refine lv_iload C.1.1 C.1.2.1 dX3_keepRun_35 (lv_at hl 6 rfl) ?_
    refine yy_iald C Z (by decide) rfl dX3_keepRun_37 h (fun v4 h => ?_)
    refine lv_iload C.1.1 C.1.2.1 dX3_keepRun_38 (lv_at hl 3 rfl) ?_
    refine yy_icmp_ne (tgt := 122) C dX3_keepRun_40 (by decide) h (fun h => ?_) (fun h => ?_)
    · exact ww_X3_keepRun_122 hk3 C Z (lv_sub hl [0, 1, 2, 3, 4, 5, 6] rfl) h kI
    · refine lv_aload_n C.1.1 C.1.2.1 dX3_keepRun_43 rfl (lv_at hl 0 rfl) ?_
      refine yg_X3_6 C Z tw_215 dX3_keepRun_44 ?_
      refine lv_iload C.1.1 C.1.2.1 dX3_keepRun_47 (lv_at hl 6 rfl) ?_
      refine yy_iald C Z (by decide) rfl dX3_keepRun_49 h (fun v5 h => ?_)
      refine lv_iload C.1.1 C.1.2.1 dX3_keepRun_50 (lv_at hl 5 rfl) ?_
      refine yy_icmp_lt (tgt := 122) C dX3_keepRun_52 (by decide) h (fun h => ?_) (fun h => ?_)
      · exact ww_X3_keepRun_122 hk3 C Z (lv_sub hl [0, 1, 2, 3, 4, 5, 6] rfl) h kI
      · refine lv_aload_n C.1.1 C.1.2.1 dX3_keepRun_55 rfl (lv_at hl 0 rfl) ?_
        refine lv_iload C.1.1 C.1.2.1 dX3_keepRun_56 (lv_at hl 4 rfl) ?_
        refine lv_aload_n C.1.1 C.1.2.1 dX3_keepRun_58 rfl (lv_at hl 0 rfl) ?_
        refine yg_X3_5 C Z tw_214 dX3_keepRun_59 ?_
        refine lv_iload C.1.1 C.1.2.1 dX3_keepRun_62 (lv_at hl 6 rfl) ?_
        refine yy_iald C Z (by decide) rfl dX3_keepRun_64 h (fun v6 h => ?_)
        refine lv_iload C.1.1 C.1.2.1 dX3_keepRun_65 (lv_at hl 5 rfl) ?_
        refine lv_aload_n C.1.1 C.1.2.1 dX3_keepRun_67 rfl (lv_at hl 0 rfl) ?_
        refine yg_X3_6 C Z tw_215 dX3_keepRun_68 ?_
        refine lv_iload C.1.1 C.1.2.1 dX3_keepRun_71 (lv_at hl 6 rfl) ?_
        refine yy_iald C Z (by decide) rfl dX3_keepRun_73 h (fun v7 h => ?_)
        refine yy_cVv0 (As := [.int x5, .int v6, .int x6, .int v7]) (rest := []) (id := 53) (ci := 3) (q := (RX3, TX3, 9)) C Z (ss_X3_addRange l D κ ext x5 v6 x6 v7) (by decide) (yy_ent_53 _) rfl tw_466 kw_X3_addRange ⟨⟨rfl, rfl⟩, ⟨Nat.le_of_ble_eq_true rfl, Nat.le_of_ble_eq_true rfl⟩, Nat.le_of_ble_eq_true rfl, Nat.le_of_ble_eq_true rfl⟩ hl.1 rfl (Nat.le_of_ble_eq_true rfl) dX3_keepRun_74 h (fun τ H locs Z h => ?_)
        refine lv_aload_n C.1.1 C.1.2.1 dX3_keepRun_77 rfl (lv_at hl 2 rfl) ?_
        refine lv_iconst (v := 0) C.1.1 C.1.2.1 dX3_keepRun_78 (by decide) ?_
        refine lv_aload_n C.1.1 C.1.2.1 dX3_keepRun_79 rfl (lv_at hl 0 rfl) ?_
        refine yg_X3_5 C Z tw_214 dX3_keepRun_80 ?_
        refine lv_iload C.1.1 C.1.2.1 dX3_keepRun_83 (lv_at hl 6 rfl) ?_
        refine yy_iald C Z (by decide) rfl dX3_keepRun_85 h (fun v8 h => ?_)
        refine lv_aload_n C.1.1 C.1.2.1 dX3_keepRun_86 rfl (lv_at hl 0 rfl) ?_
        refine yg_X3_6 C Z tw_215 dX3_keepRun_87 ?_
        refine lv_iload C.1.1 C.1.2.1 dX3_keepRun_90 (lv_at hl 6 rfl) ?_
        refine yy_iald C Z (by decide) rfl dX3_keepRun_92 h (fun v9 h => ?_)
        refine lv_iconst (v := (-1)) C.1.1 C.1.2.1 dX3_keepRun_93 (by decide) ?_
        refine yy_cVv0 (As := [.int 0, .int v8, .int v9, .int (-1)]) (rest := []) (id := k3) (ci := 8) (q := (RX8, TX8, 11)) C Z (ss_X8_join l D κ ext k3 0 v8 v9 ((-1)) hk3) (yy_Tds_lt _ hk3) (yy_ent_Tds hk3 _) rfl tw_478 kw_X8_join ⟨⟨rfl, rfl⟩, ⟨Nat.le_of_ble_eq_true rfl, Nat.le_of_ble_eq_true rfl⟩, Nat.le_of_ble_eq_true rfl, Nat.le_of_ble_eq_true rfl⟩ hl.1 rfl (Nat.le_of_ble_eq_true rfl) dX3_keepRun_94 h (fun τ H locs Z h => ?_)
        refine lv_aload_n C.1.1 C.1.2.1 dX3_keepRun_97 rfl (lv_at hl 0 rfl) ?_
        refine yg_X3_5 C Z tw_214 dX3_keepRun_98 ?_
        refine lv_iload C.1.1 C.1.2.1 dX3_keepRun_101 (lv_at hl 6 rfl) ?_
        refine yy_iald C Z (by decide) rfl dX3_keepRun_103 h (fun v10 h => ?_)
        refine lv_iconst (v := 1) C.1.1 C.1.2.1 dX3_keepRun_104 (by decide) ?_
        refine lv_iadd C.1.1 C.1.2.1 dX3_keepRun_105 ?_
        refine lv_istore (lv' := [(5, .int (v10 + 1)), (0, .ref (κ 4 + 53)), (1, .int x1), (3, .ref (κ 4 + k3)), (4, .int x4), (6, .int x6), (7, .int x7)]) C.1.1 C.1.2.1 dX3_keepRun_106 hl (by decide) rfl (fun ls hl => ?_)
        refine lv_aload_n C.1.1 C.1.2.1 dX3_keepRun_108 rfl (lv_at hl 1 rfl) ?_
        refine yg_X3_6 C Z tw_215 dX3_keepRun_109 ?_
        refine lv_iload C.1.1 C.1.2.1 dX3_keepRun_112 (lv_at hl 6 rfl) ?_
        refine yy_iald C Z (by decide) rfl dX3_keepRun_114 h (fun v11 h => ?_)
        refine lv_iconst (v := 1) C.1.1 C.1.2.1 dX3_keepRun_115 (by decide) ?_
        refine lv_iadd C.1.1 C.1.2.1 dX3_keepRun_116 ?_
        refine lv_istore (lv' := [(6, .int (v11 + 1)), (5, .int (v10 + 1)), (0, .ref (κ 4 + 53)), (1, .int x1), (3, .ref (κ 4 + k3)), (4, .int x4), (7, .int x7)]) C.1.1 C.1.2.1 dX3_keepRun_117 hl (by decide) rfl (fun ls hl => ?_)
        refine lv_iinc (v := x4 + (-1)) (lv' := [(4, .int (x4 + (-1))), (6, .int (v11 + 1)), (5, .int (v10 + 1)), (0, .ref (κ 4 + 53)), (1, .int x1), (3, .ref (κ 4 + k3)), (7, .int x7)]) C.1.1 C.1.2.1 dX3_keepRun_119 hl (k := 5) rfl (by rfl) (by decide) rfl (fun ls hl => ?_)
        exact ww_X3_keepRun_122 hk3 C Z (lv_sub hl [3, 4, 5, 0, 2, 1, 6] rfl) h kI
set_option maxHeartbeats 4000000 in
set_option maxRecDepth 100000 in
theorem ww_X3_keepRun_128 {x1 : Int32} {x5 : Int32} {x6 : Int32} {res : Unit × yy_T} (C : yy_C D κ p m c cX3_keepRun 8 s args RX3) (hr : meth.sig.returnType = none) (hlk : meth.locks = false) (Z : yy_Z D κ ext A s.heap τ H locs) (hl : lv_has ls 8 [(0, .ref (κ 4 + 53)), (1, .int x1), (5, .int x5), (6, .int x6)]) (h : mm_X3_keepRun_128 x1 x5 x6 τ = some res) : W p l e rm_X3_keepRun s m args below meth c H locs 0 0 (MQ below (yy_Qv D κ ext A res) args s 0 0 A) (F0 m 128 ls []) := by
  unfold mm_X3_keepRun_128 at h
  refine lv_aload_n C.1.1 C.1.2.1 dX3_keepRun_128 rfl (lv_at hl 0 rfl) ?_
  refine lv_iload C.1.1 C.1.2.1 dX3_keepRun_129 (lv_at hl 2 rfl) ?_
  refine lv_aload_n C.1.1 C.1.2.1 dX3_keepRun_131 rfl (lv_at hl 0 rfl) ?_
  refine yg_X3_1 C Z tw_210 dX3_keepRun_132 ?_
  refine lv_iload_n C.1.1 C.1.2.1 dX3_keepRun_135 rfl (lv_at hl 1 rfl) ?_
  refine yy_iald C Z (by decide) rfl dX3_keepRun_136 h (fun v12 h => ?_)
  refine lv_iload C.1.1 C.1.2.1 dX3_keepRun_137 (lv_at hl 3 rfl) ?_
  refine lv_aload_n C.1.1 C.1.2.1 dX3_keepRun_139 rfl (lv_at hl 0 rfl) ?_
  refine yg_X3_3 C Z tw_212 dX3_keepRun_140 ?_
  refine lv_iload_n C.1.1 C.1.2.1 dX3_keepRun_143 rfl (lv_at hl 1 rfl) ?_
  refine yy_iald C Z (by decide) rfl dX3_keepRun_144 h (fun v13 h => ?_)
  refine yy_cVv0 (As := [.int x5, .int v12, .int x6, .int v13]) (rest := []) (id := 53) (ci := 3) (q := (RX3, TX3, 9)) C Z (ss_X3_addRange l D κ ext x5 v12 x6 v13) (by decide) (yy_ent_53 _) rfl tw_466 kw_X3_addRange ⟨⟨rfl, rfl⟩, ⟨Nat.le_of_ble_eq_true rfl, Nat.le_of_ble_eq_true rfl⟩, Nat.le_of_ble_eq_true rfl, Nat.le_of_ble_eq_true rfl⟩ hl.1 rfl (Nat.le_of_ble_eq_true rfl) dX3_keepRun_145 h (fun τ H locs Z h => ?_)
  exact yy_vret C Z hr hlk dX3_keepRun_148 h
set_option maxHeartbeats 4000000 in
set_option maxRecDepth 100000 in
theorem ww_X3_keepRun_22 {x1 : Int32} {k3 : Nat} {x4 : Int32} {x5 : Int32} {x6 : Int32} {x7 : Int32} (hk3 : k3 ∈ yy_Tds) {res : Unit × yy_T} (C : yy_C D κ p m c cX3_keepRun 8 s args RX3) (hr : meth.sig.returnType = none) (hlk : meth.locks = false) (Z : yy_Z D κ ext A s.heap τ H locs) (hl : lv_has ls 8 [(0, .ref (κ 4 + 53)), (1, .int x1), (3, .ref (κ 4 + k3)), (4, .int x4), (5, .int x5), (6, .int x6), (7, .int x7)]) (h : mm_X3_keepRun_22 x1 k3 x4 x5 x6 x7 τ = some res) : W p l e rm_X3_keepRun s m args below meth c H locs 0 0 (MQ below (yy_Qv D κ ext A res) args s 0 0 A) (F0 m 22 ls []) := by
  unfold mm_X3_keepRun_22 at h
  refine yy_loop h (fun (w : Int32 × Int32 × Int32 × Int32) (τ : yy_T) => ∀ (H : Heap) (locs : List Loc) (ls : Array Slot), yy_Z D κ ext A s.heap τ H locs → lv_has ls 8 [(0, .ref (κ 4 + 53)), (1, .int x1), (3, .ref (κ 4 + k3)), (4, .int w.1), (5, .int w.2.1), (6, .int w.2.2.1), (7, .int w.2.2.2)] → W p l e rm_X3_keepRun s m args below meth c H locs 0 0 (MQ below (yy_Qv D κ ext A res) args s 0 0 A) (F0 m 22 ls [])) ?_ H locs ls Z hl
  intro w τ y hy hI hX H locs ls Z hl
  refine ww_X3_keepRun_22b hk3 C Z hl hy (fun w τ H locs ls ey Z hl => hI w τ ey H locs ls Z hl) (fun w τ H locs ls ey Z hl => ?_)
  · have h := hX _ _ ey
    exact ww_X3_keepRun_128  C hr hlk Z (lv_sub hl [0, 1, 2, 3] rfl) h
set_option maxHeartbeats 4000000 in
set_option maxRecDepth 100000 in
theorem ww_X3_keepRun_E {x1 : Int32} {x2 : Int32} {k3 : Nat} (hk3 : k3 ∈ yy_Tds) {res : Unit × yy_T} (C : yy_C D κ p m c cX3_keepRun 8 s args RX3) (hr : meth.sig.returnType = none) (hlk : meth.locks = false) (Z : yy_Z D κ ext A s.heap τ H locs) (hl : lv_has ls 8 [(0, .ref (κ 4 + 53)), (1, .int x1), (2, .int x2), (3, .ref (κ 4 + k3))]) (h : mm_X3_keepRun x1 x2 k3 τ = some res) : W p l e rm_X3_keepRun s m args below meth c H locs 0 0 (MQ below (yy_Qv D κ ext A res) args s 0 0 A) (F0 m 0 ls []) := by
  unfold mm_X3_keepRun at h
  refine lv_iload_n C.1.1 C.1.2.1 dX3_keepRun_0 rfl (lv_at hl 2 rfl) ?_
  refine lv_istore (lv' := [(4, .int x2), (0, .ref (κ 4 + 53)), (1, .int x1), (2, .int x2), (3, .ref (κ 4 + k3))]) C.1.1 C.1.2.1 dX3_keepRun_1 hl (by decide) rfl (fun ls hl => ?_)
  refine lv_aload_n C.1.1 C.1.2.1 dX3_keepRun_3 rfl (lv_at hl 1 rfl) ?_
  refine yg_X3_0 C Z tw_209 dX3_keepRun_4 ?_
  refine lv_iload_n C.1.1 C.1.2.1 dX3_keepRun_7 rfl (lv_at hl 2 rfl) ?_
  refine yy_iald C Z (by decide) rfl dX3_keepRun_8 h (fun v1 h => ?_)
  refine lv_istore (lv' := [(5, .int v1), (4, .int x2), (0, .ref (κ 4 + 53)), (1, .int x1), (2, .int x2), (3, .ref (κ 4 + k3))]) C.1.1 C.1.2.1 dX3_keepRun_9 hl (by decide) rfl (fun ls hl => ?_)
  refine lv_aload_n C.1.1 C.1.2.1 dX3_keepRun_11 rfl (lv_at hl 2 rfl) ?_
  refine yg_X3_2 C Z tw_211 dX3_keepRun_12 ?_
  refine lv_iload_n C.1.1 C.1.2.1 dX3_keepRun_15 rfl (lv_at hl 3 rfl) ?_
  refine yy_iald C Z (by decide) rfl dX3_keepRun_16 h (fun v2 h => ?_)
  refine lv_istore (lv' := [(6, .int v2), (5, .int v1), (4, .int x2), (0, .ref (κ 4 + 53)), (1, .int x1), (2, .int x2), (3, .ref (κ 4 + k3))]) C.1.1 C.1.2.1 dX3_keepRun_17 hl (by decide) rfl (fun ls hl => ?_)
  refine lv_iconst (v := 0) C.1.1 C.1.2.1 dX3_keepRun_19 (by decide) ?_
  refine lv_istore (lv' := [(7, .int 0), (6, .int v2), (5, .int v1), (4, .int x2), (0, .ref (κ 4 + 53)), (1, .int x1), (2, .int x2), (3, .ref (κ 4 + k3))]) C.1.1 C.1.2.1 dX3_keepRun_20 hl (by decide) rfl (fun ls hl => ?_)
  exact ww_X3_keepRun_22 hk3 C hr hlk Z (lv_sub hl [4, 5, 7, 3, 2, 1, 0] rfl) h
set_option maxHeartbeats 4000000 in
set_option maxRecDepth 100000 in
theorem ss_X3_keepRun (l : Launch) (D : va_G) (κ : Nat → Nat) (ext : va_W) (x1 : Int32) (x2 : Int32) (k3 : Nat) (hk3 : k3 ∈ yy_Tds) : yy_Mv l D κ ext yX3_keepRun cX3_keepRun 8 none rm_X3_keepRun 0 0 [.ref (κ 4 + 53), .int x1, .int x2, .ref (κ 4 + k3)] (mm_X3_keepRun x1 x2 k3) := by
  intro sz τ res h
  refine yy_ofW (by decide) (Nat.le_of_ble_eq_true rfl) ?_
  intro p e s m args below meth c ls hsz E
  obtain ⟨C, hr, hlk, Z, hl⟩ := E
  subst hsz
  exact ww_X3_keepRun_E hk3 C hr hlk Z hl h
/-! MovedLines$Keeper.measureRuns()I -/
noncomputable def mm_X3_measureRuns_70 (x1 : Int32) (x2 : Int32) (x3 : Int32) : yy_M ((Int32) ⊕ ((Unit))) :=
  yy_rt (.inl (x3 + 1))
noncomputable def mm_X3_measureRuns_24b (x1 : Int32) (x2 : Int32) (x3 : Int32) : yy_M ((Int32) ⊕ ((Unit))) :=
  yy_rF 53 8 fun v2 => yy_br (v2 ≤ x3) (yy_rt (.inr ())) (yy_rA 59 14 x3 fun v3 => yy_rA 59 14 x2 fun v4 => yy_br (v3 ≤ v4) (mm_X3_measureRuns_70 x1 x2 x3) (yy_rA 60 14 x2 fun v5 => yy_rA 60 14 x3 fun v6 => yy_wA 60 14 x2 (if v5 < (v6 + 1) then (v6 + 1) else v5) (mm_X3_measureRuns_70 x1 x2 x3)))
noncomputable def mm_X3_measureRuns_76 (x1 : Int32) (x2 : Int32) : yy_M ((Int32 × Int32) ⊕ ((Int32))) :=
  yy_rA 60 14 x2 fun v7 => yy_rt (.inl ((if x1 < v7 then v7 else x1), (x2 + (-1))))
noncomputable def mm_X3_measureRuns_24 (x1 : Int32) (x2 : Int32) (x3 : Int32) : yy_M ((Int32 × Int32) ⊕ ((Int32))) :=
  yy_cl (yy_lp (fun (w : Int32) => mm_X3_measureRuns_24b x1 x2 w) x3) (fun w => mm_X3_measureRuns_76 x1 x2)
noncomputable def mm_X3_measureRuns_9b (x1 : Int32) (x2 : Int32) : yy_M ((Int32 × Int32) ⊕ ((Int32))) :=
  yy_br (x2 < 0) (yy_rt (.inr x1)) (yy_wA 60 14 x2 1 (mm_X3_measureRuns_24 x1 x2 (x2 + 1)))
noncomputable def mm_X3_measureRuns_93 (x1 : Int32) : yy_M Int32 :=
  yy_rt x1
noncomputable def mm_X3_measureRuns_9 (x1 : Int32) (x2 : Int32) : yy_M Int32 :=
  yy_cl (yy_lp (fun (w : Int32 × Int32) => mm_X3_measureRuns_9b w.1 w.2) (x1, x2)) (fun w => mm_X3_measureRuns_93 w)
noncomputable def mm_X3_measureRuns : yy_M Int32 :=
  yy_rF 53 8 fun v1 => mm_X3_measureRuns_9 0 (v1 - 1)
theorem kw_X3_measureRuns : yy_wV RX3 yX3_measureRuns cX3_measureRuns 4 (some .int) 0 := ⟨⟨tw_495, tw_10, tw_58, tw_496⟩, by decide +kernel⟩
abbrev rm_X3_measureRuns : Room := { frames := 1, cells := 0, slots := 0, locals := 21 }
set_option maxHeartbeats 4000000 in
set_option maxRecDepth 100000 in
theorem ww_X3_measureRuns_70 {x1 : Int32} {x2 : Int32} {x3 : Int32} {res : ((Int32) ⊕ ((Unit))) × yy_T} {Q : State → Prop} (C : yy_C D κ p m c cX3_measureRuns 4 s args RX3) (Z : yy_Z D κ ext A s.heap τ H locs) (hl : lv_has ls 4 [(0, .ref (κ 4 + 53)), (1, .int x1), (2, .int x2), (3, .int x3)]) (h : mm_X3_measureRuns_70 x1 x2 x3 τ = some res)
    (kI : ∀ (w : Int32) (τ1 : yy_T) (H1 : Heap) (locs1 : List Loc) (ls1 : Array Slot), res = (.inl w, τ1) → yy_Z D κ ext A s.heap τ1 H1 locs1 → lv_has ls1 4 [(0, .ref (κ 4 + 53)), (1, .int x1), (2, .int x2), (3, .int w)] → W p l e rm_X3_measureRuns s m args below meth c H1 locs1 0 0 Q (F0 m 24 ls1 [])) : W p l e rm_X3_measureRuns s m args below meth c H locs 0 0 Q (F0 m 70 ls []) := by
  unfold mm_X3_measureRuns_70 at h
  refine lv_iinc (v := x3 + 1) (lv' := [(3, .int (x3 + 1)), (0, .ref (κ 4 + 53)), (1, .int x1), (2, .int x2)]) C.1.1 C.1.2.1 dX3_measureRuns_70 hl (k := 3) rfl (by rfl) (by decide) rfl (fun ls hl => ?_)
  refine lv_goto (tgt := 24) C.1.1 C.1.2.1 dX3_measureRuns_73 (by decide) ?_
  exact kI _ _ _ _ _ (yy_rt_of h) Z (lv_sub hl [1, 2, 3, 0] rfl)
set_option maxHeartbeats 4000000 in
set_option maxRecDepth 100000 in
theorem ww_X3_measureRuns_24b {x1 : Int32} {x2 : Int32} {x3 : Int32} {res : ((Int32) ⊕ ((Unit))) × yy_T} {Q : State → Prop} (C : yy_C D κ p m c cX3_measureRuns 4 s args RX3) (Z : yy_Z D κ ext A s.heap τ H locs) (hl : lv_has ls 4 [(0, .ref (κ 4 + 53)), (1, .int x1), (2, .int x2), (3, .int x3)]) (h : mm_X3_measureRuns_24b x1 x2 x3 τ = some res)
    (kI : ∀ (w : Int32) (τ1 : yy_T) (H1 : Heap) (locs1 : List Loc) (ls1 : Array Slot), res = (.inl w, τ1) → yy_Z D κ ext A s.heap τ1 H1 locs1 → lv_has ls1 4 [(0, .ref (κ 4 + 53)), (1, .int x1), (2, .int x2), (3, .int w)] → W p l e rm_X3_measureRuns s m args below meth c H1 locs1 0 0 Q (F0 m 24 ls1 []))
    (kR0 : ∀ (w : Unit) (τ1 : yy_T) (H1 : Heap) (locs1 : List Loc) (ls1 : Array Slot), res = (.inr w, τ1) → yy_Z D κ ext A s.heap τ1 H1 locs1 → lv_has ls1 4 [(0, .ref (κ 4 + 53)), (1, .int x1), (2, .int x2)] → W p l e rm_X3_measureRuns s m args below meth c H1 locs1 0 0 Q (F0 m 76 ls1 [])) : W p l e rm_X3_measureRuns s m args below meth c H locs 0 0 Q (F0 m 24 ls []) := by
  unfold mm_X3_measureRuns_24b at h
  refine lv_iload_n C.1.1 C.1.2.1 dX3_measureRuns_24 rfl (lv_at hl 3 rfl) ?_
  refine lv_aload_n C.1.1 C.1.2.1 dX3_measureRuns_25 rfl (lv_at hl 0 rfl) ?_
  refine yg_X3_8 C Z tw_217 dX3_measureRuns_26 h (fun v2 h => ?_)
  refine yy_icmp_ge (tgt := 76) C dX3_measureRuns_29 (by decide) h (fun h => ?_) (fun h => ?_)
  · exact kR0 _ _ _ _ _ (yy_rt_of h) Z (lv_sub hl [0, 1, 2] rfl)
  · refine lv_aload_n C.1.1 C.1.2.1 dX3_measureRuns_32 rfl (lv_at hl 0 rfl) ?_
    refine yg_X3_6 C Z tw_215 dX3_measureRuns_33 ?_
    refine lv_iload_n C.1.1 C.1.2.1 dX3_measureRuns_36 rfl (lv_at hl 3 rfl) ?_
    refine yy_iald C Z (by decide) rfl dX3_measureRuns_37 h (fun v3 h => ?_)
    refine lv_aload_n C.1.1 C.1.2.1 dX3_measureRuns_38 rfl (lv_at hl 0 rfl) ?_
    refine yg_X3_6 C Z tw_215 dX3_measureRuns_39 ?_
    refine lv_iload_n C.1.1 C.1.2.1 dX3_measureRuns_42 rfl (lv_at hl 2 rfl) ?_
    refine yy_iald C Z (by decide) rfl dX3_measureRuns_43 h (fun v4 h => ?_)
    refine yy_icmp_le (tgt := 70) C dX3_measureRuns_44 (by decide) h (fun h => ?_) (fun h => ?_)
    · exact ww_X3_measureRuns_70  C Z (lv_sub hl [0, 1, 2, 3] rfl) h kI
    · refine lv_aload_n C.1.1 C.1.2.1 dX3_measureRuns_47 rfl (lv_at hl 0 rfl) ?_
      refine yg_X3_7 C Z tw_216 dX3_measureRuns_48 ?_
      refine lv_iload_n C.1.1 C.1.2.1 dX3_measureRuns_51 rfl (lv_at hl 2 rfl) ?_
      refine lv_aload_n C.1.1 C.1.2.1 dX3_measureRuns_52 rfl (lv_at hl 0 rfl) ?_
      refine yg_X3_7 C Z tw_216 dX3_measureRuns_53 ?_
      refine lv_iload_n C.1.1 C.1.2.1 dX3_measureRuns_56 rfl (lv_at hl 2 rfl) ?_
      refine yy_iald C Z (by decide) rfl dX3_measureRuns_57 h (fun v5 h => ?_)
      refine lv_aload_n C.1.1 C.1.2.1 dX3_measureRuns_58 rfl (lv_at hl 0 rfl) ?_
      refine yg_X3_7 C Z tw_216 dX3_measureRuns_59 ?_
      refine lv_iload_n C.1.1 C.1.2.1 dX3_measureRuns_62 rfl (lv_at hl 3 rfl) ?_
      refine yy_iald C Z (by decide) rfl dX3_measureRuns_63 h (fun v6 h => ?_)
      refine lv_iconst (v := 1) C.1.1 C.1.2.1 dX3_measureRuns_64 (by decide) ?_
      refine lv_iadd C.1.1 C.1.2.1 dX3_measureRuns_65 ?_
      refine va_mmax C.1.1 C.1.2.1 (by rw [C.1.2.2.1]; exact hl.1.symm) C.1.2.2.2.1 (C.1.2.2.2.2 _ tw_497) (C.1.2.2.2.2 _ yy_mmax.1) (C.1.2.2.2.2 _ yy_mmax.2.1) (C.1.2.2.2.2 _ yy_mmax.2.2) (Nat.le_of_ble_eq_true rfl) (Nat.le_of_ble_eq_true rfl) (Nat.zero_le _) (Nat.zero_le _) dX3_measureRuns_66 ?_
      refine yy_iast C Z (by decide) rfl dX3_measureRuns_69 h (fun H locs τ Z h => ?_)
      exact ww_X3_measureRuns_70  C Z (lv_sub hl [0, 1, 2, 3] rfl) h kI
set_option maxHeartbeats 4000000 in
set_option maxRecDepth 100000 in
theorem ww_X3_measureRuns_76 {x1 : Int32} {x2 : Int32} {res : ((Int32 × Int32) ⊕ ((Int32))) × yy_T} {Q : State → Prop} (C : yy_C D κ p m c cX3_measureRuns 4 s args RX3) (Z : yy_Z D κ ext A s.heap τ H locs) (hl : lv_has ls 4 [(0, .ref (κ 4 + 53)), (1, .int x1), (2, .int x2)]) (h : mm_X3_measureRuns_76 x1 x2 τ = some res)
    (kI : ∀ (w : Int32 × Int32) (τ1 : yy_T) (H1 : Heap) (locs1 : List Loc) (ls1 : Array Slot), res = (.inl w, τ1) → yy_Z D κ ext A s.heap τ1 H1 locs1 → lv_has ls1 4 [(0, .ref (κ 4 + 53)), (1, .int w.1), (2, .int w.2)] → W p l e rm_X3_measureRuns s m args below meth c H1 locs1 0 0 Q (F0 m 9 ls1 [])) : W p l e rm_X3_measureRuns s m args below meth c H locs 0 0 Q (F0 m 76 ls []) := by
  unfold mm_X3_measureRuns_76 at h
  refine lv_iload_n C.1.1 C.1.2.1 dX3_measureRuns_76 rfl (lv_at hl 1 rfl) ?_
  refine lv_aload_n C.1.1 C.1.2.1 dX3_measureRuns_77 rfl (lv_at hl 0 rfl) ?_
  refine yg_X3_7 C Z tw_216 dX3_measureRuns_78 ?_
  refine lv_iload_n C.1.1 C.1.2.1 dX3_measureRuns_81 rfl (lv_at hl 2 rfl) ?_
  refine yy_iald C Z (by decide) rfl dX3_measureRuns_82 h (fun v7 h => ?_)
  refine va_mmax C.1.1 C.1.2.1 (by rw [C.1.2.2.1]; exact hl.1.symm) C.1.2.2.2.1 (C.1.2.2.2.2 _ tw_497) (C.1.2.2.2.2 _ yy_mmax.1) (C.1.2.2.2.2 _ yy_mmax.2.1) (C.1.2.2.2.2 _ yy_mmax.2.2) (Nat.le_of_ble_eq_true rfl) (Nat.le_of_ble_eq_true rfl) (Nat.zero_le _) (Nat.zero_le _) dX3_measureRuns_83 ?_
  refine lv_istore_n (lv' := [(1, .int (if x1 < v7 then v7 else x1)), (0, .ref (κ 4 + 53)), (2, .int x2)]) C.1.1 C.1.2.1 dX3_measureRuns_86 rfl hl (by decide) rfl (fun ls hl => ?_)
  refine lv_iinc (v := x2 + (-1)) (lv' := [(2, .int (x2 + (-1))), (1, .int (if x1 < v7 then v7 else x1)), (0, .ref (κ 4 + 53))]) C.1.1 C.1.2.1 dX3_measureRuns_87 hl (k := 2) rfl (by rfl) (by decide) rfl (fun ls hl => ?_)
  refine lv_goto (tgt := 9) C.1.1 C.1.2.1 dX3_measureRuns_90 (by decide) ?_
  exact kI _ _ _ _ _ (yy_rt_of h) Z (lv_sub hl [2, 1, 0] rfl)
set_option maxHeartbeats 4000000 in
set_option maxRecDepth 100000 in
theorem ww_X3_measureRuns_24 {x1 : Int32} {x2 : Int32} {x3 : Int32} {res : ((Int32 × Int32) ⊕ ((Int32))) × yy_T} {Q : State → Prop} (C : yy_C D κ p m c cX3_measureRuns 4 s args RX3) (Z : yy_Z D κ ext A s.heap τ H locs) (hl : lv_has ls 4 [(0, .ref (κ 4 + 53)), (1, .int x1), (2, .int x2), (3, .int x3)]) (h : mm_X3_measureRuns_24 x1 x2 x3 τ = some res)
    (kI : ∀ (w : Int32 × Int32) (τ1 : yy_T) (H1 : Heap) (locs1 : List Loc) (ls1 : Array Slot), res = (.inl w, τ1) → yy_Z D κ ext A s.heap τ1 H1 locs1 → lv_has ls1 4 [(0, .ref (κ 4 + 53)), (1, .int w.1), (2, .int w.2)] → W p l e rm_X3_measureRuns s m args below meth c H1 locs1 0 0 Q (F0 m 9 ls1 [])) : W p l e rm_X3_measureRuns s m args below meth c H locs 0 0 Q (F0 m 24 ls []) := by
  unfold mm_X3_measureRuns_24 at h
  refine yy_loop h (fun (w : Int32) (τ : yy_T) => ∀ (H : Heap) (locs : List Loc) (ls : Array Slot), yy_Z D κ ext A s.heap τ H locs → lv_has ls 4 [(0, .ref (κ 4 + 53)), (1, .int x1), (2, .int x2), (3, .int w)] → W p l e rm_X3_measureRuns s m args below meth c H locs 0 0 Q (F0 m 24 ls [])) ?_ H locs ls Z hl
  intro w τ y hy hI hX H locs ls Z hl
  refine ww_X3_measureRuns_24b  C Z hl hy (fun w τ H locs ls ey Z hl => hI w τ ey H locs ls Z hl) (fun w τ H locs ls ey Z hl => ?_)
  · have h := hX _ _ ey
    exact ww_X3_measureRuns_76  C Z (lv_sub hl [0, 1, 2] rfl) h kI
set_option maxHeartbeats 4000000 in
set_option maxRecDepth 100000 in
theorem ww_X3_measureRuns_9b {x1 : Int32} {x2 : Int32} {res : ((Int32 × Int32) ⊕ ((Int32))) × yy_T} {Q : State → Prop} (C : yy_C D κ p m c cX3_measureRuns 4 s args RX3) (Z : yy_Z D κ ext A s.heap τ H locs) (hl : lv_has ls 4 [(0, .ref (κ 4 + 53)), (1, .int x1), (2, .int x2)]) (h : mm_X3_measureRuns_9b x1 x2 τ = some res)
    (kI : ∀ (w : Int32 × Int32) (τ1 : yy_T) (H1 : Heap) (locs1 : List Loc) (ls1 : Array Slot), res = (.inl w, τ1) → yy_Z D κ ext A s.heap τ1 H1 locs1 → lv_has ls1 4 [(0, .ref (κ 4 + 53)), (1, .int w.1), (2, .int w.2)] → W p l e rm_X3_measureRuns s m args below meth c H1 locs1 0 0 Q (F0 m 9 ls1 []))
    (kR0 : ∀ (w : Int32) (τ1 : yy_T) (H1 : Heap) (locs1 : List Loc) (ls1 : Array Slot), res = (.inr w, τ1) → yy_Z D κ ext A s.heap τ1 H1 locs1 → lv_has ls1 4 [(1, .int w)] → W p l e rm_X3_measureRuns s m args below meth c H1 locs1 0 0 Q (F0 m 93 ls1 [])) : W p l e rm_X3_measureRuns s m args below meth c H locs 0 0 Q (F0 m 9 ls []) := by
  unfold mm_X3_measureRuns_9b at h
  refine lv_iload_n C.1.1 C.1.2.1 dX3_measureRuns_9 rfl (lv_at hl 2 rfl) ?_
  refine yy_if_lt (tgt := 93) C dX3_measureRuns_10 (by decide) h (fun h => ?_) (fun h => ?_)
  · exact kR0 _ _ _ _ _ (yy_rt_of h) Z (lv_sub hl [1] rfl)
  · refine lv_aload_n C.1.1 C.1.2.1 dX3_measureRuns_13 rfl (lv_at hl 0 rfl) ?_
    refine yg_X3_7 C Z tw_216 dX3_measureRuns_14 ?_
    refine lv_iload_n C.1.1 C.1.2.1 dX3_measureRuns_17 rfl (lv_at hl 2 rfl) ?_
    refine lv_iconst (v := 1) C.1.1 C.1.2.1 dX3_measureRuns_18 (by decide) ?_
    refine yy_iast C Z (by decide) rfl dX3_measureRuns_19 h (fun H locs τ Z h => ?_)
    refine lv_iload_n C.1.1 C.1.2.1 dX3_measureRuns_20 rfl (lv_at hl 2 rfl) ?_
    refine lv_iconst (v := 1) C.1.1 C.1.2.1 dX3_measureRuns_21 (by decide) ?_
    refine lv_iadd C.1.1 C.1.2.1 dX3_measureRuns_22 ?_
    refine lv_istore_n (lv' := [(3, .int (x2 + 1)), (0, .ref (κ 4 + 53)), (1, .int x1), (2, .int x2)]) C.1.1 C.1.2.1 dX3_measureRuns_23 rfl hl (by decide) rfl (fun ls hl => ?_)
    exact ww_X3_measureRuns_24  C Z (lv_sub hl [1, 2, 3, 0] rfl) h kI
set_option maxHeartbeats 4000000 in
set_option maxRecDepth 100000 in
theorem ww_X3_measureRuns_93 {x1 : Int32} {res : Int32 × yy_T} (C : yy_C D κ p m c cX3_measureRuns 4 s args RX3) (hr : meth.sig.returnType = (some .int)) (hlk : meth.locks = false) (Z : yy_Z D κ ext A s.heap τ H locs) (hl : lv_has ls 4 [(1, .int x1)]) (h : mm_X3_measureRuns_93 x1 τ = some res) : W p l e rm_X3_measureRuns s m args below meth c H locs 0 0 (MQ below (yy_Qi D κ ext A res) args s 0 0 A) (F0 m 93 ls []) := by
  unfold mm_X3_measureRuns_93 at h
  refine lv_iload_n C.1.1 C.1.2.1 dX3_measureRuns_93 rfl (lv_at hl 0 rfl) ?_
  exact yy_iret C Z hr hlk rfl dX3_measureRuns_94 h
set_option maxHeartbeats 4000000 in
set_option maxRecDepth 100000 in
theorem ww_X3_measureRuns_9 {x1 : Int32} {x2 : Int32} {res : Int32 × yy_T} (C : yy_C D κ p m c cX3_measureRuns 4 s args RX3) (hr : meth.sig.returnType = (some .int)) (hlk : meth.locks = false) (Z : yy_Z D κ ext A s.heap τ H locs) (hl : lv_has ls 4 [(0, .ref (κ 4 + 53)), (1, .int x1), (2, .int x2)]) (h : mm_X3_measureRuns_9 x1 x2 τ = some res) : W p l e rm_X3_measureRuns s m args below meth c H locs 0 0 (MQ below (yy_Qi D κ ext A res) args s 0 0 A) (F0 m 9 ls []) := by
  unfold mm_X3_measureRuns_9 at h
  refine yy_loop h (fun (w : Int32 × Int32) (τ : yy_T) => ∀ (H : Heap) (locs : List Loc) (ls : Array Slot), yy_Z D κ ext A s.heap τ H locs → lv_has ls 4 [(0, .ref (κ 4 + 53)), (1, .int w.1), (2, .int w.2)] → W p l e rm_X3_measureRuns s m args below meth c H locs 0 0 (MQ below (yy_Qi D κ ext A res) args s 0 0 A) (F0 m 9 ls [])) ?_ H locs ls Z hl
  intro w τ y hy hI hX H locs ls Z hl
  refine ww_X3_measureRuns_9b  C Z hl hy (fun w τ H locs ls ey Z hl => hI w τ ey H locs ls Z hl) (fun w τ H locs ls ey Z hl => ?_)
  · have h := hX _ _ ey
    exact ww_X3_measureRuns_93  C hr hlk Z (lv_sub hl [0] rfl) h
set_option maxHeartbeats 4000000 in
set_option maxRecDepth 100000 in
theorem ww_X3_measureRuns_E {res : Int32 × yy_T} (C : yy_C D κ p m c cX3_measureRuns 4 s args RX3) (hr : meth.sig.returnType = (some .int)) (hlk : meth.locks = false) (Z : yy_Z D κ ext A s.heap τ H locs) (hl : lv_has ls 4 [(0, .ref (κ 4 + 53))]) (h : mm_X3_measureRuns  τ = some res) : W p l e rm_X3_measureRuns s m args below meth c H locs 0 0 (MQ below (yy_Qi D κ ext A res) args s 0 0 A) (F0 m 0 ls []) := by
  unfold mm_X3_measureRuns at h
  refine lv_iconst (v := 0) C.1.1 C.1.2.1 dX3_measureRuns_0 (by decide) ?_
  refine lv_istore_n (lv' := [(1, .int 0), (0, .ref (κ 4 + 53))]) C.1.1 C.1.2.1 dX3_measureRuns_1 rfl hl (by decide) rfl (fun ls hl => ?_)
  refine lv_aload_n C.1.1 C.1.2.1 dX3_measureRuns_2 rfl (lv_at hl 1 rfl) ?_
  refine yg_X3_8 C Z tw_217 dX3_measureRuns_3 h (fun v1 h => ?_)
  refine lv_iconst (v := 1) C.1.1 C.1.2.1 dX3_measureRuns_6 (by decide) ?_
  refine lv_isub C.1.1 C.1.2.1 dX3_measureRuns_7 ?_
  refine lv_istore_n (lv' := [(2, .int (v1 - 1)), (1, .int 0), (0, .ref (κ 4 + 53))]) C.1.1 C.1.2.1 dX3_measureRuns_8 rfl hl (by decide) rfl (fun ls hl => ?_)
  exact ww_X3_measureRuns_9  C hr hlk Z (lv_sub hl [2, 1, 0] rfl) h
set_option maxHeartbeats 4000000 in
set_option maxRecDepth 100000 in
theorem ss_X3_measureRuns (l : Launch) (D : va_G) (κ : Nat → Nat) (ext : va_W) : yy_Mi l D κ ext yX3_measureRuns cX3_measureRuns 4 (some .int) rm_X3_measureRuns 0 0 [.ref (κ 4 + 53)] (mm_X3_measureRuns ) := by
  intro sz τ res h
  refine yy_ofW (by decide) (Nat.le_of_ble_eq_true rfl) ?_
  intro p e s m args below meth c ls hsz E
  obtain ⟨C, hr, hlk, Z, hl⟩ := E
  subst hsz
  exact ww_X3_measureRuns_E  C hr hlk Z hl h
end
