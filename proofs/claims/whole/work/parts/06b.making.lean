section
variable {p : Program} {l : Launch} {e : Env} {s : State} {m : MethodId} {args : Array Value} {below : List Frame} {meth : Method} {c : Code} {H : Heap} {locs : List Loc} {ls : Array Slot} {D : va_G} {κ : Nat → Nat} {ext : va_W} {A : Nat → Prop} {τ : yy_T}
/-! MovedLinesModel.laysAll()V -/
noncomputable def mm_X10_laysAll_2b (x1 : Int32) : yy_M ((Int32) ⊕ ((Unit))) :=
  yy_br (28 ≤ x1) (yy_rt (.inr ())) (yy_wA 117 28 x1 3 (yy_wA 118 28 x1 ((-1)) (yy_wA 119 28 x1 ((-1)) (yy_rt (.inl (x1 + 1))))))
noncomputable def mm_X10_laysAll_35 : yy_M Unit :=
  yy_cl (mm_X10_many 0) (fun r1 => yy_cl (mm_X10_many 1) (fun r2 => yy_ck (yy_gN 0 r1 0 r2 ≤ 58) (yy_cl (mm_X10_goesInto 16 0 r1 0 r2 1) (fun _ => yy_cl (mm_X10_laysBlocks ) (fun _ => yy_cl (mm_X10_laysEdits ) (fun _ => yy_rt ()))))))
noncomputable def mm_X10_laysAll_2 (x1 : Int32) : yy_M Unit :=
  yy_cl (yy_lp (fun (w : Int32) => mm_X10_laysAll_2b w) x1) (fun w => mm_X10_laysAll_35 )
noncomputable def mm_X10_laysAll : yy_M Unit :=
  mm_X10_laysAll_2 0
theorem kw_X10_laysAll : yy_wV RX10 yX10_laysAll cX10_laysAll 2 none 0 := ⟨⟨tw_896, tw_28, tw_61, tw_897⟩, by decide +kernel⟩
abbrev rm_X10_laysAll : Room := { frames := 22, cells := 58, slots := 812, locals := 765 }
set_option maxHeartbeats 4000000 in
set_option maxRecDepth 100000 in
theorem ww_X10_laysAll_2b {x1 : Int32} {res : ((Int32) ⊕ ((Unit))) × yy_T} {Q : State → Prop} (C : yy_C D κ p m c cX10_laysAll 2 s args RX10) (Z : yy_Z D κ ext A s.heap τ H locs) (hl : lv_has ls 2 [(0, .ref (κ 4 + 112)), (1, .int x1)]) (h : mm_X10_laysAll_2b x1 τ = some res)
    (kI : ∀ (w : Int32) (τ1 : yy_T) (H1 : Heap) (locs1 : List Loc) (ls1 : Array Slot), res = (.inl w, τ1) → yy_Z D κ ext A s.heap τ1 H1 locs1 → lv_has ls1 2 [(0, .ref (κ 4 + 112)), (1, .int w)] → W p l e rm_X10_laysAll s m args below meth c H1 locs1 0 0 Q (F0 m 2 ls1 []))
    (kR0 : ∀ (w : Unit) (τ1 : yy_T) (H1 : Heap) (locs1 : List Loc) (ls1 : Array Slot), res = (.inr w, τ1) → yy_Z D κ ext A s.heap τ1 H1 locs1 → lv_has ls1 2 [(0, .ref (κ 4 + 112))] → W p l e rm_X10_laysAll s m args below meth c H1 locs1 0 0 Q (F0 m 35 ls1 [])) : W p l e rm_X10_laysAll s m args below meth c H locs 0 0 Q (F0 m 2 ls []) := by
  unfold mm_X10_laysAll_2b at h
  refine lv_iload_n C.1.1 C.1.2.1 dX10_laysAll_2 rfl (lv_at hl 1 rfl) ?_
  refine lv_bipush (v := 28) C.1.1 C.1.2.1 dX10_laysAll_3 (by decide) ?_
  refine yy_icmp_ge (tgt := 35) C dX10_laysAll_5 (by decide) h (fun h => ?_) (fun h => ?_)
  · exact kR0 _ _ _ _ _ (yy_rt_of h) Z (lv_sub hl [0] rfl)
  · refine lv_aload_n C.1.1 C.1.2.1 dX10_laysAll_8 rfl (lv_at hl 0 rfl) ?_
    refine yg_X10_10 C Z tw_802 dX10_laysAll_9 ?_
    refine lv_iload_n C.1.1 C.1.2.1 dX10_laysAll_12 rfl (lv_at hl 1 rfl) ?_
    refine lv_iconst (v := 3) C.1.1 C.1.2.1 dX10_laysAll_13 (by decide) ?_
    refine yy_iast C Z (by decide) rfl dX10_laysAll_14 h (fun H locs τ Z h => ?_)
    refine lv_aload_n C.1.1 C.1.2.1 dX10_laysAll_15 rfl (lv_at hl 0 rfl) ?_
    refine yg_X10_11 C Z tw_803 dX10_laysAll_16 ?_
    refine lv_iload_n C.1.1 C.1.2.1 dX10_laysAll_19 rfl (lv_at hl 1 rfl) ?_
    refine lv_iconst (v := (-1)) C.1.1 C.1.2.1 dX10_laysAll_20 (by decide) ?_
    refine yy_iast C Z (by decide) rfl dX10_laysAll_21 h (fun H locs τ Z h => ?_)
    refine lv_aload_n C.1.1 C.1.2.1 dX10_laysAll_22 rfl (lv_at hl 0 rfl) ?_
    refine yg_X10_12 C Z tw_804 dX10_laysAll_23 ?_
    refine lv_iload_n C.1.1 C.1.2.1 dX10_laysAll_26 rfl (lv_at hl 1 rfl) ?_
    refine lv_iconst (v := (-1)) C.1.1 C.1.2.1 dX10_laysAll_27 (by decide) ?_
    refine yy_iast C Z (by decide) rfl dX10_laysAll_28 h (fun H locs τ Z h => ?_)
    refine lv_iinc (v := x1 + 1) (lv' := [(1, .int (x1 + 1)), (0, .ref (κ 4 + 112))]) C.1.1 C.1.2.1 dX10_laysAll_29 hl (k := 1) rfl (by rfl) (by decide) rfl (fun ls hl => ?_)
    refine lv_goto (tgt := 2) C.1.1 C.1.2.1 dX10_laysAll_32 (by decide) ?_
    exact kI _ _ _ _ _ (yy_rt_of h) Z (lv_sub hl [1, 0] rfl)
set_option maxHeartbeats 4000000 in
set_option maxRecDepth 100000 in
theorem ww_X10_laysAll_35 {res : Unit × yy_T} (C : yy_C D κ p m c cX10_laysAll 2 s args RX10) (hr : meth.sig.returnType = none) (hlk : meth.locks = false) (Z : yy_Z D κ ext A s.heap τ H locs) (hl : lv_has ls 2 [(0, .ref (κ 4 + 112))]) (h : mm_X10_laysAll_35  τ = some res) : W p l e rm_X10_laysAll s m args below meth c H locs 0 0 (MQ below (yy_Qv D κ ext A res) args s 58 812 A) (F0 m 35 ls []) := by
  unfold mm_X10_laysAll_35 at h
  refine lv_aload_n C.1.1 C.1.2.1 dX10_laysAll_35 rfl (lv_at hl 0 rfl) ?_
  refine lv_iconst (v := 0) C.1.1 C.1.2.1 dX10_laysAll_36 (by decide) ?_
  refine lv_aload_n C.1.1 C.1.2.1 dX10_laysAll_37 rfl (lv_at hl 0 rfl) ?_
  refine lv_iconst (v := 0) C.1.1 C.1.2.1 dX10_laysAll_38 (by decide) ?_
  refine yy_cVi0 (As := [.int 0]) (rest := [.int 0, .ref (κ 4 + 112)]) (id := 112) (ci := 10) (q := (RX10, TX10, 20)) C Z (ss_X10_many l D κ ext 0) (by decide) (yy_ent_112 _) rfl tw_882 kw_X10_many ⟨⟨rfl, rfl⟩, ⟨Nat.le_of_ble_eq_true rfl, Nat.le_of_ble_eq_true rfl⟩, Nat.le_of_ble_eq_true rfl, Nat.le_of_ble_eq_true rfl⟩ hl.1 rfl (Nat.le_of_ble_eq_true rfl) dX10_laysAll_39 h (fun r1 τ H locs Z h => ?_)
  refine lv_iconst (v := 0) C.1.1 C.1.2.1 dX10_laysAll_42 (by decide) ?_
  refine lv_aload_n C.1.1 C.1.2.1 dX10_laysAll_43 rfl (lv_at hl 0 rfl) ?_
  refine lv_iconst (v := 1) C.1.1 C.1.2.1 dX10_laysAll_44 (by decide) ?_
  refine yy_cVi0 (As := [.int 1]) (rest := [.int 0, .int r1, .int 0, .ref (κ 4 + 112)]) (id := 112) (ci := 10) (q := (RX10, TX10, 20)) C Z (ss_X10_many l D κ ext 1) (by decide) (yy_ent_112 _) rfl tw_882 kw_X10_many ⟨⟨rfl, rfl⟩, ⟨Nat.le_of_ble_eq_true rfl, Nat.le_of_ble_eq_true rfl⟩, Nat.le_of_ble_eq_true rfl, Nat.le_of_ble_eq_true rfl⟩ hl.1 rfl (Nat.le_of_ble_eq_true rfl) dX10_laysAll_45 h (fun r2 τ H locs Z h => ?_)
  refine lv_iconst (v := 1) C.1.1 C.1.2.1 dX10_laysAll_48 (by decide) ?_
  have hc := (yy_ck_of h).1
  have h := (yy_ck_of h).2
  refine yy_cVv (As := [.int 0, .int r1, .int 0, .int r2, .int 1]) (rest := []) (id := 112) (ci := 10) (q := (RX10, TX10, 20)) C Z (ss_X10_goesInto l D κ 16 ext 0 r1 0 r2 1) (by decide) (yy_ent_112 _) rfl tw_898 kw_X10_goesInto ⟨⟨rfl, rfl⟩, ⟨Nat.le_of_ble_eq_true rfl, Nat.le_of_ble_eq_true rfl⟩, (show 0 + yy_gN 0 r1 0 r2 ≤ 58 by omega), (show 0 + 14 * yy_gN 0 r1 0 r2 ≤ 812 by omega)⟩ hl.1 rfl (Nat.le_of_ble_eq_true rfl) dX10_laysAll_49 h (fun τ H locs Z h => ?_)
  refine W.widen (k := 58) (n := 812) (by omega) (by omega) ?_
  refine lv_aload_n C.1.1 C.1.2.1 dX10_laysAll_52 rfl (lv_at hl 0 rfl) ?_
  refine yy_cVv0 (As := []) (rest := []) (id := 112) (ci := 10) (q := (RX10, TX10, 20)) C Z (ss_X10_laysBlocks l D κ ext ) (by decide) (yy_ent_112 _) rfl tw_929 kw_X10_laysBlocks ⟨⟨rfl, rfl⟩, ⟨Nat.le_of_ble_eq_true rfl, Nat.le_of_ble_eq_true rfl⟩, Nat.le_of_ble_eq_true rfl, Nat.le_of_ble_eq_true rfl⟩ hl.1 rfl (Nat.le_of_ble_eq_true rfl) dX10_laysAll_53 h (fun τ H locs Z h => ?_)
  refine lv_aload_n C.1.1 C.1.2.1 dX10_laysAll_56 rfl (lv_at hl 0 rfl) ?_
  refine yy_cVv0 (As := []) (rest := []) (id := 112) (ci := 10) (q := (RX10, TX10, 20)) C Z (ss_X10_laysEdits l D κ ext ) (by decide) (yy_ent_112 _) rfl tw_941 kw_X10_laysEdits ⟨⟨rfl, rfl⟩, ⟨Nat.le_of_ble_eq_true rfl, Nat.le_of_ble_eq_true rfl⟩, Nat.le_of_ble_eq_true rfl, Nat.le_of_ble_eq_true rfl⟩ hl.1 rfl (Nat.le_of_ble_eq_true rfl) dX10_laysAll_57 h (fun τ H locs Z h => ?_)
  exact yy_vret C Z hr hlk dX10_laysAll_60 h
set_option maxHeartbeats 4000000 in
set_option maxRecDepth 100000 in
theorem ww_X10_laysAll_2 {x1 : Int32} {res : Unit × yy_T} (C : yy_C D κ p m c cX10_laysAll 2 s args RX10) (hr : meth.sig.returnType = none) (hlk : meth.locks = false) (Z : yy_Z D κ ext A s.heap τ H locs) (hl : lv_has ls 2 [(0, .ref (κ 4 + 112)), (1, .int x1)]) (h : mm_X10_laysAll_2 x1 τ = some res) : W p l e rm_X10_laysAll s m args below meth c H locs 0 0 (MQ below (yy_Qv D κ ext A res) args s 58 812 A) (F0 m 2 ls []) := by
  unfold mm_X10_laysAll_2 at h
  refine yy_loop h (fun (w : Int32) (τ : yy_T) => ∀ (H : Heap) (locs : List Loc) (ls : Array Slot), yy_Z D κ ext A s.heap τ H locs → lv_has ls 2 [(0, .ref (κ 4 + 112)), (1, .int w)] → W p l e rm_X10_laysAll s m args below meth c H locs 0 0 (MQ below (yy_Qv D κ ext A res) args s 58 812 A) (F0 m 2 ls [])) ?_ H locs ls Z hl
  intro w τ y hy hI hX H locs ls Z hl
  refine ww_X10_laysAll_2b C Z hl hy (fun w τ H locs ls ey Z hl => hI w τ ey H locs ls Z hl) (fun w τ H locs ls ey Z hl => ?_)
  · have h := hX _ _ ey
    exact ww_X10_laysAll_35 C hr hlk Z (lv_sub hl [0] rfl) h
set_option maxHeartbeats 4000000 in
set_option maxRecDepth 100000 in
theorem ww_X10_laysAll_E {res : Unit × yy_T} (C : yy_C D κ p m c cX10_laysAll 2 s args RX10) (hr : meth.sig.returnType = none) (hlk : meth.locks = false) (Z : yy_Z D κ ext A s.heap τ H locs) (hl : lv_has ls 2 [(0, .ref (κ 4 + 112))]) (h : mm_X10_laysAll  τ = some res) : W p l e rm_X10_laysAll s m args below meth c H locs 0 0 (MQ below (yy_Qv D κ ext A res) args s 58 812 A) (F0 m 0 ls []) := by
  unfold mm_X10_laysAll at h
  refine lv_iconst (v := 0) C.1.1 C.1.2.1 dX10_laysAll_0 (by decide) ?_
  refine lv_istore_n (lv' := [(1, .int 0), (0, .ref (κ 4 + 112))]) C.1.1 C.1.2.1 dX10_laysAll_1 rfl hl (by decide) rfl (fun ls hl => ?_)
  exact ww_X10_laysAll_2 C hr hlk Z (lv_sub hl [1, 0] rfl) h
set_option maxHeartbeats 4000000 in
set_option maxRecDepth 100000 in
theorem ss_X10_laysAll (l : Launch) (D : va_G) (κ : Nat → Nat) (ext : va_W) : yy_Mv l D κ ext yX10_laysAll cX10_laysAll 2 none rm_X10_laysAll 58 812 [.ref (κ 4 + 112)] (mm_X10_laysAll ) := by
  intro sz τ res h
  refine yy_ofW (by decide) (Nat.le_of_ble_eq_true rfl) ?_
  intro p e s m args below meth c ls hsz E
  obtain ⟨C, hr, hlk, Z, hl⟩ := E
  subst hsz
  exact ww_X10_laysAll_E  C hr hlk Z hl h
/-! MovedLinesModel.now(I)I -/
noncomputable def mm_X10_now_64 (x1 : Int32) : yy_M Int32 :=
  yy_cl (mm_X10_many x1) (fun r1 => yy_rt r1)
noncomputable def mm_X10_now (x1 : Int32) : yy_M Int32 :=
  yy_wF 112 0 0 (yy_cl (mm_X10_laysAll ) (fun _ => yy_br (x1 = 0) (mm_X10_now_64 x1) (yy_br (x1 = 1) (mm_X10_now_64 x1) (yy_br (x1 = 2) (yy_cl (mm_X10_having 0 0) (fun r2 => yy_rt r2)) (yy_br (x1 = 3) (yy_cl (mm_X10_having 0 1) (fun r3 => yy_rt r3)) (yy_br (x1 = 4) (yy_rF 112 16 fun v4 => yy_rt v4) (yy_br (x1 = 5) (yy_cl (mm_X10_having 0 2) (fun r5 => yy_rt r5)) (yy_br (x1 = 6) (yy_cl (mm_X10_having 0 3) (fun r6 => yy_rt r6)) (yy_br (x1 = 7) (yy_cl (mm_X10_having 1 3) (fun r7 => yy_rt r7)) (yy_br (x1 = 8) (yy_rF 112 6 fun v8 => yy_rt v8) (yy_br (x1 = 9) (yy_rF 112 2 fun v9 => yy_rt v9) (yy_rt ((-1))))))))))))))
theorem kw_X10_now : yy_wV RX10 yX10_now cX10_now 2 (some .int) 1 := ⟨⟨tw_891, tw_892, tw_61, tw_893⟩, by decide +kernel⟩
abbrev rm_X10_now : Room := { frames := 23, cells := 58, slots := 812, locals := 786 }
set_option maxHeartbeats 4000000 in
set_option maxRecDepth 100000 in
theorem ww_X10_now_64 {x1 : Int32} {res : Int32 × yy_T} (C : yy_C D κ p m c cX10_now 2 s args RX10) (hr : meth.sig.returnType = (some .int)) (hlk : meth.locks = false) (Z : yy_Z D κ ext A s.heap τ H locs) (hl : lv_has ls 2 [(0, .ref (κ 4 + 112)), (1, .int x1)]) (h : mm_X10_now_64 x1 τ = some res) : W p l e rm_X10_now s m args below meth c H locs 58 812 (MQ below (yy_Qi D κ ext A res) args s 58 812 A) (F0 m 64 ls []) := by
  unfold mm_X10_now_64 at h
  refine lv_aload_n C.1.1 C.1.2.1 dX10_now_64 rfl (lv_at hl 0 rfl) ?_
  refine lv_iload_n C.1.1 C.1.2.1 dX10_now_65 rfl (lv_at hl 1 rfl) ?_
  refine yy_cVi0 (As := [.int x1]) (rest := []) (id := 112) (ci := 10) (q := (RX10, TX10, 20)) C Z (ss_X10_many l D κ ext x1) (by decide) (yy_ent_112 _) rfl tw_882 kw_X10_many ⟨⟨rfl, rfl⟩, ⟨Nat.le_of_ble_eq_true rfl, Nat.le_of_ble_eq_true rfl⟩, Nat.le_of_ble_eq_true rfl, Nat.le_of_ble_eq_true rfl⟩ hl.1 rfl (Nat.le_of_ble_eq_true rfl) dX10_now_66 h (fun r1 τ H locs Z h => ?_)
  exact yy_iret C Z hr hlk rfl dX10_now_69 h
set_option maxHeartbeats 4000000 in
set_option maxRecDepth 100000 in
theorem ww_X10_now_E {x1 : Int32} {res : Int32 × yy_T} (C : yy_C D κ p m c cX10_now 2 s args RX10) (hr : meth.sig.returnType = (some .int)) (hlk : meth.locks = false) (Z : yy_Z D κ ext A s.heap τ H locs) (hl : lv_has ls 2 [(0, .ref (κ 4 + 112)), (1, .int x1)]) (h : mm_X10_now x1 τ = some res) : W p l e rm_X10_now s m args below meth c H locs 0 0 (MQ below (yy_Qi D κ ext A res) args s 58 812 A) (F0 m 0 ls []) := by
  unfold mm_X10_now at h
  refine lv_aload_n C.1.1 C.1.2.1 dX10_now_0 rfl (lv_at hl 0 rfl) ?_
  refine lv_iconst (v := 0) C.1.1 C.1.2.1 dX10_now_1 (by decide) ?_
  refine yp_X10_0 C Z tw_792 dX10_now_2 h (fun H locs τ Z h => ?_)
  refine lv_aload_n C.1.1 C.1.2.1 dX10_now_5 rfl (lv_at hl 0 rfl) ?_
  refine yy_cVv (As := []) (rest := []) (id := 112) (ci := 10) (q := (RX10, TX10, 20)) C Z (ss_X10_laysAll l D κ ext ) (by decide) (yy_ent_112 _) rfl tw_894 kw_X10_laysAll ⟨⟨rfl, rfl⟩, ⟨Nat.le_of_ble_eq_true rfl, Nat.le_of_ble_eq_true rfl⟩, Nat.le_of_ble_eq_true rfl, Nat.le_of_ble_eq_true rfl⟩ hl.1 rfl (Nat.le_of_ble_eq_true rfl) dX10_now_6 h (fun τ H locs Z h => ?_)
  refine W.widen (k := 58) (n := 812) (Nat.le_refl _) (Nat.le_refl _) ?_
  refine lv_iload_n C.1.1 C.1.2.1 dX10_now_9 rfl (lv_at hl 1 rfl) ?_
  rcases yy_br_of h with ⟨hc0, h⟩ | ⟨hc0, h⟩
  · refine lv_tableIn (off := 54) (tgt := 64) C.1.1 C.1.2.1 dX10_now_10 (by rw [hc0]; decide) (by rw [hc0]; decide) (by rw [hc0]; rfl) (by decide) ?_
    exact ww_X10_now_64 C hr hlk Z (lv_sub hl [0, 1] rfl) h
  · rcases yy_br_of h with ⟨hc1, h⟩ | ⟨hc1, h⟩
    · refine lv_tableIn (off := 54) (tgt := 64) C.1.1 C.1.2.1 dX10_now_10 (by rw [hc1]; decide) (by rw [hc1]; decide) (by rw [hc1]; rfl) (by decide) ?_
      exact ww_X10_now_64 C hr hlk Z (lv_sub hl [0, 1] rfl) h
    · rcases yy_br_of h with ⟨hc2, h⟩ | ⟨hc2, h⟩
      · refine lv_tableIn (off := 60) (tgt := 70) C.1.1 C.1.2.1 dX10_now_10 (by rw [hc2]; decide) (by rw [hc2]; decide) (by rw [hc2]; rfl) (by decide) ?_
        refine lv_aload_n C.1.1 C.1.2.1 dX10_now_70 rfl (lv_at hl 0 rfl) ?_
        refine lv_iconst (v := 0) C.1.1 C.1.2.1 dX10_now_71 (by decide) ?_
        refine lv_iconst (v := 0) C.1.1 C.1.2.1 dX10_now_72 (by decide) ?_
        refine yy_cVi0 (As := [.int 0, .int 0]) (rest := []) (id := 112) (ci := 10) (q := (RX10, TX10, 20)) C Z (ss_X10_having l D κ ext 0 0) (by decide) (yy_ent_112 _) rfl tw_949 kw_X10_having ⟨⟨rfl, rfl⟩, ⟨Nat.le_of_ble_eq_true rfl, Nat.le_of_ble_eq_true rfl⟩, Nat.le_of_ble_eq_true rfl, Nat.le_of_ble_eq_true rfl⟩ hl.1 rfl (Nat.le_of_ble_eq_true rfl) dX10_now_73 h (fun r2 τ H locs Z h => ?_)
        exact yy_iret C Z hr hlk rfl dX10_now_76 h
      · rcases yy_br_of h with ⟨hc3, h⟩ | ⟨hc3, h⟩
        · refine lv_tableIn (off := 67) (tgt := 77) C.1.1 C.1.2.1 dX10_now_10 (by rw [hc3]; decide) (by rw [hc3]; decide) (by rw [hc3]; rfl) (by decide) ?_
          refine lv_aload_n C.1.1 C.1.2.1 dX10_now_77 rfl (lv_at hl 0 rfl) ?_
          refine lv_iconst (v := 0) C.1.1 C.1.2.1 dX10_now_78 (by decide) ?_
          refine lv_iconst (v := 1) C.1.1 C.1.2.1 dX10_now_79 (by decide) ?_
          refine yy_cVi0 (As := [.int 0, .int 1]) (rest := []) (id := 112) (ci := 10) (q := (RX10, TX10, 20)) C Z (ss_X10_having l D κ ext 0 1) (by decide) (yy_ent_112 _) rfl tw_949 kw_X10_having ⟨⟨rfl, rfl⟩, ⟨Nat.le_of_ble_eq_true rfl, Nat.le_of_ble_eq_true rfl⟩, Nat.le_of_ble_eq_true rfl, Nat.le_of_ble_eq_true rfl⟩ hl.1 rfl (Nat.le_of_ble_eq_true rfl) dX10_now_80 h (fun r3 τ H locs Z h => ?_)
          exact yy_iret C Z hr hlk rfl dX10_now_83 h
        · rcases yy_br_of h with ⟨hc4, h⟩ | ⟨hc4, h⟩
          · refine lv_tableIn (off := 74) (tgt := 84) C.1.1 C.1.2.1 dX10_now_10 (by rw [hc4]; decide) (by rw [hc4]; decide) (by rw [hc4]; rfl) (by decide) ?_
            refine lv_aload_n C.1.1 C.1.2.1 dX10_now_84 rfl (lv_at hl 0 rfl) ?_
            refine yg_X10_16 C Z tw_808 dX10_now_85 h (fun v4 h => ?_)
            exact yy_iret C Z hr hlk rfl dX10_now_88 h
          · rcases yy_br_of h with ⟨hc5, h⟩ | ⟨hc5, h⟩
            · refine lv_tableIn (off := 79) (tgt := 89) C.1.1 C.1.2.1 dX10_now_10 (by rw [hc5]; decide) (by rw [hc5]; decide) (by rw [hc5]; rfl) (by decide) ?_
              refine lv_aload_n C.1.1 C.1.2.1 dX10_now_89 rfl (lv_at hl 0 rfl) ?_
              refine lv_iconst (v := 0) C.1.1 C.1.2.1 dX10_now_90 (by decide) ?_
              refine lv_iconst (v := 2) C.1.1 C.1.2.1 dX10_now_91 (by decide) ?_
              refine yy_cVi0 (As := [.int 0, .int 2]) (rest := []) (id := 112) (ci := 10) (q := (RX10, TX10, 20)) C Z (ss_X10_having l D κ ext 0 2) (by decide) (yy_ent_112 _) rfl tw_949 kw_X10_having ⟨⟨rfl, rfl⟩, ⟨Nat.le_of_ble_eq_true rfl, Nat.le_of_ble_eq_true rfl⟩, Nat.le_of_ble_eq_true rfl, Nat.le_of_ble_eq_true rfl⟩ hl.1 rfl (Nat.le_of_ble_eq_true rfl) dX10_now_92 h (fun r5 τ H locs Z h => ?_)
              exact yy_iret C Z hr hlk rfl dX10_now_95 h
            · rcases yy_br_of h with ⟨hc6, h⟩ | ⟨hc6, h⟩
              · refine lv_tableIn (off := 86) (tgt := 96) C.1.1 C.1.2.1 dX10_now_10 (by rw [hc6]; decide) (by rw [hc6]; decide) (by rw [hc6]; rfl) (by decide) ?_
                refine lv_aload_n C.1.1 C.1.2.1 dX10_now_96 rfl (lv_at hl 0 rfl) ?_
                refine lv_iconst (v := 0) C.1.1 C.1.2.1 dX10_now_97 (by decide) ?_
                refine lv_iconst (v := 3) C.1.1 C.1.2.1 dX10_now_98 (by decide) ?_
                refine yy_cVi0 (As := [.int 0, .int 3]) (rest := []) (id := 112) (ci := 10) (q := (RX10, TX10, 20)) C Z (ss_X10_having l D κ ext 0 3) (by decide) (yy_ent_112 _) rfl tw_949 kw_X10_having ⟨⟨rfl, rfl⟩, ⟨Nat.le_of_ble_eq_true rfl, Nat.le_of_ble_eq_true rfl⟩, Nat.le_of_ble_eq_true rfl, Nat.le_of_ble_eq_true rfl⟩ hl.1 rfl (Nat.le_of_ble_eq_true rfl) dX10_now_99 h (fun r6 τ H locs Z h => ?_)
                exact yy_iret C Z hr hlk rfl dX10_now_102 h
              · rcases yy_br_of h with ⟨hc7, h⟩ | ⟨hc7, h⟩
                · refine lv_tableIn (off := 93) (tgt := 103) C.1.1 C.1.2.1 dX10_now_10 (by rw [hc7]; decide) (by rw [hc7]; decide) (by rw [hc7]; rfl) (by decide) ?_
                  refine lv_aload_n C.1.1 C.1.2.1 dX10_now_103 rfl (lv_at hl 0 rfl) ?_
                  refine lv_iconst (v := 1) C.1.1 C.1.2.1 dX10_now_104 (by decide) ?_
                  refine lv_iconst (v := 3) C.1.1 C.1.2.1 dX10_now_105 (by decide) ?_
                  refine yy_cVi0 (As := [.int 1, .int 3]) (rest := []) (id := 112) (ci := 10) (q := (RX10, TX10, 20)) C Z (ss_X10_having l D κ ext 1 3) (by decide) (yy_ent_112 _) rfl tw_949 kw_X10_having ⟨⟨rfl, rfl⟩, ⟨Nat.le_of_ble_eq_true rfl, Nat.le_of_ble_eq_true rfl⟩, Nat.le_of_ble_eq_true rfl, Nat.le_of_ble_eq_true rfl⟩ hl.1 rfl (Nat.le_of_ble_eq_true rfl) dX10_now_106 h (fun r7 τ H locs Z h => ?_)
                  exact yy_iret C Z hr hlk rfl dX10_now_109 h
                · rcases yy_br_of h with ⟨hc8, h⟩ | ⟨hc8, h⟩
                  · refine lv_tableIn (off := 100) (tgt := 110) C.1.1 C.1.2.1 dX10_now_10 (by rw [hc8]; decide) (by rw [hc8]; decide) (by rw [hc8]; rfl) (by decide) ?_
                    refine lv_aload_n C.1.1 C.1.2.1 dX10_now_110 rfl (lv_at hl 0 rfl) ?_
                    refine yg_X10_6 C Z tw_798 dX10_now_111 h (fun v8 h => ?_)
                    exact yy_iret C Z hr hlk rfl dX10_now_114 h
                  · rcases yy_br_of h with ⟨hc9, h⟩ | ⟨hc9, h⟩
                    · refine lv_tableIn (off := 105) (tgt := 115) C.1.1 C.1.2.1 dX10_now_10 (by rw [hc9]; decide) (by rw [hc9]; decide) (by rw [hc9]; rfl) (by decide) ?_
                      refine lv_aload_n C.1.1 C.1.2.1 dX10_now_115 rfl (lv_at hl 0 rfl) ?_
                      refine yg_X10_2 C Z tw_794 dX10_now_116 h (fun v9 h => ?_)
                      exact yy_iret C Z hr hlk rfl dX10_now_119 h
                    · refine lv_tableOut (tgt := 120) C.1.1 C.1.2.1 dX10_now_10 (yy_out 10 (fun k hk => by rcases (show k = 0 ∨ k = 1 ∨ k = 2 ∨ k = 3 ∨ k = 4 ∨ k = 5 ∨ k = 6 ∨ k = 7 ∨ k = 8 ∨ k = 9 by omega) with rfl | rfl | rfl | rfl | rfl | rfl | rfl | rfl | rfl | rfl <;> assumption)) (by decide) ?_
                      refine lv_iconst (v := (-1)) C.1.1 C.1.2.1 dX10_now_120 (by decide) ?_
                      exact yy_iret C Z hr hlk rfl dX10_now_121 h
set_option maxHeartbeats 4000000 in
set_option maxRecDepth 100000 in
theorem ss_X10_now (l : Launch) (D : va_G) (κ : Nat → Nat) (ext : va_W) (x1 : Int32) : yy_Mi l D κ ext yX10_now cX10_now 2 (some .int) rm_X10_now 58 812 [.ref (κ 4 + 112), .int x1] (mm_X10_now x1) := by
  intro sz τ res h
  refine yy_ofW (by decide) (Nat.le_of_ble_eq_true rfl) ?_
  intro p e s m args below meth c ls hsz E
  obtain ⟨C, hr, hlk, Z, hl⟩ := E
  subst hsz
  exact ww_X10_now_E  C hr hlk Z hl h
/-! MovedLinesModel.line(III)I -/
noncomputable def mm_X10_line_23 : yy_M Int32 :=
  yy_cl (mm_X10_refuse ) (fun r2 => yy_rt r2)
noncomputable def mm_X10_line (x1 : Int32) (x2 : Int32) (x3 : Int32) : yy_M Int32 :=
  yy_wF 112 0 0 (yy_cl (mm_X10_isLine x1 x2) (fun r1 => yy_br (r1 = 0) (mm_X10_line_23 ) (yy_cl (mm_X10_isIn x3 0 3) (fun r3 => yy_br (r3 = 0) (mm_X10_line_23 ) (yy_cl (mm_X10_laysAll ) (fun _ => yy_br (x3 = 0) (yy_cl (mm_X10_wordsOf x1 x2) (fun r7 => yy_rt r7)) (yy_br (x3 = 1) (yy_rA 117 28 ((14 * x1) + x2) fun v6 => yy_rt v6) (yy_br (x3 = 2) (yy_rA 118 28 ((14 * x1) + x2) fun v5 => yy_rt v5) (yy_rA 119 28 ((14 * x1) + x2) fun v4 => yy_rt v4)))))))))
theorem kw_X10_line : yy_wV RX10 yX10_line cX10_line 5 (some .int) 3 := ⟨⟨tw_954, tw_955, tw_61, tw_956⟩, by decide +kernel⟩
abbrev rm_X10_line : Room := { frames := 23, cells := 58, slots := 812, locals := 786 }
set_option maxHeartbeats 4000000 in
set_option maxRecDepth 100000 in
theorem ww_X10_line_23 {res : Int32 × yy_T} (C : yy_C D κ p m c cX10_line 5 s args RX10) (hr : meth.sig.returnType = (some .int)) (hlk : meth.locks = false) (Z : yy_Z D κ ext A s.heap τ H locs) (hl : lv_has ls 5 [(0, .ref (κ 4 + 112))]) (h : mm_X10_line_23  τ = some res) : W p l e rm_X10_line s m args below meth c H locs 0 0 (MQ below (yy_Qi D κ ext A res) args s 58 812 A) (F0 m 23 ls []) := by
  unfold mm_X10_line_23 at h
  refine lv_aload_n C.1.1 C.1.2.1 dX10_line_23 rfl (lv_at hl 0 rfl) ?_
  refine yy_cVi0 (As := []) (rest := []) (id := 112) (ci := 10) (q := (RX10, TX10, 20)) C Z (ss_X10_refuse l D κ ext ) (by decide) (yy_ent_112 _) rfl tw_961 kw_X10_refuse ⟨⟨rfl, rfl⟩, ⟨Nat.le_of_ble_eq_true rfl, Nat.le_of_ble_eq_true rfl⟩, Nat.le_of_ble_eq_true rfl, Nat.le_of_ble_eq_true rfl⟩ hl.1 rfl (Nat.le_of_ble_eq_true rfl) dX10_line_24 h (fun r2 τ H locs Z h => ?_)
  refine W.widen (k := 58) (n := 812) (Nat.le_of_ble_eq_true rfl) (Nat.le_of_ble_eq_true rfl) ?_
  exact yy_iret C Z hr hlk rfl dX10_line_27 h
set_option maxHeartbeats 4000000 in
set_option maxRecDepth 100000 in
theorem ww_X10_line_E {x1 : Int32} {x2 : Int32} {x3 : Int32} {res : Int32 × yy_T} (C : yy_C D κ p m c cX10_line 5 s args RX10) (hr : meth.sig.returnType = (some .int)) (hlk : meth.locks = false) (Z : yy_Z D κ ext A s.heap τ H locs) (hl : lv_has ls 5 [(0, .ref (κ 4 + 112)), (1, .int x1), (2, .int x2), (3, .int x3)]) (h : mm_X10_line x1 x2 x3 τ = some res) : W p l e rm_X10_line s m args below meth c H locs 0 0 (MQ below (yy_Qi D κ ext A res) args s 58 812 A) (F0 m 0 ls []) := by
  unfold mm_X10_line at h
  refine lv_aload_n C.1.1 C.1.2.1 dX10_line_0 rfl (lv_at hl 0 rfl) ?_
  refine lv_iconst (v := 0) C.1.1 C.1.2.1 dX10_line_1 (by decide) ?_
  refine yp_X10_0 C Z tw_792 dX10_line_2 h (fun H locs τ Z h => ?_)
  refine lv_aload_n C.1.1 C.1.2.1 dX10_line_5 rfl (lv_at hl 0 rfl) ?_
  refine lv_iload_n C.1.1 C.1.2.1 dX10_line_6 rfl (lv_at hl 1 rfl) ?_
  refine lv_iload_n C.1.1 C.1.2.1 dX10_line_7 rfl (lv_at hl 2 rfl) ?_
  refine yy_cVi0 (As := [.int x1, .int x2]) (rest := []) (id := 112) (ci := 10) (q := (RX10, TX10, 20)) C Z (ss_X10_isLine l D κ ext x1 x2) (by decide) (yy_ent_112 _) rfl tw_957 kw_X10_isLine ⟨⟨rfl, rfl⟩, ⟨Nat.le_of_ble_eq_true rfl, Nat.le_of_ble_eq_true rfl⟩, Nat.le_of_ble_eq_true rfl, Nat.le_of_ble_eq_true rfl⟩ hl.1 rfl (Nat.le_of_ble_eq_true rfl) dX10_line_8 h (fun r1 τ H locs Z h => ?_)
  refine yy_if_eq (tgt := 23) C dX10_line_11 (by decide) h (fun h => ?_) (fun h => ?_)
  · exact ww_X10_line_23 C hr hlk Z (lv_sub hl [0] rfl) h
  · refine lv_iload_n C.1.1 C.1.2.1 dX10_line_14 rfl (lv_at hl 3 rfl) ?_
    refine lv_iconst (v := 0) C.1.1 C.1.2.1 dX10_line_15 (by decide) ?_
    refine lv_iconst (v := 3) C.1.1 C.1.2.1 dX10_line_16 (by decide) ?_
    refine yy_cSi0 (As := [.int x3, .int 0, .int 3]) (rest := [])  C Z (ss_X10_isIn l D κ ext x3 0 3) tw_860 kw_X10_isIn ⟨⟨rfl, rfl⟩, ⟨Nat.le_of_ble_eq_true rfl, Nat.le_of_ble_eq_true rfl⟩, Nat.le_of_ble_eq_true rfl, Nat.le_of_ble_eq_true rfl⟩ hl.1 rfl (Nat.le_of_ble_eq_true rfl) dX10_line_17 h (fun r3 τ H locs Z h => ?_)
    refine yy_if_ne (tgt := 28) C dX10_line_20 (by decide) h (fun h => ?_) (fun h => ?_)
    · refine lv_aload_n C.1.1 C.1.2.1 dX10_line_28 rfl (lv_at hl 0 rfl) ?_
      refine yy_cVv (As := []) (rest := []) (id := 112) (ci := 10) (q := (RX10, TX10, 20)) C Z (ss_X10_laysAll l D κ ext ) (by decide) (yy_ent_112 _) rfl tw_894 kw_X10_laysAll ⟨⟨rfl, rfl⟩, ⟨Nat.le_of_ble_eq_true rfl, Nat.le_of_ble_eq_true rfl⟩, Nat.le_of_ble_eq_true rfl, Nat.le_of_ble_eq_true rfl⟩ hl.1 rfl (Nat.le_of_ble_eq_true rfl) dX10_line_29 h (fun τ H locs Z h => ?_)
      refine W.widen (k := 58) (n := 812) (Nat.le_refl _) (Nat.le_refl _) ?_
      refine lv_bipush (v := 14) C.1.1 C.1.2.1 dX10_line_32 (by decide) ?_
      refine lv_iload_n C.1.1 C.1.2.1 dX10_line_34 rfl (lv_at hl 1 rfl) ?_
      refine lv_imul C.1.1 C.1.2.1 dX10_line_35 ?_
      refine lv_iload_n C.1.1 C.1.2.1 dX10_line_36 rfl (lv_at hl 2 rfl) ?_
      refine lv_iadd C.1.1 C.1.2.1 dX10_line_37 ?_
      refine lv_istore (lv' := [(4, .int ((14 * x1) + x2)), (0, .ref (κ 4 + 112)), (1, .int x1), (2, .int x2), (3, .int x3)]) C.1.1 C.1.2.1 dX10_line_38 hl (by decide) rfl (fun ls hl => ?_)
      refine lv_iload_n C.1.1 C.1.2.1 dX10_line_40 rfl (lv_at hl 4 rfl) ?_
      refine yy_if_ne (tgt := 53) C dX10_line_41 (by decide) h (fun h => ?_) (fun h => ?_)
      · refine lv_iload_n C.1.1 C.1.2.1 dX10_line_53 rfl (lv_at hl 4 rfl) ?_
        refine lv_iconst (v := 1) C.1.1 C.1.2.1 dX10_line_54 (by decide) ?_
        refine yy_icmp_ne (tgt := 68) C dX10_line_55 (by decide) h (fun h => ?_) (fun h => ?_)
        · refine lv_iload_n C.1.1 C.1.2.1 dX10_line_68 rfl (lv_at hl 4 rfl) ?_
          refine lv_iconst (v := 2) C.1.1 C.1.2.1 dX10_line_69 (by decide) ?_
          refine yy_icmp_ne (tgt := 83) C dX10_line_70 (by decide) h (fun h => ?_) (fun h => ?_)
          · refine lv_aload_n C.1.1 C.1.2.1 dX10_line_83 rfl (lv_at hl 1 rfl) ?_
            refine yg_X10_12 C Z tw_804 dX10_line_84 ?_
            refine lv_iload C.1.1 C.1.2.1 dX10_line_87 (lv_at hl 0 rfl) ?_
            refine yy_iald C Z (by decide) rfl dX10_line_89 h (fun v4 h => ?_)
            exact yy_iret C Z hr hlk rfl dX10_line_90 h
          · refine lv_aload_n C.1.1 C.1.2.1 dX10_line_73 rfl (lv_at hl 1 rfl) ?_
            refine yg_X10_11 C Z tw_803 dX10_line_74 ?_
            refine lv_iload C.1.1 C.1.2.1 dX10_line_77 (lv_at hl 0 rfl) ?_
            refine yy_iald C Z (by decide) rfl dX10_line_79 h (fun v5 h => ?_)
            refine lv_goto (tgt := 90) C.1.1 C.1.2.1 dX10_line_80 (by decide) ?_
            exact yy_iret C Z hr hlk rfl dX10_line_90 h
        · refine lv_aload_n C.1.1 C.1.2.1 dX10_line_58 rfl (lv_at hl 1 rfl) ?_
          refine yg_X10_10 C Z tw_802 dX10_line_59 ?_
          refine lv_iload C.1.1 C.1.2.1 dX10_line_62 (lv_at hl 0 rfl) ?_
          refine yy_iald C Z (by decide) rfl dX10_line_64 h (fun v6 h => ?_)
          refine lv_goto (tgt := 90) C.1.1 C.1.2.1 dX10_line_65 (by decide) ?_
          exact yy_iret C Z hr hlk rfl dX10_line_90 h
      · refine lv_aload_n C.1.1 C.1.2.1 dX10_line_44 rfl (lv_at hl 1 rfl) ?_
        refine lv_iload_n C.1.1 C.1.2.1 dX10_line_45 rfl (lv_at hl 2 rfl) ?_
        refine lv_iload_n C.1.1 C.1.2.1 dX10_line_46 rfl (lv_at hl 3 rfl) ?_
        refine yy_cVi0 (As := [.int x1, .int x2]) (rest := []) (id := 112) (ci := 10) (q := (RX10, TX10, 20)) C Z (ss_X10_wordsOf l D κ ext x1 x2) (by decide) (yy_ent_112 _) rfl tw_910 kw_X10_wordsOf ⟨⟨rfl, rfl⟩, ⟨Nat.le_of_ble_eq_true rfl, Nat.le_of_ble_eq_true rfl⟩, Nat.le_of_ble_eq_true rfl, Nat.le_of_ble_eq_true rfl⟩ hl.1 rfl (Nat.le_of_ble_eq_true rfl) dX10_line_47 h (fun r7 τ H locs Z h => ?_)
        refine lv_goto (tgt := 90) C.1.1 C.1.2.1 dX10_line_50 (by decide) ?_
        exact yy_iret C Z hr hlk rfl dX10_line_90 h
    · exact ww_X10_line_23 C hr hlk Z (lv_sub hl [0] rfl) h
set_option maxHeartbeats 4000000 in
set_option maxRecDepth 100000 in
theorem ss_X10_line (l : Launch) (D : va_G) (κ : Nat → Nat) (ext : va_W) (x1 : Int32) (x2 : Int32) (x3 : Int32) : yy_Mi l D κ ext yX10_line cX10_line 5 (some .int) rm_X10_line 58 812 [.ref (κ 4 + 112), .int x1, .int x2, .int x3] (mm_X10_line x1 x2 x3) := by
  intro sz τ res h
  refine yy_ofW (by decide) (Nat.le_of_ble_eq_true rfl) ?_
  intro p e s m args below meth c ls hsz E
  obtain ⟨C, hr, hlk, Z, hl⟩ := E
  subst hsz
  exact ww_X10_line_E  C hr hlk Z hl h
/-! MovedLinesModel.block(II)I -/
noncomputable def mm_X10_block (x1 : Int32) (x2 : Int32) : yy_M Int32 :=
  yy_wF 112 0 0 (yy_cl (mm_X10_laysAll ) (fun _ => yy_rF 112 16 fun v1 => yy_cl (mm_X10_isIn x1 0 (v1 - 1)) (fun r2 => yy_br (r2 = 0) (yy_rt ((-1))) (yy_cl (mm_X10_isIn x2 0 2) (fun r3 => yy_br (r3 = 0) (yy_rt ((-1))) (yy_rA 122 42 ((3 * x1) + x2) fun v4 => yy_rt v4))))))
theorem kw_X10_block : yy_wV RX10 yX10_block cX10_block 3 (some .int) 2 := ⟨⟨tw_973, tw_974, tw_61, tw_975⟩, by decide +kernel⟩
abbrev rm_X10_block : Room := { frames := 23, cells := 58, slots := 812, locals := 786 }
set_option maxHeartbeats 4000000 in
set_option maxRecDepth 100000 in
theorem ww_X10_block_E {x1 : Int32} {x2 : Int32} {res : Int32 × yy_T} (C : yy_C D κ p m c cX10_block 3 s args RX10) (hr : meth.sig.returnType = (some .int)) (hlk : meth.locks = false) (Z : yy_Z D κ ext A s.heap τ H locs) (hl : lv_has ls 3 [(0, .ref (κ 4 + 112)), (1, .int x1), (2, .int x2)]) (h : mm_X10_block x1 x2 τ = some res) : W p l e rm_X10_block s m args below meth c H locs 0 0 (MQ below (yy_Qi D κ ext A res) args s 58 812 A) (F0 m 0 ls []) := by
  unfold mm_X10_block at h
  refine lv_aload_n C.1.1 C.1.2.1 dX10_block_0 rfl (lv_at hl 0 rfl) ?_
  refine lv_iconst (v := 0) C.1.1 C.1.2.1 dX10_block_1 (by decide) ?_
  refine yp_X10_0 C Z tw_792 dX10_block_2 h (fun H locs τ Z h => ?_)
  refine lv_aload_n C.1.1 C.1.2.1 dX10_block_5 rfl (lv_at hl 0 rfl) ?_
  refine yy_cVv (As := []) (rest := []) (id := 112) (ci := 10) (q := (RX10, TX10, 20)) C Z (ss_X10_laysAll l D κ ext ) (by decide) (yy_ent_112 _) rfl tw_894 kw_X10_laysAll ⟨⟨rfl, rfl⟩, ⟨Nat.le_of_ble_eq_true rfl, Nat.le_of_ble_eq_true rfl⟩, Nat.le_of_ble_eq_true rfl, Nat.le_of_ble_eq_true rfl⟩ hl.1 rfl (Nat.le_of_ble_eq_true rfl) dX10_block_6 h (fun τ H locs Z h => ?_)
  refine W.widen (k := 58) (n := 812) (Nat.le_refl _) (Nat.le_refl _) ?_
  refine lv_iload_n C.1.1 C.1.2.1 dX10_block_9 rfl (lv_at hl 1 rfl) ?_
  refine lv_iconst (v := 0) C.1.1 C.1.2.1 dX10_block_10 (by decide) ?_
  refine lv_aload_n C.1.1 C.1.2.1 dX10_block_11 rfl (lv_at hl 0 rfl) ?_
  refine yg_X10_16 C Z tw_808 dX10_block_12 h (fun v1 h => ?_)
  refine lv_iconst (v := 1) C.1.1 C.1.2.1 dX10_block_15 (by decide) ?_
  refine lv_isub C.1.1 C.1.2.1 dX10_block_16 ?_
  refine yy_cSi0 (As := [.int x1, .int 0, .int (v1 - 1)]) (rest := [])  C Z (ss_X10_isIn l D κ ext x1 0 (v1 - 1)) tw_860 kw_X10_isIn ⟨⟨rfl, rfl⟩, ⟨Nat.le_of_ble_eq_true rfl, Nat.le_of_ble_eq_true rfl⟩, Nat.le_of_ble_eq_true rfl, Nat.le_of_ble_eq_true rfl⟩ hl.1 rfl (Nat.le_of_ble_eq_true rfl) dX10_block_17 h (fun r2 τ H locs Z h => ?_)
  refine yy_if_eq (tgt := 45) C dX10_block_20 (by decide) h (fun h => ?_) (fun h => ?_)
  · refine lv_iconst (v := (-1)) C.1.1 C.1.2.1 dX10_block_45 (by decide) ?_
    exact yy_iret C Z hr hlk rfl dX10_block_46 h
  · refine lv_iload_n C.1.1 C.1.2.1 dX10_block_23 rfl (lv_at hl 2 rfl) ?_
    refine lv_iconst (v := 0) C.1.1 C.1.2.1 dX10_block_24 (by decide) ?_
    refine lv_iconst (v := 2) C.1.1 C.1.2.1 dX10_block_25 (by decide) ?_
    refine yy_cSi0 (As := [.int x2, .int 0, .int 2]) (rest := [])  C Z (ss_X10_isIn l D κ ext x2 0 2) tw_860 kw_X10_isIn ⟨⟨rfl, rfl⟩, ⟨Nat.le_of_ble_eq_true rfl, Nat.le_of_ble_eq_true rfl⟩, Nat.le_of_ble_eq_true rfl, Nat.le_of_ble_eq_true rfl⟩ hl.1 rfl (Nat.le_of_ble_eq_true rfl) dX10_block_26 h (fun r3 τ H locs Z h => ?_)
    refine yy_if_eq (tgt := 45) C dX10_block_29 (by decide) h (fun h => ?_) (fun h => ?_)
    · refine lv_iconst (v := (-1)) C.1.1 C.1.2.1 dX10_block_45 (by decide) ?_
      exact yy_iret C Z hr hlk rfl dX10_block_46 h
    · refine lv_aload_n C.1.1 C.1.2.1 dX10_block_32 rfl (lv_at hl 0 rfl) ?_
      refine yg_X10_15 C Z tw_807 dX10_block_33 ?_
      refine lv_iconst (v := 3) C.1.1 C.1.2.1 dX10_block_36 (by decide) ?_
      refine lv_iload_n C.1.1 C.1.2.1 dX10_block_37 rfl (lv_at hl 1 rfl) ?_
      refine lv_imul C.1.1 C.1.2.1 dX10_block_38 ?_
      refine lv_iload_n C.1.1 C.1.2.1 dX10_block_39 rfl (lv_at hl 2 rfl) ?_
      refine lv_iadd C.1.1 C.1.2.1 dX10_block_40 ?_
      refine yy_iald C Z (by decide) rfl dX10_block_41 h (fun v4 h => ?_)
      refine lv_goto (tgt := 46) C.1.1 C.1.2.1 dX10_block_42 (by decide) ?_
      exact yy_iret C Z hr hlk rfl dX10_block_46 h
set_option maxHeartbeats 4000000 in
set_option maxRecDepth 100000 in
theorem ss_X10_block (l : Launch) (D : va_G) (κ : Nat → Nat) (ext : va_W) (x1 : Int32) (x2 : Int32) : yy_Mi l D κ ext yX10_block cX10_block 3 (some .int) rm_X10_block 58 812 [.ref (κ 4 + 112), .int x1, .int x2] (mm_X10_block x1 x2) := by
  intro sz τ res h
  refine yy_ofW (by decide) (Nat.le_of_ble_eq_true rfl) ?_
  intro p e s m args below meth c ls hsz E
  obtain ⟨C, hr, hlk, Z, hl⟩ := E
  subst hsz
  exact ww_X10_block_E  C hr hlk Z hl h
/-! MovedLinesModel.changes()I -/
noncomputable def mm_X10_changes_89 (x1 : Int32) (x2 : Int32) (x3 : Int32) : yy_M ((Int32 × Int32) ⊕ ((Int32))) :=
  yy_rt (.inl (x1, (x3 + 1)))
noncomputable def mm_X10_changes_63 (x1 : Int32) (x2 : Int32) (x3 : Int32) (x4 : Int32) : yy_M ((Int32 × Int32) ⊕ ((Int32))) :=
  yy_br (x4 = 2) (yy_br (x2 = 0) (yy_rA 118 28 x3 fun v4 => yy_cl (mm_X10_sharedOf x3 v4) (fun r5 => mm_X10_changes_89 (x1 - (2 * r5)) x2 x3)) (mm_X10_changes_89 x1 x2 x3)) (mm_X10_changes_89 x1 x2 x3)
noncomputable def mm_X10_changes_54 (x1 : Int32) (x2 : Int32) (x3 : Int32) (x4 : Int32) : yy_M ((Int32 × Int32) ⊕ ((Int32))) :=
  yy_cl (mm_X10_wordsOf x2 x3) (fun r3 => mm_X10_changes_63 (x1 + r3) x2 x3 x4)
noncomputable def mm_X10_changes_20b (x1 : Int32) (x2 : Int32) (x3 : Int32) : yy_M ((Int32 × Int32) ⊕ ((Int32))) :=
  yy_cl (mm_X10_many x2) (fun r1 => yy_br (r1 ≤ x3) (yy_rt (.inr x1)) (yy_rA 117 28 ((14 * x2) + x3) fun v2 => yy_br (v2 = 3) (mm_X10_changes_54 x1 x2 x3 v2) (yy_br (v2 = 2) (mm_X10_changes_54 x1 x2 x3 v2) (mm_X10_changes_63 x1 x2 x3 v2))))
noncomputable def mm_X10_changes_95 (x1 : Int32) (x2 : Int32) : yy_M ((Int32 × Int32) ⊕ ((Int32))) :=
  yy_rt (.inl (x1, (x2 + 1)))
noncomputable def mm_X10_changes_20 (x1 : Int32) (x2 : Int32) (x3 : Int32) : yy_M ((Int32 × Int32) ⊕ ((Int32))) :=
  yy_cl (yy_lp (fun (w : Int32 × Int32) => mm_X10_changes_20b w.1 x2 w.2) (x1, x3)) (fun w => mm_X10_changes_95 w x2)
noncomputable def mm_X10_changes_13b (x1 : Int32) (x2 : Int32) : yy_M ((Int32 × Int32) ⊕ ((Int32))) :=
  yy_br (2 ≤ x2) (yy_rt (.inr x1)) (mm_X10_changes_20 x1 x2 0)
noncomputable def mm_X10_changes_101 (x1 : Int32) : yy_M Int32 :=
  yy_rt x1
noncomputable def mm_X10_changes_13 (x1 : Int32) (x2 : Int32) : yy_M Int32 :=
  yy_cl (yy_lp (fun (w : Int32 × Int32) => mm_X10_changes_13b w.1 w.2) (x1, x2)) (fun w => mm_X10_changes_101 w)
noncomputable def mm_X10_changes : yy_M Int32 :=
  yy_wF 112 0 0 (yy_cl (mm_X10_laysAll ) (fun _ => mm_X10_changes_13 0 0))
theorem kw_X10_changes : yy_wV RX10 yX10_changes cX10_changes 5 (some .int) 0 := ⟨⟨tw_993, tw_994, tw_61, tw_995⟩, by decide +kernel⟩
abbrev rm_X10_changes : Room := { frames := 23, cells := 58, slots := 812, locals := 786 }
set_option maxHeartbeats 4000000 in
set_option maxRecDepth 100000 in
theorem ww_X10_changes_89 {x1 : Int32} {x2 : Int32} {x3 : Int32} {res : ((Int32 × Int32) ⊕ ((Int32))) × yy_T} {Q : State → Prop} (C : yy_C D κ p m c cX10_changes 5 s args RX10) (Z : yy_Z D κ ext A s.heap τ H locs) (hl : lv_has ls 5 [(0, .ref (κ 4 + 112)), (1, .int x1), (2, .int x2), (3, .int x3)]) (h : mm_X10_changes_89 x1 x2 x3 τ = some res)
    (kI : ∀ (w : Int32 × Int32) (τ1 : yy_T) (H1 : Heap) (locs1 : List Loc) (ls1 : Array Slot), res = (.inl w, τ1) → yy_Z D κ ext A s.heap τ1 H1 locs1 → lv_has ls1 5 [(0, .ref (κ 4 + 112)), (1, .int w.1), (2, .int x2), (3, .int w.2)] → W p l e rm_X10_changes s m args below meth c H1 locs1 58 812 Q (F0 m 20 ls1 [])) : W p l e rm_X10_changes s m args below meth c H locs 58 812 Q (F0 m 89 ls []) := by
  unfold mm_X10_changes_89 at h
  refine lv_iinc (v := x3 + 1) (lv' := [(3, .int (x3 + 1)), (0, .ref (κ 4 + 112)), (1, .int x1), (2, .int x2)]) C.1.1 C.1.2.1 dX10_changes_89 hl (k := 3) rfl (by rfl) (by decide) rfl (fun ls hl => ?_)
  refine lv_goto (tgt := 20) C.1.1 C.1.2.1 dX10_changes_92 (by decide) ?_
  exact kI _ _ _ _ _ (yy_rt_of h) Z (lv_sub hl [1, 2, 3, 0] rfl)
set_option maxHeartbeats 4000000 in
set_option maxRecDepth 100000 in
theorem ww_X10_changes_63 {x1 : Int32} {x2 : Int32} {x3 : Int32} {x4 : Int32} {res : ((Int32 × Int32) ⊕ ((Int32))) × yy_T} {Q : State → Prop} (C : yy_C D κ p m c cX10_changes 5 s args RX10) (Z : yy_Z D κ ext A s.heap τ H locs) (hl : lv_has ls 5 [(0, .ref (κ 4 + 112)), (1, .int x1), (2, .int x2), (3, .int x3), (4, .int x4)]) (h : mm_X10_changes_63 x1 x2 x3 x4 τ = some res)
    (kI : ∀ (w : Int32 × Int32) (τ1 : yy_T) (H1 : Heap) (locs1 : List Loc) (ls1 : Array Slot), res = (.inl w, τ1) → yy_Z D κ ext A s.heap τ1 H1 locs1 → lv_has ls1 5 [(0, .ref (κ 4 + 112)), (1, .int w.1), (2, .int x2), (3, .int w.2)] → W p l e rm_X10_changes s m args below meth c H1 locs1 58 812 Q (F0 m 20 ls1 [])) : W p l e rm_X10_changes s m args below meth c H locs 58 812 Q (F0 m 63 ls []) := by
  unfold mm_X10_changes_63 at h
  refine lv_iload C.1.1 C.1.2.1 dX10_changes_63 (lv_at hl 4 rfl) ?_
  refine lv_iconst (v := 2) C.1.1 C.1.2.1 dX10_changes_65 (by decide) ?_
  refine yy_icmp_ne (tgt := 89) C dX10_changes_66 (by decide) h (fun h => ?_) (fun h => ?_)
  · exact ww_X10_changes_89 C Z (lv_sub hl [0, 1, 2, 3] rfl) h kI
  · refine lv_iload_n C.1.1 C.1.2.1 dX10_changes_69 rfl (lv_at hl 2 rfl) ?_
    refine yy_if_ne (tgt := 89) C dX10_changes_70 (by decide) h (fun h => ?_) (fun h => ?_)
    · exact ww_X10_changes_89 C Z (lv_sub hl [0, 1, 2, 3] rfl) h kI
    · refine lv_iload_n C.1.1 C.1.2.1 dX10_changes_73 rfl (lv_at hl 1 rfl) ?_
      refine lv_iconst (v := 2) C.1.1 C.1.2.1 dX10_changes_74 (by decide) ?_
      refine lv_aload_n C.1.1 C.1.2.1 dX10_changes_75 rfl (lv_at hl 0 rfl) ?_
      refine lv_iload_n C.1.1 C.1.2.1 dX10_changes_76 rfl (lv_at hl 3 rfl) ?_
      refine lv_aload_n C.1.1 C.1.2.1 dX10_changes_77 rfl (lv_at hl 0 rfl) ?_
      refine yg_X10_11 C Z tw_803 dX10_changes_78 ?_
      refine lv_iload_n C.1.1 C.1.2.1 dX10_changes_81 rfl (lv_at hl 3 rfl) ?_
      refine yy_iald C Z (by decide) rfl dX10_changes_82 h (fun v4 h => ?_)
      refine yy_cVi0 (As := [.int x3, .int v4]) (rest := [.int 2, .int x1]) (id := 112) (ci := 10) (q := (RX10, TX10, 20)) C Z (ss_X10_sharedOf l D κ ext x3 v4) (by decide) (yy_ent_112 _) rfl tw_945 kw_X10_sharedOf ⟨⟨rfl, rfl⟩, ⟨Nat.le_of_ble_eq_true rfl, Nat.le_of_ble_eq_true rfl⟩, Nat.le_of_ble_eq_true rfl, Nat.le_of_ble_eq_true rfl⟩ hl.1 rfl (Nat.le_of_ble_eq_true rfl) dX10_changes_83 h (fun r5 τ H locs Z h => ?_)
      refine lv_imul C.1.1 C.1.2.1 dX10_changes_86 ?_
      refine lv_isub C.1.1 C.1.2.1 dX10_changes_87 ?_
      refine lv_istore_n (lv' := [(1, .int (x1 - (2 * r5))), (0, .ref (κ 4 + 112)), (2, .int x2), (3, .int x3), (4, .int x4)]) C.1.1 C.1.2.1 dX10_changes_88 rfl hl (by decide) rfl (fun ls hl => ?_)
      exact ww_X10_changes_89 C Z (lv_sub hl [1, 0, 2, 3] rfl) h kI
set_option maxHeartbeats 4000000 in
set_option maxRecDepth 100000 in
theorem ww_X10_changes_54 {x1 : Int32} {x2 : Int32} {x3 : Int32} {x4 : Int32} {res : ((Int32 × Int32) ⊕ ((Int32))) × yy_T} {Q : State → Prop} (C : yy_C D κ p m c cX10_changes 5 s args RX10) (Z : yy_Z D κ ext A s.heap τ H locs) (hl : lv_has ls 5 [(0, .ref (κ 4 + 112)), (1, .int x1), (2, .int x2), (3, .int x3), (4, .int x4)]) (h : mm_X10_changes_54 x1 x2 x3 x4 τ = some res)
    (kI : ∀ (w : Int32 × Int32) (τ1 : yy_T) (H1 : Heap) (locs1 : List Loc) (ls1 : Array Slot), res = (.inl w, τ1) → yy_Z D κ ext A s.heap τ1 H1 locs1 → lv_has ls1 5 [(0, .ref (κ 4 + 112)), (1, .int w.1), (2, .int x2), (3, .int w.2)] → W p l e rm_X10_changes s m args below meth c H1 locs1 58 812 Q (F0 m 20 ls1 [])) : W p l e rm_X10_changes s m args below meth c H locs 58 812 Q (F0 m 54 ls []) := by
  unfold mm_X10_changes_54 at h
  refine lv_iload_n C.1.1 C.1.2.1 dX10_changes_54 rfl (lv_at hl 1 rfl) ?_
  refine lv_aload_n C.1.1 C.1.2.1 dX10_changes_55 rfl (lv_at hl 0 rfl) ?_
  refine lv_iload_n C.1.1 C.1.2.1 dX10_changes_56 rfl (lv_at hl 2 rfl) ?_
  refine lv_iload_n C.1.1 C.1.2.1 dX10_changes_57 rfl (lv_at hl 3 rfl) ?_
  refine yy_cVi0 (As := [.int x2, .int x3]) (rest := [.int x1]) (id := 112) (ci := 10) (q := (RX10, TX10, 20)) C Z (ss_X10_wordsOf l D κ ext x2 x3) (by decide) (yy_ent_112 _) rfl tw_910 kw_X10_wordsOf ⟨⟨rfl, rfl⟩, ⟨Nat.le_of_ble_eq_true rfl, Nat.le_of_ble_eq_true rfl⟩, Nat.le_of_ble_eq_true rfl, Nat.le_of_ble_eq_true rfl⟩ hl.1 rfl (Nat.le_of_ble_eq_true rfl) dX10_changes_58 h (fun r3 τ H locs Z h => ?_)
  refine lv_iadd C.1.1 C.1.2.1 dX10_changes_61 ?_
  refine lv_istore_n (lv' := [(1, .int (x1 + r3)), (0, .ref (κ 4 + 112)), (2, .int x2), (3, .int x3), (4, .int x4)]) C.1.1 C.1.2.1 dX10_changes_62 rfl hl (by decide) rfl (fun ls hl => ?_)
  exact ww_X10_changes_63 C Z (lv_sub hl [1, 0, 2, 3, 4] rfl) h kI
set_option maxHeartbeats 4000000 in
set_option maxRecDepth 100000 in
theorem ww_X10_changes_20b {x1 : Int32} {x2 : Int32} {x3 : Int32} {res : ((Int32 × Int32) ⊕ ((Int32))) × yy_T} {Q : State → Prop} (C : yy_C D κ p m c cX10_changes 5 s args RX10) (Z : yy_Z D κ ext A s.heap τ H locs) (hl : lv_has ls 5 [(0, .ref (κ 4 + 112)), (1, .int x1), (2, .int x2), (3, .int x3)]) (h : mm_X10_changes_20b x1 x2 x3 τ = some res)
    (kI : ∀ (w : Int32 × Int32) (τ1 : yy_T) (H1 : Heap) (locs1 : List Loc) (ls1 : Array Slot), res = (.inl w, τ1) → yy_Z D κ ext A s.heap τ1 H1 locs1 → lv_has ls1 5 [(0, .ref (κ 4 + 112)), (1, .int w.1), (2, .int x2), (3, .int w.2)] → W p l e rm_X10_changes s m args below meth c H1 locs1 58 812 Q (F0 m 20 ls1 []))
    (kR0 : ∀ (w : Int32) (τ1 : yy_T) (H1 : Heap) (locs1 : List Loc) (ls1 : Array Slot), res = (.inr w, τ1) → yy_Z D κ ext A s.heap τ1 H1 locs1 → lv_has ls1 5 [(0, .ref (κ 4 + 112)), (1, .int w), (2, .int x2)] → W p l e rm_X10_changes s m args below meth c H1 locs1 58 812 Q (F0 m 95 ls1 [])) : W p l e rm_X10_changes s m args below meth c H locs 58 812 Q (F0 m 20 ls []) := by
  unfold mm_X10_changes_20b at h
  refine lv_iload_n C.1.1 C.1.2.1 dX10_changes_20 rfl (lv_at hl 3 rfl) ?_
  refine lv_aload_n C.1.1 C.1.2.1 dX10_changes_21 rfl (lv_at hl 0 rfl) ?_
  refine lv_iload_n C.1.1 C.1.2.1 dX10_changes_22 rfl (lv_at hl 2 rfl) ?_
  refine yy_cVi0 (As := [.int x2]) (rest := [.int x3]) (id := 112) (ci := 10) (q := (RX10, TX10, 20)) C Z (ss_X10_many l D κ ext x2) (by decide) (yy_ent_112 _) rfl tw_882 kw_X10_many ⟨⟨rfl, rfl⟩, ⟨Nat.le_of_ble_eq_true rfl, Nat.le_of_ble_eq_true rfl⟩, Nat.le_of_ble_eq_true rfl, Nat.le_of_ble_eq_true rfl⟩ hl.1 rfl (Nat.le_of_ble_eq_true rfl) dX10_changes_23 h (fun r1 τ H locs Z h => ?_)
  refine yy_icmp_ge (tgt := 95) C dX10_changes_26 (by decide) h (fun h => ?_) (fun h => ?_)
  · exact kR0 _ _ _ _ _ (yy_rt_of h) Z (lv_sub hl [0, 1, 2] rfl)
  · refine lv_aload_n C.1.1 C.1.2.1 dX10_changes_29 rfl (lv_at hl 0 rfl) ?_
    refine yg_X10_10 C Z tw_802 dX10_changes_30 ?_
    refine lv_bipush (v := 14) C.1.1 C.1.2.1 dX10_changes_33 (by decide) ?_
    refine lv_iload_n C.1.1 C.1.2.1 dX10_changes_35 rfl (lv_at hl 2 rfl) ?_
    refine lv_imul C.1.1 C.1.2.1 dX10_changes_36 ?_
    refine lv_iload_n C.1.1 C.1.2.1 dX10_changes_37 rfl (lv_at hl 3 rfl) ?_
    refine lv_iadd C.1.1 C.1.2.1 dX10_changes_38 ?_
    refine yy_iald C Z (by decide) rfl dX10_changes_39 h (fun v2 h => ?_)
    refine lv_istore (lv' := [(4, .int v2), (0, .ref (κ 4 + 112)), (1, .int x1), (2, .int x2), (3, .int x3)]) C.1.1 C.1.2.1 dX10_changes_40 hl (by decide) rfl (fun ls hl => ?_)
    refine lv_iload C.1.1 C.1.2.1 dX10_changes_42 (lv_at hl 0 rfl) ?_
    refine lv_iconst (v := 3) C.1.1 C.1.2.1 dX10_changes_44 (by decide) ?_
    refine yy_icmp_eq (tgt := 54) C dX10_changes_45 (by decide) h (fun h => ?_) (fun h => ?_)
    · exact ww_X10_changes_54 C Z (lv_sub hl [1, 2, 3, 4, 0] rfl) h kI
    · refine lv_iload C.1.1 C.1.2.1 dX10_changes_48 (lv_at hl 0 rfl) ?_
      refine lv_iconst (v := 2) C.1.1 C.1.2.1 dX10_changes_50 (by decide) ?_
      refine yy_icmp_ne (tgt := 63) C dX10_changes_51 (by decide) h (fun h => ?_) (fun h => ?_)
      · exact ww_X10_changes_63 C Z (lv_sub hl [1, 2, 3, 4, 0] rfl) h kI
      · exact ww_X10_changes_54 C Z (lv_sub hl [1, 2, 3, 4, 0] rfl) h kI
set_option maxHeartbeats 4000000 in
set_option maxRecDepth 100000 in
theorem ww_X10_changes_95 {x1 : Int32} {x2 : Int32} {res : ((Int32 × Int32) ⊕ ((Int32))) × yy_T} {Q : State → Prop} (C : yy_C D κ p m c cX10_changes 5 s args RX10) (Z : yy_Z D κ ext A s.heap τ H locs) (hl : lv_has ls 5 [(0, .ref (κ 4 + 112)), (1, .int x1), (2, .int x2)]) (h : mm_X10_changes_95 x1 x2 τ = some res)
    (kI : ∀ (w : Int32 × Int32) (τ1 : yy_T) (H1 : Heap) (locs1 : List Loc) (ls1 : Array Slot), res = (.inl w, τ1) → yy_Z D κ ext A s.heap τ1 H1 locs1 → lv_has ls1 5 [(0, .ref (κ 4 + 112)), (1, .int w.1), (2, .int w.2)] → W p l e rm_X10_changes s m args below meth c H1 locs1 58 812 Q (F0 m 13 ls1 [])) : W p l e rm_X10_changes s m args below meth c H locs 58 812 Q (F0 m 95 ls []) := by
  unfold mm_X10_changes_95 at h
  refine lv_iinc (v := x2 + 1) (lv' := [(2, .int (x2 + 1)), (0, .ref (κ 4 + 112)), (1, .int x1)]) C.1.1 C.1.2.1 dX10_changes_95 hl (k := 2) rfl (by rfl) (by decide) rfl (fun ls hl => ?_)
  refine lv_goto (tgt := 13) C.1.1 C.1.2.1 dX10_changes_98 (by decide) ?_
  exact kI _ _ _ _ _ (yy_rt_of h) Z (lv_sub hl [1, 2, 0] rfl)
set_option maxHeartbeats 4000000 in
set_option maxRecDepth 100000 in
theorem ww_X10_changes_20 {x1 : Int32} {x2 : Int32} {x3 : Int32} {res : ((Int32 × Int32) ⊕ ((Int32))) × yy_T} {Q : State → Prop} (C : yy_C D κ p m c cX10_changes 5 s args RX10) (Z : yy_Z D κ ext A s.heap τ H locs) (hl : lv_has ls 5 [(0, .ref (κ 4 + 112)), (1, .int x1), (2, .int x2), (3, .int x3)]) (h : mm_X10_changes_20 x1 x2 x3 τ = some res)
    (kI : ∀ (w : Int32 × Int32) (τ1 : yy_T) (H1 : Heap) (locs1 : List Loc) (ls1 : Array Slot), res = (.inl w, τ1) → yy_Z D κ ext A s.heap τ1 H1 locs1 → lv_has ls1 5 [(0, .ref (κ 4 + 112)), (1, .int w.1), (2, .int w.2)] → W p l e rm_X10_changes s m args below meth c H1 locs1 58 812 Q (F0 m 13 ls1 [])) : W p l e rm_X10_changes s m args below meth c H locs 58 812 Q (F0 m 20 ls []) := by
  unfold mm_X10_changes_20 at h
  refine yy_loop h (fun (w : Int32 × Int32) (τ : yy_T) => ∀ (H : Heap) (locs : List Loc) (ls : Array Slot), yy_Z D κ ext A s.heap τ H locs → lv_has ls 5 [(0, .ref (κ 4 + 112)), (1, .int w.1), (2, .int x2), (3, .int w.2)] → W p l e rm_X10_changes s m args below meth c H locs 58 812 Q (F0 m 20 ls [])) ?_ H locs ls Z hl
  intro w τ y hy hI hX H locs ls Z hl
  refine ww_X10_changes_20b C Z hl hy (fun w τ H locs ls ey Z hl => hI w τ ey H locs ls Z hl) (fun w τ H locs ls ey Z hl => ?_)
  · have h := hX _ _ ey
    exact ww_X10_changes_95 C Z (lv_sub hl [0, 1, 2] rfl) h kI
set_option maxHeartbeats 4000000 in
set_option maxRecDepth 100000 in
theorem ww_X10_changes_13b {x1 : Int32} {x2 : Int32} {res : ((Int32 × Int32) ⊕ ((Int32))) × yy_T} {Q : State → Prop} (C : yy_C D κ p m c cX10_changes 5 s args RX10) (Z : yy_Z D κ ext A s.heap τ H locs) (hl : lv_has ls 5 [(0, .ref (κ 4 + 112)), (1, .int x1), (2, .int x2)]) (h : mm_X10_changes_13b x1 x2 τ = some res)
    (kI : ∀ (w : Int32 × Int32) (τ1 : yy_T) (H1 : Heap) (locs1 : List Loc) (ls1 : Array Slot), res = (.inl w, τ1) → yy_Z D κ ext A s.heap τ1 H1 locs1 → lv_has ls1 5 [(0, .ref (κ 4 + 112)), (1, .int w.1), (2, .int w.2)] → W p l e rm_X10_changes s m args below meth c H1 locs1 58 812 Q (F0 m 13 ls1 []))
    (kR0 : ∀ (w : Int32) (τ1 : yy_T) (H1 : Heap) (locs1 : List Loc) (ls1 : Array Slot), res = (.inr w, τ1) → yy_Z D κ ext A s.heap τ1 H1 locs1 → lv_has ls1 5 [(1, .int w)] → W p l e rm_X10_changes s m args below meth c H1 locs1 58 812 Q (F0 m 101 ls1 [])) : W p l e rm_X10_changes s m args below meth c H locs 58 812 Q (F0 m 13 ls []) := by
  unfold mm_X10_changes_13b at h
  refine lv_iload_n C.1.1 C.1.2.1 dX10_changes_13 rfl (lv_at hl 2 rfl) ?_
  refine lv_iconst (v := 2) C.1.1 C.1.2.1 dX10_changes_14 (by decide) ?_
  refine yy_icmp_ge (tgt := 101) C dX10_changes_15 (by decide) h (fun h => ?_) (fun h => ?_)
  · exact kR0 _ _ _ _ _ (yy_rt_of h) Z (lv_sub hl [1] rfl)
  · refine lv_iconst (v := 0) C.1.1 C.1.2.1 dX10_changes_18 (by decide) ?_
    refine lv_istore_n (lv' := [(3, .int 0), (0, .ref (κ 4 + 112)), (1, .int x1), (2, .int x2)]) C.1.1 C.1.2.1 dX10_changes_19 rfl hl (by decide) rfl (fun ls hl => ?_)
    exact ww_X10_changes_20 C Z (lv_sub hl [1, 2, 3, 0] rfl) h kI
set_option maxHeartbeats 4000000 in
set_option maxRecDepth 100000 in
theorem ww_X10_changes_101 {x1 : Int32} {res : Int32 × yy_T} (C : yy_C D κ p m c cX10_changes 5 s args RX10) (hr : meth.sig.returnType = (some .int)) (hlk : meth.locks = false) (Z : yy_Z D κ ext A s.heap τ H locs) (hl : lv_has ls 5 [(1, .int x1)]) (h : mm_X10_changes_101 x1 τ = some res) : W p l e rm_X10_changes s m args below meth c H locs 58 812 (MQ below (yy_Qi D κ ext A res) args s 58 812 A) (F0 m 101 ls []) := by
  unfold mm_X10_changes_101 at h
  refine lv_iload_n C.1.1 C.1.2.1 dX10_changes_101 rfl (lv_at hl 0 rfl) ?_
  exact yy_iret C Z hr hlk rfl dX10_changes_102 h
set_option maxHeartbeats 4000000 in
set_option maxRecDepth 100000 in
theorem ww_X10_changes_13 {x1 : Int32} {x2 : Int32} {res : Int32 × yy_T} (C : yy_C D κ p m c cX10_changes 5 s args RX10) (hr : meth.sig.returnType = (some .int)) (hlk : meth.locks = false) (Z : yy_Z D κ ext A s.heap τ H locs) (hl : lv_has ls 5 [(0, .ref (κ 4 + 112)), (1, .int x1), (2, .int x2)]) (h : mm_X10_changes_13 x1 x2 τ = some res) : W p l e rm_X10_changes s m args below meth c H locs 58 812 (MQ below (yy_Qi D κ ext A res) args s 58 812 A) (F0 m 13 ls []) := by
  unfold mm_X10_changes_13 at h
  refine yy_loop h (fun (w : Int32 × Int32) (τ : yy_T) => ∀ (H : Heap) (locs : List Loc) (ls : Array Slot), yy_Z D κ ext A s.heap τ H locs → lv_has ls 5 [(0, .ref (κ 4 + 112)), (1, .int w.1), (2, .int w.2)] → W p l e rm_X10_changes s m args below meth c H locs 58 812 (MQ below (yy_Qi D κ ext A res) args s 58 812 A) (F0 m 13 ls [])) ?_ H locs ls Z hl
  intro w τ y hy hI hX H locs ls Z hl
  refine ww_X10_changes_13b C Z hl hy (fun w τ H locs ls ey Z hl => hI w τ ey H locs ls Z hl) (fun w τ H locs ls ey Z hl => ?_)
  · have h := hX _ _ ey
    exact ww_X10_changes_101 C hr hlk Z (lv_sub hl [0] rfl) h
set_option maxHeartbeats 4000000 in
set_option maxRecDepth 100000 in
theorem ww_X10_changes_E {res : Int32 × yy_T} (C : yy_C D κ p m c cX10_changes 5 s args RX10) (hr : meth.sig.returnType = (some .int)) (hlk : meth.locks = false) (Z : yy_Z D κ ext A s.heap τ H locs) (hl : lv_has ls 5 [(0, .ref (κ 4 + 112))]) (h : mm_X10_changes  τ = some res) : W p l e rm_X10_changes s m args below meth c H locs 0 0 (MQ below (yy_Qi D κ ext A res) args s 58 812 A) (F0 m 0 ls []) := by
  unfold mm_X10_changes at h
  refine lv_aload_n C.1.1 C.1.2.1 dX10_changes_0 rfl (lv_at hl 0 rfl) ?_
  refine lv_iconst (v := 0) C.1.1 C.1.2.1 dX10_changes_1 (by decide) ?_
  refine yp_X10_0 C Z tw_792 dX10_changes_2 h (fun H locs τ Z h => ?_)
  refine lv_aload_n C.1.1 C.1.2.1 dX10_changes_5 rfl (lv_at hl 0 rfl) ?_
  refine yy_cVv (As := []) (rest := []) (id := 112) (ci := 10) (q := (RX10, TX10, 20)) C Z (ss_X10_laysAll l D κ ext ) (by decide) (yy_ent_112 _) rfl tw_894 kw_X10_laysAll ⟨⟨rfl, rfl⟩, ⟨Nat.le_of_ble_eq_true rfl, Nat.le_of_ble_eq_true rfl⟩, Nat.le_of_ble_eq_true rfl, Nat.le_of_ble_eq_true rfl⟩ hl.1 rfl (Nat.le_of_ble_eq_true rfl) dX10_changes_6 h (fun τ H locs Z h => ?_)
  refine W.widen (k := 58) (n := 812) (Nat.le_refl _) (Nat.le_refl _) ?_
  refine lv_iconst (v := 0) C.1.1 C.1.2.1 dX10_changes_9 (by decide) ?_
  refine lv_istore_n (lv' := [(1, .int 0), (0, .ref (κ 4 + 112))]) C.1.1 C.1.2.1 dX10_changes_10 rfl hl (by decide) rfl (fun ls hl => ?_)
  refine lv_iconst (v := 0) C.1.1 C.1.2.1 dX10_changes_11 (by decide) ?_
  refine lv_istore_n (lv' := [(2, .int 0), (1, .int 0), (0, .ref (κ 4 + 112))]) C.1.1 C.1.2.1 dX10_changes_12 rfl hl (by decide) rfl (fun ls hl => ?_)
  exact ww_X10_changes_13 C hr hlk Z (lv_sub hl [2, 1, 0] rfl) h
set_option maxHeartbeats 4000000 in
set_option maxRecDepth 100000 in
theorem ss_X10_changes (l : Launch) (D : va_G) (κ : Nat → Nat) (ext : va_W) : yy_Mi l D κ ext yX10_changes cX10_changes 5 (some .int) rm_X10_changes 58 812 [.ref (κ 4 + 112)] (mm_X10_changes ) := by
  intro sz τ res h
  refine yy_ofW (by decide) (Nat.le_of_ble_eq_true rfl) ?_
  intro p e s m args below meth c ls hsz E
  obtain ⟨C, hr, hlk, Z, hl⟩ := E
  subst hsz
  exact ww_X10_changes_E  C hr hlk Z hl h
/-! MovedLinesModel.anchors(I)I -/
noncomputable def mm_X10_anchors (x1 : Int32) : yy_M Int32 :=
  yy_wF 112 0 0 (yy_cl (mm_X10_laysAll ) (fun _ => yy_br (x1 = 0) (yy_rF 112 17 fun v2 => yy_rt v2) (yy_br (x1 = 1) (yy_rF 112 18 fun v1 => yy_rt v1) (yy_rt ((-1))))))
theorem kw_X10_anchors : yy_wV RX10 yX10_anchors cX10_anchors 2 (some .int) 1 := ⟨⟨tw_997, tw_998, tw_61, tw_999⟩, by decide +kernel⟩
abbrev rm_X10_anchors : Room := { frames := 23, cells := 58, slots := 812, locals := 786 }
set_option maxHeartbeats 4000000 in
set_option maxRecDepth 100000 in
theorem ww_X10_anchors_E {x1 : Int32} {res : Int32 × yy_T} (C : yy_C D κ p m c cX10_anchors 2 s args RX10) (hr : meth.sig.returnType = (some .int)) (hlk : meth.locks = false) (Z : yy_Z D κ ext A s.heap τ H locs) (hl : lv_has ls 2 [(0, .ref (κ 4 + 112)), (1, .int x1)]) (h : mm_X10_anchors x1 τ = some res) : W p l e rm_X10_anchors s m args below meth c H locs 0 0 (MQ below (yy_Qi D κ ext A res) args s 58 812 A) (F0 m 0 ls []) := by
  unfold mm_X10_anchors at h
  refine lv_aload_n C.1.1 C.1.2.1 dX10_anchors_0 rfl (lv_at hl 0 rfl) ?_
  refine lv_iconst (v := 0) C.1.1 C.1.2.1 dX10_anchors_1 (by decide) ?_
  refine yp_X10_0 C Z tw_792 dX10_anchors_2 h (fun H locs τ Z h => ?_)
  refine lv_aload_n C.1.1 C.1.2.1 dX10_anchors_5 rfl (lv_at hl 0 rfl) ?_
  refine yy_cVv (As := []) (rest := []) (id := 112) (ci := 10) (q := (RX10, TX10, 20)) C Z (ss_X10_laysAll l D κ ext ) (by decide) (yy_ent_112 _) rfl tw_894 kw_X10_laysAll ⟨⟨rfl, rfl⟩, ⟨Nat.le_of_ble_eq_true rfl, Nat.le_of_ble_eq_true rfl⟩, Nat.le_of_ble_eq_true rfl, Nat.le_of_ble_eq_true rfl⟩ hl.1 rfl (Nat.le_of_ble_eq_true rfl) dX10_anchors_6 h (fun τ H locs Z h => ?_)
  refine W.widen (k := 58) (n := 812) (Nat.le_refl _) (Nat.le_refl _) ?_
  refine lv_iload_n C.1.1 C.1.2.1 dX10_anchors_9 rfl (lv_at hl 1 rfl) ?_
  refine yy_if_ne (tgt := 20) C dX10_anchors_10 (by decide) h (fun h => ?_) (fun h => ?_)
  · refine lv_iload_n C.1.1 C.1.2.1 dX10_anchors_20 rfl (lv_at hl 1 rfl) ?_
    refine lv_iconst (v := 1) C.1.1 C.1.2.1 dX10_anchors_21 (by decide) ?_
    refine yy_icmp_ne (tgt := 32) C dX10_anchors_22 (by decide) h (fun h => ?_) (fun h => ?_)
    · refine lv_iconst (v := (-1)) C.1.1 C.1.2.1 dX10_anchors_32 (by decide) ?_
      exact yy_iret C Z hr hlk rfl dX10_anchors_33 h
    · refine lv_aload_n C.1.1 C.1.2.1 dX10_anchors_25 rfl (lv_at hl 0 rfl) ?_
      refine yg_X10_18 C Z tw_810 dX10_anchors_26 h (fun v1 h => ?_)
      refine lv_goto (tgt := 33) C.1.1 C.1.2.1 dX10_anchors_29 (by decide) ?_
      exact yy_iret C Z hr hlk rfl dX10_anchors_33 h
  · refine lv_aload_n C.1.1 C.1.2.1 dX10_anchors_13 rfl (lv_at hl 0 rfl) ?_
    refine yg_X10_17 C Z tw_809 dX10_anchors_14 h (fun v2 h => ?_)
    refine lv_goto (tgt := 33) C.1.1 C.1.2.1 dX10_anchors_17 (by decide) ?_
    exact yy_iret C Z hr hlk rfl dX10_anchors_33 h
set_option maxHeartbeats 4000000 in
set_option maxRecDepth 100000 in
theorem ss_X10_anchors (l : Launch) (D : va_G) (κ : Nat → Nat) (ext : va_W) (x1 : Int32) : yy_Mi l D κ ext yX10_anchors cX10_anchors 2 (some .int) rm_X10_anchors 58 812 [.ref (κ 4 + 112), .int x1] (mm_X10_anchors x1) := by
  intro sz τ res h
  refine yy_ofW (by decide) (Nat.le_of_ble_eq_true rfl) ?_
  intro p e s m args below meth c ls hsz E
  obtain ⟨C, hr, hlk, Z, hl⟩ := E
  subst hsz
  exact ww_X10_anchors_E  C hr hlk Z hl h
/-! MovedLinesModel.would(III)I -/
noncomputable def mm_X10_would_40b (x1 : Int32) (x2 : Int32) (x3 : Int32) (x5 : Int32) (g4 : (Nat → Int32)) : yy_M ((Int32) ⊕ ((Unit))) :=
  yy_br (28 ≤ x5) (yy_rt (.inr ())) (yy_rA 117 28 x5 fun v3 => yy_wA 120 28 x5 v3 (yy_rA 118 28 x5 fun v4 => yy_wA 121 28 x5 v4 (yy_rt (.inl (x5 + 1)))))
noncomputable def mm_X10_would_84b (x1 : Int32) (x2 : Int32) (x3 : Int32) (x5 : Int32) (g4 : (Nat → Int32)) : yy_M ((Int32 × (Nat → Int32)) ⊕ (((Nat → Int32)))) :=
  yy_br (9 ≤ x5) (yy_rt (.inr g4)) (yy_cl (mm_X10_lineAt x1 x2) (fun r5 => yy_rA 114 254 (r5 + x5) fun v6 => yy_wL g4 9 x5 v6 fun g7 => yy_rt (.inl ((x5 + 1), g7))))
noncomputable def mm_X10_would_138b (x1 : Int32) (x2 : Int32) (x5 : Int32) (g4 : (Nat → Int32)) : yy_M ((Int32) ⊕ ((Unit))) :=
  yy_br (9 ≤ x5) (yy_rt (.inr ())) (yy_cl (mm_X10_lineAt x1 x2) (fun r10 => yy_rL g4 9 x5 fun v11 => yy_wA 114 254 (r10 + x5) v11 (yy_rt (.inl (x5 + 1)))))
noncomputable def mm_X10_would_219 (x5 : Int32) (x6 : Int32) : yy_M ((Int32 × Int32) ⊕ ((Int32))) :=
  yy_rt (.inl (x5, (x6 + 1)))
noncomputable def mm_X10_would_216 (x5 : Int32) (x6 : Int32) : yy_M ((Int32 × Int32) ⊕ ((Int32))) :=
  mm_X10_would_219 (x5 + 1) x6
noncomputable def mm_X10_would_175b (x5 : Int32) (x6 : Int32) : yy_M ((Int32 × Int32) ⊕ ((Int32))) :=
  yy_br (28 ≤ x6) (yy_rt (.inr x5)) (yy_rA 120 28 x6 fun v12 => yy_rA 117 28 x6 fun v13 => yy_br (v12 = v13) (yy_rA 121 28 x6 fun v14 => yy_rA 118 28 x6 fun v15 => yy_br (v14 = v15) (mm_X10_would_219 x5 x6) (mm_X10_would_216 x5 x6)) (mm_X10_would_216 x5 x6))
noncomputable def mm_X10_would_225 (x5 : Int32) : yy_M Int32 :=
  yy_rt x5
noncomputable def mm_X10_would_175 (x5 : Int32) (x6 : Int32) : yy_M Int32 :=
  yy_cl (yy_lp (fun (w : Int32 × Int32) => mm_X10_would_175b w.1 w.2) (x5, x6)) (fun w => mm_X10_would_225 w)
noncomputable def mm_X10_would_169 : yy_M Int32 :=
  mm_X10_would_175 0 0
noncomputable def mm_X10_would_138 (x1 : Int32) (x2 : Int32) (x5 : Int32) (g4 : (Nat → Int32)) : yy_M Int32 :=
  yy_cl (yy_lp (fun (w : Int32) => mm_X10_would_138b x1 x2 w g4) x5) (fun w => mm_X10_would_169 )
noncomputable def mm_X10_would_115 (x1 : Int32) (x2 : Int32) (x3 : Int32) (g4 : (Nat → Int32)) : yy_M Int32 :=
  yy_cl (mm_X10_lineAt x1 x2) (fun r8 => yy_cl (mm_X10_lineAt (1 - x1) x3) (fun r9 => yy_cl (mm_X10_copiesLine r8 r9) (fun _ => yy_cl (mm_X10_laysAll ) (fun _ => mm_X10_would_138 x1 x2 0 g4))))
noncomputable def mm_X10_would_84 (x1 : Int32) (x2 : Int32) (x3 : Int32) (x5 : Int32) (g4 : (Nat → Int32)) : yy_M Int32 :=
  yy_cl (yy_lp (fun (w : Int32 × (Nat → Int32)) => mm_X10_would_84b x1 x2 x3 w.1 w.2) (x5, g4)) (fun w => mm_X10_would_115 x1 x2 x3 w)
noncomputable def mm_X10_would_81 (x1 : Int32) (x2 : Int32) (x3 : Int32) (g4 : (Nat → Int32)) : yy_M Int32 :=
  mm_X10_would_84 x1 x2 x3 0 g4
noncomputable def mm_X10_would_40 (x1 : Int32) (x2 : Int32) (x3 : Int32) (x5 : Int32) (g4 : (Nat → Int32)) : yy_M Int32 :=
  yy_cl (yy_lp (fun (w : Int32) => mm_X10_would_40b x1 x2 x3 w g4) x5) (fun w => mm_X10_would_81 x1 x2 x3 g4)
noncomputable def mm_X10_would (x1 : Int32) (x2 : Int32) (x3 : Int32) : yy_M Int32 :=
  yy_wF 112 0 0 (yy_cl (mm_X10_isLine x1 x2) (fun r1 => yy_br (r1 = 0) (yy_rt ((-1))) (yy_cl (mm_X10_isLine (1 - x1) x3) (fun r2 => yy_br (r2 = 0) (yy_rt ((-1))) (yy_cl (mm_X10_laysAll ) (fun _ => mm_X10_would_40 x1 x2 x3 0 ((fun _ => 0))))))))
theorem kw_X10_would : yy_wV RX10 yX10_would cX10_would 7 (some .int) 3 := ⟨⟨tw_1001, tw_1002, tw_61, tw_1003⟩, by decide +kernel⟩
abbrev rm_X10_would : Room := { frames := 23, cells := 117, slots := 1633, locals := 786 }
set_option maxHeartbeats 4000000 in
set_option maxRecDepth 100000 in
theorem ww_X10_would_40b {x1 : Int32} {x2 : Int32} {x3 : Int32} {x5 : Int32} {g4 : (Nat → Int32)} {q4 : Nat} {res : ((Int32) ⊕ ((Unit))) × yy_T} {Q : State → Prop} (C : yy_C D κ p m c cX10_would 7 s args RX10) (Z : yy_Z D κ ((q4, .inl (κ 0, 9, .inl g4)) :: ext) A s.heap τ H locs) (hl : lv_has ls 7 [(0, .ref (κ 4 + 112)), (1, .int x1), (2, .int x2), (3, .int x3), (4, .ref q4), (5, .int x5)]) (h : mm_X10_would_40b x1 x2 x3 x5 g4 τ = some res)
    (kI : ∀ (w : Int32) (τ1 : yy_T) (H1 : Heap) (locs1 : List Loc) (ls1 : Array Slot), res = (.inl w, τ1) → yy_Z D κ ((q4, .inl (κ 0, 9, .inl g4)) :: ext) A s.heap τ1 H1 locs1 → lv_has ls1 7 [(0, .ref (κ 4 + 112)), (1, .int x1), (2, .int x2), (3, .int x3), (4, .ref q4), (5, .int w)] → W p l e rm_X10_would s m args below meth c H1 locs1 59 821 Q (F0 m 40 ls1 []))
    (kR0 : ∀ (w : Unit) (τ1 : yy_T) (H1 : Heap) (locs1 : List Loc) (ls1 : Array Slot), res = (.inr w, τ1) → yy_Z D κ ((q4, .inl (κ 0, 9, .inl g4)) :: ext) A s.heap τ1 H1 locs1 → lv_has ls1 7 [(0, .ref (κ 4 + 112)), (1, .int x1), (2, .int x2), (3, .int x3), (4, .ref q4)] → W p l e rm_X10_would s m args below meth c H1 locs1 59 821 Q (F0 m 81 ls1 [])) : W p l e rm_X10_would s m args below meth c H locs 59 821 Q (F0 m 40 ls []) := by
  unfold mm_X10_would_40b at h
  refine lv_iload C.1.1 C.1.2.1 dX10_would_40 (lv_at hl 5 rfl) ?_
  refine lv_bipush (v := 28) C.1.1 C.1.2.1 dX10_would_42 (by decide) ?_
  refine yy_icmp_ge (tgt := 81) C dX10_would_44 (by decide) h (fun h => ?_) (fun h => ?_)
  · exact kR0 _ _ _ _ _ (yy_rt_of h) Z (lv_sub hl [0, 1, 2, 3, 4] rfl)
  · refine lv_aload_n C.1.1 C.1.2.1 dX10_would_47 rfl (lv_at hl 0 rfl) ?_
    refine yg_X10_13 C Z tw_805 dX10_would_48 ?_
    refine lv_iload C.1.1 C.1.2.1 dX10_would_51 (lv_at hl 5 rfl) ?_
    refine lv_aload_n C.1.1 C.1.2.1 dX10_would_53 rfl (lv_at hl 0 rfl) ?_
    refine yg_X10_10 C Z tw_802 dX10_would_54 ?_
    refine lv_iload C.1.1 C.1.2.1 dX10_would_57 (lv_at hl 5 rfl) ?_
    refine yy_iald C Z (by decide) rfl dX10_would_59 h (fun v3 h => ?_)
    refine yy_iast C Z (by decide) rfl dX10_would_60 h (fun H locs τ Z h => ?_)
    refine lv_aload_n C.1.1 C.1.2.1 dX10_would_61 rfl (lv_at hl 0 rfl) ?_
    refine yg_X10_14 C Z tw_806 dX10_would_62 ?_
    refine lv_iload C.1.1 C.1.2.1 dX10_would_65 (lv_at hl 5 rfl) ?_
    refine lv_aload_n C.1.1 C.1.2.1 dX10_would_67 rfl (lv_at hl 0 rfl) ?_
    refine yg_X10_11 C Z tw_803 dX10_would_68 ?_
    refine lv_iload C.1.1 C.1.2.1 dX10_would_71 (lv_at hl 5 rfl) ?_
    refine yy_iald C Z (by decide) rfl dX10_would_73 h (fun v4 h => ?_)
    refine yy_iast C Z (by decide) rfl dX10_would_74 h (fun H locs τ Z h => ?_)
    refine lv_iinc (v := x5 + 1) (lv' := [(5, .int (x5 + 1)), (0, .ref (κ 4 + 112)), (1, .int x1), (2, .int x2), (3, .int x3), (4, .ref q4)]) C.1.1 C.1.2.1 dX10_would_75 hl (k := 5) rfl (by rfl) (by decide) rfl (fun ls hl => ?_)
    refine lv_goto (tgt := 40) C.1.1 C.1.2.1 dX10_would_78 (by decide) ?_
    exact kI _ _ _ _ _ (yy_rt_of h) Z (lv_sub hl [1, 2, 3, 4, 5, 0] rfl)
set_option maxHeartbeats 4000000 in
set_option maxRecDepth 100000 in
theorem ww_X10_would_84b {x1 : Int32} {x2 : Int32} {x3 : Int32} {x5 : Int32} {g4 : (Nat → Int32)} {q4 : Nat} {res : ((Int32 × (Nat → Int32)) ⊕ (((Nat → Int32)))) × yy_T} {Q : State → Prop} (C : yy_C D κ p m c cX10_would 7 s args RX10) (Z : yy_Z D κ ((q4, .inl (κ 0, 9, .inl g4)) :: ext) A s.heap τ H locs) (hl : lv_has ls 7 [(0, .ref (κ 4 + 112)), (1, .int x1), (2, .int x2), (3, .int x3), (4, .ref q4), (5, .int x5)]) (h : mm_X10_would_84b x1 x2 x3 x5 g4 τ = some res)
    (kI : ∀ (w : Int32 × (Nat → Int32)) (τ1 : yy_T) (H1 : Heap) (locs1 : List Loc) (ls1 : Array Slot), res = (.inl w, τ1) → yy_Z D κ ((q4, .inl (κ 0, 9, .inl w.2)) :: ext) A s.heap τ1 H1 locs1 → lv_has ls1 7 [(0, .ref (κ 4 + 112)), (1, .int x1), (2, .int x2), (3, .int x3), (4, .ref q4), (5, .int w.1)] → W p l e rm_X10_would s m args below meth c H1 locs1 59 821 Q (F0 m 84 ls1 []))
    (kR0 : ∀ (w : (Nat → Int32)) (τ1 : yy_T) (H1 : Heap) (locs1 : List Loc) (ls1 : Array Slot), res = (.inr w, τ1) → yy_Z D κ ((q4, .inl (κ 0, 9, .inl w)) :: ext) A s.heap τ1 H1 locs1 → lv_has ls1 7 [(0, .ref (κ 4 + 112)), (1, .int x1), (2, .int x2), (3, .int x3), (4, .ref q4)] → W p l e rm_X10_would s m args below meth c H1 locs1 59 821 Q (F0 m 115 ls1 [])) : W p l e rm_X10_would s m args below meth c H locs 59 821 Q (F0 m 84 ls []) := by
  unfold mm_X10_would_84b at h
  refine lv_iload C.1.1 C.1.2.1 dX10_would_84 (lv_at hl 5 rfl) ?_
  refine lv_bipush (v := 9) C.1.1 C.1.2.1 dX10_would_86 (by decide) ?_
  refine yy_icmp_ge (tgt := 115) C dX10_would_88 (by decide) h (fun h => ?_) (fun h => ?_)
  · exact kR0 _ _ _ _ _ (yy_rt_of h) Z (lv_sub hl [0, 1, 2, 3, 4] rfl)
  · refine lv_aload C.1.1 C.1.2.1 dX10_would_91 (lv_at hl 4 rfl) ?_
    refine lv_iload C.1.1 C.1.2.1 dX10_would_93 (lv_at hl 5 rfl) ?_
    refine lv_aload_n C.1.1 C.1.2.1 dX10_would_95 rfl (lv_at hl 0 rfl) ?_
    refine yg_X10_3 C Z tw_795 dX10_would_96 ?_
    refine lv_iload_n C.1.1 C.1.2.1 dX10_would_99 rfl (lv_at hl 1 rfl) ?_
    refine lv_iload_n C.1.1 C.1.2.1 dX10_would_100 rfl (lv_at hl 2 rfl) ?_
    refine yy_cSi0 (As := [.int x1, .int x2]) (rest := [.ref (κ 4 + 114), .int x5, .ref q4])  C Z (ss_X10_lineAt l D κ ((q4, .inl (κ 0, 9, .inl g4)) :: ext) x1 x2) tw_914 kw_X10_lineAt ⟨⟨rfl, rfl⟩, ⟨Nat.le_of_ble_eq_true rfl, Nat.le_of_ble_eq_true rfl⟩, Nat.le_of_ble_eq_true rfl, Nat.le_of_ble_eq_true rfl⟩ hl.1 rfl (Nat.le_of_ble_eq_true rfl) dX10_would_101 h (fun r5 τ H locs Z h => ?_)
    refine lv_iload C.1.1 C.1.2.1 dX10_would_104 (lv_at hl 5 rfl) ?_
    refine lv_iadd C.1.1 C.1.2.1 dX10_would_106 ?_
    refine yy_iald C Z (by decide) rfl dX10_would_107 h (fun v6 h => ?_)
    refine yy_tast C Z 0 rfl dX10_would_108 h (fun g7 H locs Z h => ?_)
    have Z : yy_Z D κ ((q4, .inl (κ 0, 9, .inl g7)) :: ext) A s.heap τ H locs := Z
    refine lv_iinc (v := x5 + 1) (lv' := [(5, .int (x5 + 1)), (0, .ref (κ 4 + 112)), (1, .int x1), (2, .int x2), (3, .int x3), (4, .ref q4)]) C.1.1 C.1.2.1 dX10_would_109 hl (k := 5) rfl (by rfl) (by decide) rfl (fun ls hl => ?_)
    refine lv_goto (tgt := 84) C.1.1 C.1.2.1 dX10_would_112 (by decide) ?_
    exact kI _ _ _ _ _ (yy_rt_of h) Z (lv_sub hl [1, 2, 3, 4, 5, 0] rfl)
set_option maxHeartbeats 4000000 in
set_option maxRecDepth 100000 in
theorem ww_X10_would_138b {x1 : Int32} {x2 : Int32} {x5 : Int32} {g4 : (Nat → Int32)} {q4 : Nat} {res : ((Int32) ⊕ ((Unit))) × yy_T} {Q : State → Prop} (C : yy_C D κ p m c cX10_would 7 s args RX10) (Z : yy_Z D κ ((q4, .inl (κ 0, 9, .inl g4)) :: ext) A s.heap τ H locs) (hl : lv_has ls 7 [(0, .ref (κ 4 + 112)), (1, .int x1), (2, .int x2), (4, .ref q4), (5, .int x5)]) (h : mm_X10_would_138b x1 x2 x5 g4 τ = some res)
    (kI : ∀ (w : Int32) (τ1 : yy_T) (H1 : Heap) (locs1 : List Loc) (ls1 : Array Slot), res = (.inl w, τ1) → yy_Z D κ ((q4, .inl (κ 0, 9, .inl g4)) :: ext) A s.heap τ1 H1 locs1 → lv_has ls1 7 [(0, .ref (κ 4 + 112)), (1, .int x1), (2, .int x2), (4, .ref q4), (5, .int w)] → W p l e rm_X10_would s m args below meth c H1 locs1 117 1633 Q (F0 m 138 ls1 []))
    (kR0 : ∀ {gd4 : Nat → Int32} (w : Unit) (τ1 : yy_T) (H1 : Heap) (locs1 : List Loc) (ls1 : Array Slot), res = (.inr w, τ1) → yy_Z D κ ((q4, .inl (κ 0, 9, .inl gd4)) :: ext) A s.heap τ1 H1 locs1 → lv_has ls1 7 [(0, .ref (κ 4 + 112))] → W p l e rm_X10_would s m args below meth c H1 locs1 117 1633 Q (F0 m 169 ls1 [])) : W p l e rm_X10_would s m args below meth c H locs 117 1633 Q (F0 m 138 ls []) := by
  unfold mm_X10_would_138b at h
  refine lv_iload C.1.1 C.1.2.1 dX10_would_138 (lv_at hl 4 rfl) ?_
  refine lv_bipush (v := 9) C.1.1 C.1.2.1 dX10_would_140 (by decide) ?_
  refine yy_icmp_ge (tgt := 169) C dX10_would_142 (by decide) h (fun h => ?_) (fun h => ?_)
  · exact kR0 _ _ _ _ _ (yy_rt_of h) Z (lv_sub hl [0] rfl)
  · refine lv_aload_n C.1.1 C.1.2.1 dX10_would_145 rfl (lv_at hl 0 rfl) ?_
    refine yg_X10_3 C Z tw_795 dX10_would_146 ?_
    refine lv_iload_n C.1.1 C.1.2.1 dX10_would_149 rfl (lv_at hl 1 rfl) ?_
    refine lv_iload_n C.1.1 C.1.2.1 dX10_would_150 rfl (lv_at hl 2 rfl) ?_
    refine yy_cSi0 (As := [.int x1, .int x2]) (rest := [.ref (κ 4 + 114)])  C Z (ss_X10_lineAt l D κ ((q4, .inl (κ 0, 9, .inl g4)) :: ext) x1 x2) tw_914 kw_X10_lineAt ⟨⟨rfl, rfl⟩, ⟨Nat.le_of_ble_eq_true rfl, Nat.le_of_ble_eq_true rfl⟩, Nat.le_of_ble_eq_true rfl, Nat.le_of_ble_eq_true rfl⟩ hl.1 rfl (Nat.le_of_ble_eq_true rfl) dX10_would_151 h (fun r10 τ H locs Z h => ?_)
    refine lv_iload C.1.1 C.1.2.1 dX10_would_154 (lv_at hl 4 rfl) ?_
    refine lv_iadd C.1.1 C.1.2.1 dX10_would_156 ?_
    refine lv_aload C.1.1 C.1.2.1 dX10_would_157 (lv_at hl 3 rfl) ?_
    refine lv_iload C.1.1 C.1.2.1 dX10_would_159 (lv_at hl 4 rfl) ?_
    refine yy_tald C Z 0 rfl dX10_would_161 h (fun v11 h => ?_)
    refine yy_iast C Z (by decide) rfl dX10_would_162 h (fun H locs τ Z h => ?_)
    refine lv_iinc (v := x5 + 1) (lv' := [(5, .int (x5 + 1)), (0, .ref (κ 4 + 112)), (1, .int x1), (2, .int x2), (4, .ref q4)]) C.1.1 C.1.2.1 dX10_would_163 hl (k := 4) rfl (by rfl) (by decide) rfl (fun ls hl => ?_)
    refine lv_goto (tgt := 138) C.1.1 C.1.2.1 dX10_would_166 (by decide) ?_
    exact kI _ _ _ _ _ (yy_rt_of h) Z (lv_sub hl [1, 2, 3, 4, 0] rfl)
set_option maxHeartbeats 4000000 in
set_option maxRecDepth 100000 in
theorem ww_X10_would_219 {x5 : Int32} {x6 : Int32} {q4 : Nat} {gd4 : Nat → Int32} {res : ((Int32 × Int32) ⊕ ((Int32))) × yy_T} {Q : State → Prop} (C : yy_C D κ p m c cX10_would 7 s args RX10) (Z : yy_Z D κ ((q4, .inl (κ 0, 9, .inl gd4)) :: ext) A s.heap τ H locs) (hl : lv_has ls 7 [(0, .ref (κ 4 + 112)), (5, .int x5), (6, .int x6)]) (h : mm_X10_would_219 x5 x6 τ = some res)
    (kI : ∀ (w : Int32 × Int32) (τ1 : yy_T) (H1 : Heap) (locs1 : List Loc) (ls1 : Array Slot), res = (.inl w, τ1) → yy_Z D κ ((q4, .inl (κ 0, 9, .inl gd4)) :: ext) A s.heap τ1 H1 locs1 → lv_has ls1 7 [(0, .ref (κ 4 + 112)), (5, .int w.1), (6, .int w.2)] → W p l e rm_X10_would s m args below meth c H1 locs1 117 1633 Q (F0 m 175 ls1 [])) : W p l e rm_X10_would s m args below meth c H locs 117 1633 Q (F0 m 219 ls []) := by
  unfold mm_X10_would_219 at h
  refine lv_iinc (v := x6 + 1) (lv' := [(6, .int (x6 + 1)), (0, .ref (κ 4 + 112)), (5, .int x5)]) C.1.1 C.1.2.1 dX10_would_219 hl (k := 2) rfl (by rfl) (by decide) rfl (fun ls hl => ?_)
  refine lv_goto (tgt := 175) C.1.1 C.1.2.1 dX10_would_222 (by decide) ?_
  exact kI _ _ _ _ _ (yy_rt_of h) Z (lv_sub hl [1, 2, 0] rfl)
set_option maxHeartbeats 4000000 in
set_option maxRecDepth 100000 in
theorem ww_X10_would_216 {x5 : Int32} {x6 : Int32} {q4 : Nat} {gd4 : Nat → Int32} {res : ((Int32 × Int32) ⊕ ((Int32))) × yy_T} {Q : State → Prop} (C : yy_C D κ p m c cX10_would 7 s args RX10) (Z : yy_Z D κ ((q4, .inl (κ 0, 9, .inl gd4)) :: ext) A s.heap τ H locs) (hl : lv_has ls 7 [(0, .ref (κ 4 + 112)), (5, .int x5), (6, .int x6)]) (h : mm_X10_would_216 x5 x6 τ = some res)
    (kI : ∀ (w : Int32 × Int32) (τ1 : yy_T) (H1 : Heap) (locs1 : List Loc) (ls1 : Array Slot), res = (.inl w, τ1) → yy_Z D κ ((q4, .inl (κ 0, 9, .inl gd4)) :: ext) A s.heap τ1 H1 locs1 → lv_has ls1 7 [(0, .ref (κ 4 + 112)), (5, .int w.1), (6, .int w.2)] → W p l e rm_X10_would s m args below meth c H1 locs1 117 1633 Q (F0 m 175 ls1 [])) : W p l e rm_X10_would s m args below meth c H locs 117 1633 Q (F0 m 216 ls []) := by
  unfold mm_X10_would_216 at h
  refine lv_iinc (v := x5 + 1) (lv' := [(5, .int (x5 + 1)), (0, .ref (κ 4 + 112)), (6, .int x6)]) C.1.1 C.1.2.1 dX10_would_216 hl (k := 1) rfl (by rfl) (by decide) rfl (fun ls hl => ?_)
  exact ww_X10_would_219 C Z (lv_sub hl [1, 0, 2] rfl) h kI
set_option maxHeartbeats 4000000 in
set_option maxRecDepth 100000 in
theorem ww_X10_would_175b {x5 : Int32} {x6 : Int32} {q4 : Nat} {gd4 : Nat → Int32} {res : ((Int32 × Int32) ⊕ ((Int32))) × yy_T} {Q : State → Prop} (C : yy_C D κ p m c cX10_would 7 s args RX10) (Z : yy_Z D κ ((q4, .inl (κ 0, 9, .inl gd4)) :: ext) A s.heap τ H locs) (hl : lv_has ls 7 [(0, .ref (κ 4 + 112)), (5, .int x5), (6, .int x6)]) (h : mm_X10_would_175b x5 x6 τ = some res)
    (kI : ∀ (w : Int32 × Int32) (τ1 : yy_T) (H1 : Heap) (locs1 : List Loc) (ls1 : Array Slot), res = (.inl w, τ1) → yy_Z D κ ((q4, .inl (κ 0, 9, .inl gd4)) :: ext) A s.heap τ1 H1 locs1 → lv_has ls1 7 [(0, .ref (κ 4 + 112)), (5, .int w.1), (6, .int w.2)] → W p l e rm_X10_would s m args below meth c H1 locs1 117 1633 Q (F0 m 175 ls1 []))
    (kR0 : ∀ {gd4 : Nat → Int32} (w : Int32) (τ1 : yy_T) (H1 : Heap) (locs1 : List Loc) (ls1 : Array Slot), res = (.inr w, τ1) → yy_Z D κ ((q4, .inl (κ 0, 9, .inl gd4)) :: ext) A s.heap τ1 H1 locs1 → lv_has ls1 7 [(5, .int w)] → W p l e rm_X10_would s m args below meth c H1 locs1 117 1633 Q (F0 m 225 ls1 [])) : W p l e rm_X10_would s m args below meth c H locs 117 1633 Q (F0 m 175 ls []) := by
  unfold mm_X10_would_175b at h
  refine lv_iload C.1.1 C.1.2.1 dX10_would_175 (lv_at hl 2 rfl) ?_
  refine lv_bipush (v := 28) C.1.1 C.1.2.1 dX10_would_177 (by decide) ?_
  refine yy_icmp_ge (tgt := 225) C dX10_would_179 (by decide) h (fun h => ?_) (fun h => ?_)
  · exact kR0 _ _ _ _ _ (yy_rt_of h) Z (lv_sub hl [1] rfl)
  · refine lv_aload_n C.1.1 C.1.2.1 dX10_would_182 rfl (lv_at hl 0 rfl) ?_
    refine yg_X10_13 C Z tw_805 dX10_would_183 ?_
    refine lv_iload C.1.1 C.1.2.1 dX10_would_186 (lv_at hl 2 rfl) ?_
    refine yy_iald C Z (by decide) rfl dX10_would_188 h (fun v12 h => ?_)
    refine lv_aload_n C.1.1 C.1.2.1 dX10_would_189 rfl (lv_at hl 0 rfl) ?_
    refine yg_X10_10 C Z tw_802 dX10_would_190 ?_
    refine lv_iload C.1.1 C.1.2.1 dX10_would_193 (lv_at hl 2 rfl) ?_
    refine yy_iald C Z (by decide) rfl dX10_would_195 h (fun v13 h => ?_)
    refine yy_icmp_ne (tgt := 216) C dX10_would_196 (by decide) h (fun h => ?_) (fun h => ?_)
    · exact ww_X10_would_216 C Z (lv_sub hl [0, 1, 2] rfl) h kI
    · refine lv_aload_n C.1.1 C.1.2.1 dX10_would_199 rfl (lv_at hl 0 rfl) ?_
      refine yg_X10_14 C Z tw_806 dX10_would_200 ?_
      refine lv_iload C.1.1 C.1.2.1 dX10_would_203 (lv_at hl 2 rfl) ?_
      refine yy_iald C Z (by decide) rfl dX10_would_205 h (fun v14 h => ?_)
      refine lv_aload_n C.1.1 C.1.2.1 dX10_would_206 rfl (lv_at hl 0 rfl) ?_
      refine yg_X10_11 C Z tw_803 dX10_would_207 ?_
      refine lv_iload C.1.1 C.1.2.1 dX10_would_210 (lv_at hl 2 rfl) ?_
      refine yy_iald C Z (by decide) rfl dX10_would_212 h (fun v15 h => ?_)
      refine yy_icmp_eq (tgt := 219) C dX10_would_213 (by decide) h (fun h => ?_) (fun h => ?_)
      · exact ww_X10_would_219 C Z (lv_sub hl [0, 1, 2] rfl) h kI
      · exact ww_X10_would_216 C Z (lv_sub hl [0, 1, 2] rfl) h kI
set_option maxHeartbeats 4000000 in
set_option maxRecDepth 100000 in
theorem ww_X10_would_225 {x5 : Int32} {q4 : Nat} {gd4 : Nat → Int32} {res : Int32 × yy_T} (C : yy_C D κ p m c cX10_would 7 s args RX10) (hr : meth.sig.returnType = (some .int)) (hlk : meth.locks = false) (Z : yy_Z D κ ((q4, .inl (κ 0, 9, .inl gd4)) :: ext) A s.heap τ H locs) (hl : lv_has ls 7 [(5, .int x5)]) (h : mm_X10_would_225 x5 τ = some res) : W p l e rm_X10_would s m args below meth c H locs 117 1633 (MQ below (yy_Qi D κ ext A res) args s 117 1633 A) (F0 m 225 ls []) := by
  unfold mm_X10_would_225 at h
  refine lv_iload C.1.1 C.1.2.1 dX10_would_225 (lv_at hl 0 rfl) ?_
  have Z := Z.tail
  exact yy_iret C Z hr hlk rfl dX10_would_227 h
set_option maxHeartbeats 4000000 in
set_option maxRecDepth 100000 in
theorem ww_X10_would_175 {x5 : Int32} {x6 : Int32} {q4 : Nat} {gd4 : Nat → Int32} {res : Int32 × yy_T} (C : yy_C D κ p m c cX10_would 7 s args RX10) (hr : meth.sig.returnType = (some .int)) (hlk : meth.locks = false) (Z : yy_Z D κ ((q4, .inl (κ 0, 9, .inl gd4)) :: ext) A s.heap τ H locs) (hl : lv_has ls 7 [(0, .ref (κ 4 + 112)), (5, .int x5), (6, .int x6)]) (h : mm_X10_would_175 x5 x6 τ = some res) : W p l e rm_X10_would s m args below meth c H locs 117 1633 (MQ below (yy_Qi D κ ext A res) args s 117 1633 A) (F0 m 175 ls []) := by
  unfold mm_X10_would_175 at h
  refine yy_loop h (fun (w : Int32 × Int32) (τ : yy_T) => ∀ (H : Heap) (locs : List Loc) (ls : Array Slot), yy_Z D κ ((q4, .inl (κ 0, 9, .inl gd4)) :: ext) A s.heap τ H locs → lv_has ls 7 [(0, .ref (κ 4 + 112)), (5, .int w.1), (6, .int w.2)] → W p l e rm_X10_would s m args below meth c H locs 117 1633 (MQ below (yy_Qi D κ ext A res) args s 117 1633 A) (F0 m 175 ls [])) ?_ H locs ls Z hl
  intro w τ y hy hI hX H locs ls Z hl
  refine ww_X10_would_175b C Z hl hy (fun w τ H locs ls ey Z hl => hI w τ ey H locs ls Z hl) (fun w τ H locs ls ey Z hl => ?_)
  · have h := hX _ _ ey
    exact ww_X10_would_225 C hr hlk Z (lv_sub hl [0] rfl) h
set_option maxHeartbeats 4000000 in
set_option maxRecDepth 100000 in
theorem ww_X10_would_169 {q4 : Nat} {gd4 : Nat → Int32} {res : Int32 × yy_T} (C : yy_C D κ p m c cX10_would 7 s args RX10) (hr : meth.sig.returnType = (some .int)) (hlk : meth.locks = false) (Z : yy_Z D κ ((q4, .inl (κ 0, 9, .inl gd4)) :: ext) A s.heap τ H locs) (hl : lv_has ls 7 [(0, .ref (κ 4 + 112))]) (h : mm_X10_would_169  τ = some res) : W p l e rm_X10_would s m args below meth c H locs 117 1633 (MQ below (yy_Qi D κ ext A res) args s 117 1633 A) (F0 m 169 ls []) := by
  unfold mm_X10_would_169 at h
  refine lv_iconst (v := 0) C.1.1 C.1.2.1 dX10_would_169 (by decide) ?_
  refine lv_istore (lv' := [(5, .int 0), (0, .ref (κ 4 + 112))]) C.1.1 C.1.2.1 dX10_would_170 hl (by decide) rfl (fun ls hl => ?_)
  refine lv_iconst (v := 0) C.1.1 C.1.2.1 dX10_would_172 (by decide) ?_
  refine lv_istore (lv' := [(6, .int 0), (5, .int 0), (0, .ref (κ 4 + 112))]) C.1.1 C.1.2.1 dX10_would_173 hl (by decide) rfl (fun ls hl => ?_)
  exact ww_X10_would_175 C hr hlk Z (lv_sub hl [2, 1, 0] rfl) h
set_option maxHeartbeats 4000000 in
set_option maxRecDepth 100000 in
theorem ww_X10_would_138 {x1 : Int32} {x2 : Int32} {x5 : Int32} {g4 : (Nat → Int32)} {q4 : Nat} {res : Int32 × yy_T} (C : yy_C D κ p m c cX10_would 7 s args RX10) (hr : meth.sig.returnType = (some .int)) (hlk : meth.locks = false) (Z : yy_Z D κ ((q4, .inl (κ 0, 9, .inl g4)) :: ext) A s.heap τ H locs) (hl : lv_has ls 7 [(0, .ref (κ 4 + 112)), (1, .int x1), (2, .int x2), (4, .ref q4), (5, .int x5)]) (h : mm_X10_would_138 x1 x2 x5 g4 τ = some res) : W p l e rm_X10_would s m args below meth c H locs 117 1633 (MQ below (yy_Qi D κ ext A res) args s 117 1633 A) (F0 m 138 ls []) := by
  unfold mm_X10_would_138 at h
  refine yy_loop h (fun (w : Int32) (τ : yy_T) => ∀ (H : Heap) (locs : List Loc) (ls : Array Slot), yy_Z D κ ((q4, .inl (κ 0, 9, .inl g4)) :: ext) A s.heap τ H locs → lv_has ls 7 [(0, .ref (κ 4 + 112)), (1, .int x1), (2, .int x2), (4, .ref q4), (5, .int w)] → W p l e rm_X10_would s m args below meth c H locs 117 1633 (MQ below (yy_Qi D κ ext A res) args s 117 1633 A) (F0 m 138 ls [])) ?_ H locs ls Z hl
  intro w τ y hy hI hX H locs ls Z hl
  refine ww_X10_would_138b C Z hl hy (fun w τ H locs ls ey Z hl => hI w τ ey H locs ls Z hl) (fun w τ H locs ls ey Z hl => ?_)
  · have h := hX _ _ ey
    exact ww_X10_would_169 C hr hlk Z (lv_sub hl [0] rfl) h
set_option maxHeartbeats 4000000 in
set_option maxRecDepth 100000 in
theorem ww_X10_would_115 {x1 : Int32} {x2 : Int32} {x3 : Int32} {g4 : (Nat → Int32)} {q4 : Nat} {res : Int32 × yy_T} (C : yy_C D κ p m c cX10_would 7 s args RX10) (hr : meth.sig.returnType = (some .int)) (hlk : meth.locks = false) (Z : yy_Z D κ ((q4, .inl (κ 0, 9, .inl g4)) :: ext) A s.heap τ H locs) (hl : lv_has ls 7 [(0, .ref (κ 4 + 112)), (1, .int x1), (2, .int x2), (3, .int x3), (4, .ref q4)]) (h : mm_X10_would_115 x1 x2 x3 g4 τ = some res) : W p l e rm_X10_would s m args below meth c H locs 59 821 (MQ below (yy_Qi D κ ext A res) args s 117 1633 A) (F0 m 115 ls []) := by
  unfold mm_X10_would_115 at h
  refine lv_aload_n C.1.1 C.1.2.1 dX10_would_115 rfl (lv_at hl 0 rfl) ?_
  refine lv_iload_n C.1.1 C.1.2.1 dX10_would_116 rfl (lv_at hl 1 rfl) ?_
  refine lv_iload_n C.1.1 C.1.2.1 dX10_would_117 rfl (lv_at hl 2 rfl) ?_
  refine yy_cSi0 (As := [.int x1, .int x2]) (rest := [.ref (κ 4 + 112)])  C Z (ss_X10_lineAt l D κ ((q4, .inl (κ 0, 9, .inl g4)) :: ext) x1 x2) tw_914 kw_X10_lineAt ⟨⟨rfl, rfl⟩, ⟨Nat.le_of_ble_eq_true rfl, Nat.le_of_ble_eq_true rfl⟩, Nat.le_of_ble_eq_true rfl, Nat.le_of_ble_eq_true rfl⟩ hl.1 rfl (Nat.le_of_ble_eq_true rfl) dX10_would_118 h (fun r8 τ H locs Z h => ?_)
  refine lv_iconst (v := 1) C.1.1 C.1.2.1 dX10_would_121 (by decide) ?_
  refine lv_iload_n C.1.1 C.1.2.1 dX10_would_122 rfl (lv_at hl 1 rfl) ?_
  refine lv_isub C.1.1 C.1.2.1 dX10_would_123 ?_
  refine lv_iload_n C.1.1 C.1.2.1 dX10_would_124 rfl (lv_at hl 3 rfl) ?_
  refine yy_cSi0 (As := [.int (1 - x1), .int x3]) (rest := [.int r8, .ref (κ 4 + 112)])  C Z (ss_X10_lineAt l D κ ((q4, .inl (κ 0, 9, .inl g4)) :: ext) (1 - x1) x3) tw_914 kw_X10_lineAt ⟨⟨rfl, rfl⟩, ⟨Nat.le_of_ble_eq_true rfl, Nat.le_of_ble_eq_true rfl⟩, Nat.le_of_ble_eq_true rfl, Nat.le_of_ble_eq_true rfl⟩ hl.1 rfl (Nat.le_of_ble_eq_true rfl) dX10_would_125 h (fun r9 τ H locs Z h => ?_)
  refine yy_cVv0 (As := [.int r8, .int r9]) (rest := []) (id := 112) (ci := 10) (q := (RX10, TX10, 20)) C Z (ss_X10_copiesLine l D κ ((q4, .inl (κ 0, 9, .inl g4)) :: ext) r8 r9) (by decide) (yy_ent_112 _) rfl tw_1004 kw_X10_copiesLine ⟨⟨rfl, rfl⟩, ⟨Nat.le_of_ble_eq_true rfl, Nat.le_of_ble_eq_true rfl⟩, Nat.le_of_ble_eq_true rfl, Nat.le_of_ble_eq_true rfl⟩ hl.1 rfl (Nat.le_of_ble_eq_true rfl) dX10_would_128 h (fun τ H locs Z h => ?_)
  refine lv_aload_n C.1.1 C.1.2.1 dX10_would_131 rfl (lv_at hl 0 rfl) ?_
  refine yy_cVv (As := []) (rest := []) (id := 112) (ci := 10) (q := (RX10, TX10, 20)) C Z (ss_X10_laysAll l D κ ((q4, .inl (κ 0, 9, .inl g4)) :: ext) ) (by decide) (yy_ent_112 _) rfl tw_894 kw_X10_laysAll ⟨⟨rfl, rfl⟩, ⟨Nat.le_of_ble_eq_true rfl, Nat.le_of_ble_eq_true rfl⟩, Nat.le_of_ble_eq_true rfl, Nat.le_of_ble_eq_true rfl⟩ hl.1 rfl (Nat.le_of_ble_eq_true rfl) dX10_would_132 h (fun τ H locs Z h => ?_)
  refine W.widen (k := 117) (n := 1633) (Nat.le_refl _) (Nat.le_refl _) ?_
  refine lv_iconst (v := 0) C.1.1 C.1.2.1 dX10_would_135 (by decide) ?_
  refine lv_istore (lv' := [(5, .int 0), (0, .ref (κ 4 + 112)), (1, .int x1), (2, .int x2), (3, .int x3), (4, .ref q4)]) C.1.1 C.1.2.1 dX10_would_136 hl (by decide) rfl (fun ls hl => ?_)
  exact ww_X10_would_138 C hr hlk Z (lv_sub hl [1, 2, 3, 5, 0] rfl) h
set_option maxHeartbeats 4000000 in
set_option maxRecDepth 100000 in
theorem ww_X10_would_84 {x1 : Int32} {x2 : Int32} {x3 : Int32} {x5 : Int32} {g4 : (Nat → Int32)} {q4 : Nat} {res : Int32 × yy_T} (C : yy_C D κ p m c cX10_would 7 s args RX10) (hr : meth.sig.returnType = (some .int)) (hlk : meth.locks = false) (Z : yy_Z D κ ((q4, .inl (κ 0, 9, .inl g4)) :: ext) A s.heap τ H locs) (hl : lv_has ls 7 [(0, .ref (κ 4 + 112)), (1, .int x1), (2, .int x2), (3, .int x3), (4, .ref q4), (5, .int x5)]) (h : mm_X10_would_84 x1 x2 x3 x5 g4 τ = some res) : W p l e rm_X10_would s m args below meth c H locs 59 821 (MQ below (yy_Qi D κ ext A res) args s 117 1633 A) (F0 m 84 ls []) := by
  unfold mm_X10_would_84 at h
  refine yy_loop h (fun (w : Int32 × (Nat → Int32)) (τ : yy_T) => ∀ (H : Heap) (locs : List Loc) (ls : Array Slot), yy_Z D κ ((q4, .inl (κ 0, 9, .inl w.2)) :: ext) A s.heap τ H locs → lv_has ls 7 [(0, .ref (κ 4 + 112)), (1, .int x1), (2, .int x2), (3, .int x3), (4, .ref q4), (5, .int w.1)] → W p l e rm_X10_would s m args below meth c H locs 59 821 (MQ below (yy_Qi D κ ext A res) args s 117 1633 A) (F0 m 84 ls [])) ?_ H locs ls Z hl
  intro w τ y hy hI hX H locs ls Z hl
  refine ww_X10_would_84b C Z hl hy (fun w τ H locs ls ey Z hl => hI w τ ey H locs ls Z hl) (fun w τ H locs ls ey Z hl => ?_)
  · have h := hX _ _ ey
    exact ww_X10_would_115 C hr hlk Z (lv_sub hl [0, 1, 2, 3, 4] rfl) h
set_option maxHeartbeats 4000000 in
set_option maxRecDepth 100000 in
theorem ww_X10_would_81 {x1 : Int32} {x2 : Int32} {x3 : Int32} {g4 : (Nat → Int32)} {q4 : Nat} {res : Int32 × yy_T} (C : yy_C D κ p m c cX10_would 7 s args RX10) (hr : meth.sig.returnType = (some .int)) (hlk : meth.locks = false) (Z : yy_Z D κ ((q4, .inl (κ 0, 9, .inl g4)) :: ext) A s.heap τ H locs) (hl : lv_has ls 7 [(0, .ref (κ 4 + 112)), (1, .int x1), (2, .int x2), (3, .int x3), (4, .ref q4)]) (h : mm_X10_would_81 x1 x2 x3 g4 τ = some res) : W p l e rm_X10_would s m args below meth c H locs 59 821 (MQ below (yy_Qi D κ ext A res) args s 117 1633 A) (F0 m 81 ls []) := by
  unfold mm_X10_would_81 at h
  refine lv_iconst (v := 0) C.1.1 C.1.2.1 dX10_would_81 (by decide) ?_
  refine lv_istore (lv' := [(5, .int 0), (0, .ref (κ 4 + 112)), (1, .int x1), (2, .int x2), (3, .int x3), (4, .ref q4)]) C.1.1 C.1.2.1 dX10_would_82 hl (by decide) rfl (fun ls hl => ?_)
  exact ww_X10_would_84 C hr hlk Z (lv_sub hl [1, 2, 3, 4, 5, 0] rfl) h
set_option maxHeartbeats 4000000 in
set_option maxRecDepth 100000 in
theorem ww_X10_would_40 {x1 : Int32} {x2 : Int32} {x3 : Int32} {x5 : Int32} {g4 : (Nat → Int32)} {q4 : Nat} {res : Int32 × yy_T} (C : yy_C D κ p m c cX10_would 7 s args RX10) (hr : meth.sig.returnType = (some .int)) (hlk : meth.locks = false) (Z : yy_Z D κ ((q4, .inl (κ 0, 9, .inl g4)) :: ext) A s.heap τ H locs) (hl : lv_has ls 7 [(0, .ref (κ 4 + 112)), (1, .int x1), (2, .int x2), (3, .int x3), (4, .ref q4), (5, .int x5)]) (h : mm_X10_would_40 x1 x2 x3 x5 g4 τ = some res) : W p l e rm_X10_would s m args below meth c H locs 59 821 (MQ below (yy_Qi D κ ext A res) args s 117 1633 A) (F0 m 40 ls []) := by
  unfold mm_X10_would_40 at h
  refine yy_loop h (fun (w : Int32) (τ : yy_T) => ∀ (H : Heap) (locs : List Loc) (ls : Array Slot), yy_Z D κ ((q4, .inl (κ 0, 9, .inl g4)) :: ext) A s.heap τ H locs → lv_has ls 7 [(0, .ref (κ 4 + 112)), (1, .int x1), (2, .int x2), (3, .int x3), (4, .ref q4), (5, .int w)] → W p l e rm_X10_would s m args below meth c H locs 59 821 (MQ below (yy_Qi D κ ext A res) args s 117 1633 A) (F0 m 40 ls [])) ?_ H locs ls Z hl
  intro w τ y hy hI hX H locs ls Z hl
  refine ww_X10_would_40b C Z hl hy (fun w τ H locs ls ey Z hl => hI w τ ey H locs ls Z hl) (fun w τ H locs ls ey Z hl => ?_)
  · have h := hX _ _ ey
    exact ww_X10_would_81 C hr hlk Z (lv_sub hl [0, 1, 2, 3, 4] rfl) h
set_option maxHeartbeats 4000000 in
set_option maxRecDepth 100000 in
theorem ww_X10_would_E {x1 : Int32} {x2 : Int32} {x3 : Int32} {res : Int32 × yy_T} (C : yy_C D κ p m c cX10_would 7 s args RX10) (hr : meth.sig.returnType = (some .int)) (hlk : meth.locks = false) (Z : yy_Z D κ ext A s.heap τ H locs) (hl : lv_has ls 7 [(0, .ref (κ 4 + 112)), (1, .int x1), (2, .int x2), (3, .int x3)]) (h : mm_X10_would x1 x2 x3 τ = some res) : W p l e rm_X10_would s m args below meth c H locs 0 0 (MQ below (yy_Qi D κ ext A res) args s 117 1633 A) (F0 m 0 ls []) := by
  unfold mm_X10_would at h
  refine lv_aload_n C.1.1 C.1.2.1 dX10_would_0 rfl (lv_at hl 0 rfl) ?_
  refine lv_iconst (v := 0) C.1.1 C.1.2.1 dX10_would_1 (by decide) ?_
  refine yp_X10_0 C Z tw_792 dX10_would_2 h (fun H locs τ Z h => ?_)
  refine lv_aload_n C.1.1 C.1.2.1 dX10_would_5 rfl (lv_at hl 0 rfl) ?_
  refine lv_iload_n C.1.1 C.1.2.1 dX10_would_6 rfl (lv_at hl 1 rfl) ?_
  refine lv_iload_n C.1.1 C.1.2.1 dX10_would_7 rfl (lv_at hl 2 rfl) ?_
  refine yy_cVi0 (As := [.int x1, .int x2]) (rest := []) (id := 112) (ci := 10) (q := (RX10, TX10, 20)) C Z (ss_X10_isLine l D κ ext x1 x2) (by decide) (yy_ent_112 _) rfl tw_957 kw_X10_isLine ⟨⟨rfl, rfl⟩, ⟨Nat.le_of_ble_eq_true rfl, Nat.le_of_ble_eq_true rfl⟩, Nat.le_of_ble_eq_true rfl, Nat.le_of_ble_eq_true rfl⟩ hl.1 rfl (Nat.le_of_ble_eq_true rfl) dX10_would_8 h (fun r1 τ H locs Z h => ?_)
  refine yy_if_eq (tgt := 25) C dX10_would_11 (by decide) h (fun h => ?_) (fun h => ?_)
  · refine lv_iconst (v := (-1)) C.1.1 C.1.2.1 dX10_would_25 (by decide) ?_
    refine W.widen (k := 117) (n := 1633) (Nat.le_of_ble_eq_true rfl) (Nat.le_of_ble_eq_true rfl) ?_
    exact yy_iret C Z hr hlk rfl dX10_would_26 h
  · refine lv_aload_n C.1.1 C.1.2.1 dX10_would_14 rfl (lv_at hl 0 rfl) ?_
    refine lv_iconst (v := 1) C.1.1 C.1.2.1 dX10_would_15 (by decide) ?_
    refine lv_iload_n C.1.1 C.1.2.1 dX10_would_16 rfl (lv_at hl 1 rfl) ?_
    refine lv_isub C.1.1 C.1.2.1 dX10_would_17 ?_
    refine lv_iload_n C.1.1 C.1.2.1 dX10_would_18 rfl (lv_at hl 3 rfl) ?_
    refine yy_cVi0 (As := [.int (1 - x1), .int x3]) (rest := []) (id := 112) (ci := 10) (q := (RX10, TX10, 20)) C Z (ss_X10_isLine l D κ ext (1 - x1) x3) (by decide) (yy_ent_112 _) rfl tw_957 kw_X10_isLine ⟨⟨rfl, rfl⟩, ⟨Nat.le_of_ble_eq_true rfl, Nat.le_of_ble_eq_true rfl⟩, Nat.le_of_ble_eq_true rfl, Nat.le_of_ble_eq_true rfl⟩ hl.1 rfl (Nat.le_of_ble_eq_true rfl) dX10_would_19 h (fun r2 τ H locs Z h => ?_)
    refine yy_if_ne (tgt := 27) C dX10_would_22 (by decide) h (fun h => ?_) (fun h => ?_)
    · refine lv_aload_n C.1.1 C.1.2.1 dX10_would_27 rfl (lv_at hl 0 rfl) ?_
      refine yy_cVv (As := []) (rest := []) (id := 112) (ci := 10) (q := (RX10, TX10, 20)) C Z (ss_X10_laysAll l D κ ext ) (by decide) (yy_ent_112 _) rfl tw_894 kw_X10_laysAll ⟨⟨rfl, rfl⟩, ⟨Nat.le_of_ble_eq_true rfl, Nat.le_of_ble_eq_true rfl⟩, Nat.le_of_ble_eq_true rfl, Nat.le_of_ble_eq_true rfl⟩ hl.1 rfl (Nat.le_of_ble_eq_true rfl) dX10_would_28 h (fun τ H locs Z h => ?_)
      refine W.widen (k := 58) (n := 812) (Nat.le_refl _) (Nat.le_refl _) ?_
      refine lv_bipush (v := 9) C.1.1 C.1.2.1 dX10_would_31 (by decide) ?_
      refine yy_newI (N' := 9) C Z tw_123 (by decide) (by decide) (by decide) (Nat.le_of_ble_eq_true rfl) (Nat.le_of_ble_eq_true rfl) dX10_would_33 (fun q4 H Z => ?_)
      refine W.widen (k := 59) (n := 821) (Nat.le_refl _) (Nat.le_refl _) ?_
      refine lv_astore (lv' := [(4, .ref q4), (0, .ref (κ 4 + 112)), (1, .int x1), (2, .int x2), (3, .int x3)]) C.1.1 C.1.2.1 dX10_would_35 hl (by decide) rfl (fun ls hl => ?_)
      refine lv_iconst (v := 0) C.1.1 C.1.2.1 dX10_would_37 (by decide) ?_
      refine lv_istore (lv' := [(5, .int 0), (4, .ref q4), (0, .ref (κ 4 + 112)), (1, .int x1), (2, .int x2), (3, .int x3)]) C.1.1 C.1.2.1 dX10_would_38 hl (by decide) rfl (fun ls hl => ?_)
      exact ww_X10_would_40 C hr hlk Z (lv_sub hl [2, 3, 4, 5, 1, 0] rfl) h
    · refine lv_iconst (v := (-1)) C.1.1 C.1.2.1 dX10_would_25 (by decide) ?_
      refine W.widen (k := 117) (n := 1633) (Nat.le_of_ble_eq_true rfl) (Nat.le_of_ble_eq_true rfl) ?_
      exact yy_iret C Z hr hlk rfl dX10_would_26 h
set_option maxHeartbeats 4000000 in
set_option maxRecDepth 100000 in
theorem ss_X10_would (l : Launch) (D : va_G) (κ : Nat → Nat) (ext : va_W) (x1 : Int32) (x2 : Int32) (x3 : Int32) : yy_Mi l D κ ext yX10_would cX10_would 7 (some .int) rm_X10_would 117 1633 [.ref (κ 4 + 112), .int x1, .int x2, .int x3] (mm_X10_would x1 x2 x3) := by
  intro sz τ res h
  refine yy_ofW (by decide) (Nat.le_of_ble_eq_true rfl) ?_
  intro p e s m args below meth c ls hsz E
  obtain ⟨C, hr, hlk, Z, hl⟩ := E
  subst hsz
  exact ww_X10_would_E  C hr hlk Z hl h
/-! MovedLinesModel.most()I -/
noncomputable def mm_X10_most_137 (x2 : Int32) (x3 : Int32) (g1 : (Nat → Int32)) (s0 : Int32) (s1 : Int32) : yy_M ((Int32 × (Nat → Int32)) ⊕ (((Nat → Int32)))) :=
  yy_wL g1 225 s1 s0 fun g7 => yy_rt (.inl ((x3 + (-1)), g7))
noncomputable def mm_X10_most_135 (x2 : Int32) (x3 : Int32) (x4 : Int32) (g1 : (Nat → Int32)) (s0 : Int32) : yy_M ((Int32 × (Nat → Int32)) ⊕ (((Nat → Int32)))) :=
  mm_X10_most_137 x2 x3 g1 x4 s0
noncomputable def mm_X10_most_83 (x2 : Int32) (x3 : Int32) (g1 : (Nat → Int32)) (s0 : Int32) : yy_M ((Int32 × (Nat → Int32)) ⊕ (((Nat → Int32)))) :=
  yy_cl (mm_X10_areAlike_ x2 x3) (fun r6 => yy_br (r6 = 0) (mm_X10_most_135 x2 x3 s0 g1 ((15 * x2) + x3)) (yy_rL g1 225 (((15 * x2) + 16) + x3) fun v8 => yy_br ((v8 + 1) ≤ s0) (mm_X10_most_135 x2 x3 s0 g1 ((15 * x2) + x3)) (yy_rL g1 225 (((15 * x2) + 16) + x3) fun v9 => mm_X10_most_137 x2 x3 g1 (v9 + 1) ((15 * x2) + x3))))
noncomputable def mm_X10_most_31b (x2 : Int32) (x3 : Int32) (g1 : (Nat → Int32)) : yy_M ((Int32 × (Nat → Int32)) ⊕ (((Nat → Int32)))) :=
  yy_br (x3 < 0) (yy_rt (.inr g1)) (yy_rL g1 225 (((15 * x2) + 15) + x3) fun v3 => yy_rL g1 225 (((15 * x2) + x3) + 1) fun v4 => yy_br (v3 ≤ v4) (yy_rL g1 225 (((15 * x2) + x3) + 1) fun v5 => mm_X10_most_83 x2 x3 g1 v5) (yy_rL g1 225 (((15 * x2) + 15) + x3) fun v10 => mm_X10_most_83 x2 x3 g1 v10))
noncomputable def mm_X10_most_144 (x2 : Int32) (g1 : (Nat → Int32)) : yy_M ((Int32 × (Nat → Int32)) ⊕ (((Nat → Int32)))) :=
  yy_rt (.inl ((x2 + (-1)), g1))
noncomputable def mm_X10_most_31 (x2 : Int32) (x3 : Int32) (g1 : (Nat → Int32)) : yy_M ((Int32 × (Nat → Int32)) ⊕ (((Nat → Int32)))) :=
  yy_cl (yy_lp (fun (w : Int32 × (Nat → Int32)) => mm_X10_most_31b x2 w.1 w.2) (x3, g1)) (fun w => mm_X10_most_144 x2 w)
noncomputable def mm_X10_most_19b (x2 : Int32) (g1 : (Nat → Int32)) : yy_M ((Int32 × (Nat → Int32)) ⊕ (((Nat → Int32)))) :=
  yy_br (x2 < 0) (yy_rt (.inr g1)) (yy_cl (mm_X10_many 1) (fun r2 => mm_X10_most_31 x2 (r2 - 1) g1))
noncomputable def mm_X10_most_150 (g1 : (Nat → Int32)) : yy_M Int32 :=
  yy_rL g1 225 0 fun v11 => yy_rt v11
noncomputable def mm_X10_most_19 (x2 : Int32) (g1 : (Nat → Int32)) : yy_M Int32 :=
  yy_cl (yy_lp (fun (w : Int32 × (Nat → Int32)) => mm_X10_most_19b w.1 w.2) (x2, g1)) (fun w => mm_X10_most_150 w)
noncomputable def mm_X10_most : yy_M Int32 :=
  yy_wF 112 0 0 (yy_cl (mm_X10_many 0) (fun r1 => mm_X10_most_19 (r1 - 1) ((fun _ => 0))))
theorem kw_X10_most : yy_wV RX10 yX10_most cX10_most 5 (some .int) 0 := ⟨⟨tw_989, tw_990, tw_61, tw_991⟩, by decide +kernel⟩
abbrev rm_X10_most : Room := { frames := 4, cells := 1, slots := 225, locals := 92 }
set_option maxHeartbeats 4000000 in
set_option maxRecDepth 100000 in
theorem ww_X10_most_137 {x2 : Int32} {x3 : Int32} {g1 : (Nat → Int32)} {s0 : Int32} {s1 : Int32} {q1 : Nat} {res : ((Int32 × (Nat → Int32)) ⊕ (((Nat → Int32)))) × yy_T} {Q : State → Prop} (C : yy_C D κ p m c cX10_most 5 s args RX10) (Z : yy_Z D κ ((q1, .inl (κ 0, 225, .inl g1)) :: ext) A s.heap τ H locs) (hl : lv_has ls 5 [(0, .ref (κ 4 + 112)), (1, .ref q1), (2, .int x2), (3, .int x3)]) (h : mm_X10_most_137 x2 x3 g1 s0 s1 τ = some res)
    (kI : ∀ (w : Int32 × (Nat → Int32)) (τ1 : yy_T) (H1 : Heap) (locs1 : List Loc) (ls1 : Array Slot), res = (.inl w, τ1) → yy_Z D κ ((q1, .inl (κ 0, 225, .inl w.2)) :: ext) A s.heap τ1 H1 locs1 → lv_has ls1 5 [(0, .ref (κ 4 + 112)), (1, .ref q1), (2, .int x2), (3, .int w.1)] → W p l e rm_X10_most s m args below meth c H1 locs1 1 225 Q (F0 m 31 ls1 [])) : W p l e rm_X10_most s m args below meth c H locs 1 225 Q (F0 m 137 ls [.int s0, .int s1, .ref q1]) := by
  unfold mm_X10_most_137 at h
  refine yy_tast C Z 0 rfl dX10_most_137 h (fun g7 H locs Z h => ?_)
  have Z : yy_Z D κ ((q1, .inl (κ 0, 225, .inl g7)) :: ext) A s.heap τ H locs := Z
  refine lv_iinc (v := x3 + (-1)) (lv' := [(3, .int (x3 + (-1))), (0, .ref (κ 4 + 112)), (1, .ref q1), (2, .int x2)]) C.1.1 C.1.2.1 dX10_most_138 hl (k := 3) rfl (by rfl) (by decide) rfl (fun ls hl => ?_)
  refine lv_goto (tgt := 31) C.1.1 C.1.2.1 dX10_most_141 (by decide) ?_
  exact kI _ _ _ _ _ (yy_rt_of h) Z (lv_sub hl [1, 2, 3, 0] rfl)
set_option maxHeartbeats 4000000 in
set_option maxRecDepth 100000 in
theorem ww_X10_most_135 {x2 : Int32} {x3 : Int32} {x4 : Int32} {g1 : (Nat → Int32)} {s0 : Int32} {q1 : Nat} {res : ((Int32 × (Nat → Int32)) ⊕ (((Nat → Int32)))) × yy_T} {Q : State → Prop} (C : yy_C D κ p m c cX10_most 5 s args RX10) (Z : yy_Z D κ ((q1, .inl (κ 0, 225, .inl g1)) :: ext) A s.heap τ H locs) (hl : lv_has ls 5 [(0, .ref (κ 4 + 112)), (1, .ref q1), (2, .int x2), (3, .int x3), (4, .int x4)]) (h : mm_X10_most_135 x2 x3 x4 g1 s0 τ = some res)
    (kI : ∀ (w : Int32 × (Nat → Int32)) (τ1 : yy_T) (H1 : Heap) (locs1 : List Loc) (ls1 : Array Slot), res = (.inl w, τ1) → yy_Z D κ ((q1, .inl (κ 0, 225, .inl w.2)) :: ext) A s.heap τ1 H1 locs1 → lv_has ls1 5 [(0, .ref (κ 4 + 112)), (1, .ref q1), (2, .int x2), (3, .int w.1)] → W p l e rm_X10_most s m args below meth c H1 locs1 1 225 Q (F0 m 31 ls1 [])) : W p l e rm_X10_most s m args below meth c H locs 1 225 Q (F0 m 135 ls [.int s0, .ref q1]) := by
  unfold mm_X10_most_135 at h
  refine lv_iload C.1.1 C.1.2.1 dX10_most_135 (lv_at hl 4 rfl) ?_
  exact ww_X10_most_137 C Z (lv_sub hl [0, 1, 2, 3] rfl) h kI
set_option maxHeartbeats 4000000 in
set_option maxRecDepth 100000 in
theorem ww_X10_most_83 {x2 : Int32} {x3 : Int32} {g1 : (Nat → Int32)} {s0 : Int32} {q1 : Nat} {res : ((Int32 × (Nat → Int32)) ⊕ (((Nat → Int32)))) × yy_T} {Q : State → Prop} (C : yy_C D κ p m c cX10_most 5 s args RX10) (Z : yy_Z D κ ((q1, .inl (κ 0, 225, .inl g1)) :: ext) A s.heap τ H locs) (hl : lv_has ls 5 [(0, .ref (κ 4 + 112)), (1, .ref q1), (2, .int x2), (3, .int x3)]) (h : mm_X10_most_83 x2 x3 g1 s0 τ = some res)
    (kI : ∀ (w : Int32 × (Nat → Int32)) (τ1 : yy_T) (H1 : Heap) (locs1 : List Loc) (ls1 : Array Slot), res = (.inl w, τ1) → yy_Z D κ ((q1, .inl (κ 0, 225, .inl w.2)) :: ext) A s.heap τ1 H1 locs1 → lv_has ls1 5 [(0, .ref (κ 4 + 112)), (1, .ref q1), (2, .int x2), (3, .int w.1)] → W p l e rm_X10_most s m args below meth c H1 locs1 1 225 Q (F0 m 31 ls1 [])) : W p l e rm_X10_most s m args below meth c H locs 1 225 Q (F0 m 83 ls [.int s0]) := by
  unfold mm_X10_most_83 at h
  refine lv_istore (lv' := [(4, .int s0), (0, .ref (κ 4 + 112)), (1, .ref q1), (2, .int x2), (3, .int x3)]) C.1.1 C.1.2.1 dX10_most_83 hl (by decide) rfl (fun ls hl => ?_)
  refine lv_aload_n C.1.1 C.1.2.1 dX10_most_85 rfl (lv_at hl 2 rfl) ?_
  refine lv_bipush (v := 15) C.1.1 C.1.2.1 dX10_most_86 (by decide) ?_
  refine lv_iload_n C.1.1 C.1.2.1 dX10_most_88 rfl (lv_at hl 3 rfl) ?_
  refine lv_imul C.1.1 C.1.2.1 dX10_most_89 ?_
  refine lv_iload_n C.1.1 C.1.2.1 dX10_most_90 rfl (lv_at hl 4 rfl) ?_
  refine lv_iadd C.1.1 C.1.2.1 dX10_most_91 ?_
  refine lv_aload_n C.1.1 C.1.2.1 dX10_most_92 rfl (lv_at hl 1 rfl) ?_
  refine lv_iload_n C.1.1 C.1.2.1 dX10_most_93 rfl (lv_at hl 3 rfl) ?_
  refine lv_iload_n C.1.1 C.1.2.1 dX10_most_94 rfl (lv_at hl 4 rfl) ?_
  refine yy_cVi0 (As := [.int x2, .int x3]) (rest := [.int ((15 * x2) + x3), .ref q1]) (id := 112) (ci := 10) (q := (RX10, TX10, 20)) C Z (ss_X10_areAlike_ l D κ ((q1, .inl (κ 0, 225, .inl g1)) :: ext) x2 x3) (by decide) (yy_ent_112 _) rfl tw_902 kw_X10_areAlike_ ⟨⟨rfl, rfl⟩, ⟨Nat.le_of_ble_eq_true rfl, Nat.le_of_ble_eq_true rfl⟩, Nat.le_of_ble_eq_true rfl, Nat.le_of_ble_eq_true rfl⟩ hl.1 rfl (Nat.le_of_ble_eq_true rfl) dX10_most_95 h (fun r6 τ H locs Z h => ?_)
  refine yy_if_eq (tgt := 135) C dX10_most_98 (by decide) h (fun h => ?_) (fun h => ?_)
  · exact ww_X10_most_135 C Z (lv_sub hl [1, 2, 3, 4, 0] rfl) h kI
  · refine lv_aload_n C.1.1 C.1.2.1 dX10_most_101 rfl (lv_at hl 2 rfl) ?_
    refine lv_bipush (v := 15) C.1.1 C.1.2.1 dX10_most_102 (by decide) ?_
    refine lv_iload_n C.1.1 C.1.2.1 dX10_most_104 rfl (lv_at hl 3 rfl) ?_
    refine lv_imul C.1.1 C.1.2.1 dX10_most_105 ?_
    refine lv_bipush (v := 16) C.1.1 C.1.2.1 dX10_most_106 (by decide) ?_
    refine lv_iadd C.1.1 C.1.2.1 dX10_most_108 ?_
    refine lv_iload_n C.1.1 C.1.2.1 dX10_most_109 rfl (lv_at hl 4 rfl) ?_
    refine lv_iadd C.1.1 C.1.2.1 dX10_most_110 ?_
    refine yy_tald C Z 0 rfl dX10_most_111 h (fun v8 h => ?_)
    refine lv_iconst (v := 1) C.1.1 C.1.2.1 dX10_most_112 (by decide) ?_
    refine lv_iadd C.1.1 C.1.2.1 dX10_most_113 ?_
    refine lv_iload C.1.1 C.1.2.1 dX10_most_114 (lv_at hl 0 rfl) ?_
    refine yy_icmp_le (tgt := 135) C dX10_most_116 (by decide) h (fun h => ?_) (fun h => ?_)
    · exact ww_X10_most_135 C Z (lv_sub hl [1, 2, 3, 4, 0] rfl) h kI
    · refine lv_aload_n C.1.1 C.1.2.1 dX10_most_119 rfl (lv_at hl 2 rfl) ?_
      refine lv_bipush (v := 15) C.1.1 C.1.2.1 dX10_most_120 (by decide) ?_
      refine lv_iload_n C.1.1 C.1.2.1 dX10_most_122 rfl (lv_at hl 3 rfl) ?_
      refine lv_imul C.1.1 C.1.2.1 dX10_most_123 ?_
      refine lv_bipush (v := 16) C.1.1 C.1.2.1 dX10_most_124 (by decide) ?_
      refine lv_iadd C.1.1 C.1.2.1 dX10_most_126 ?_
      refine lv_iload_n C.1.1 C.1.2.1 dX10_most_127 rfl (lv_at hl 4 rfl) ?_
      refine lv_iadd C.1.1 C.1.2.1 dX10_most_128 ?_
      refine yy_tald C Z 0 rfl dX10_most_129 h (fun v9 h => ?_)
      refine lv_iconst (v := 1) C.1.1 C.1.2.1 dX10_most_130 (by decide) ?_
      refine lv_iadd C.1.1 C.1.2.1 dX10_most_131 ?_
      refine lv_goto (tgt := 137) C.1.1 C.1.2.1 dX10_most_132 (by decide) ?_
      exact ww_X10_most_137 C Z (lv_sub hl [1, 2, 3, 4] rfl) h kI
set_option maxHeartbeats 4000000 in
set_option maxRecDepth 100000 in
theorem ww_X10_most_31b {x2 : Int32} {x3 : Int32} {g1 : (Nat → Int32)} {q1 : Nat} {res : ((Int32 × (Nat → Int32)) ⊕ (((Nat → Int32)))) × yy_T} {Q : State → Prop} (C : yy_C D κ p m c cX10_most 5 s args RX10) (Z : yy_Z D κ ((q1, .inl (κ 0, 225, .inl g1)) :: ext) A s.heap τ H locs) (hl : lv_has ls 5 [(0, .ref (κ 4 + 112)), (1, .ref q1), (2, .int x2), (3, .int x3)]) (h : mm_X10_most_31b x2 x3 g1 τ = some res)
    (kI : ∀ (w : Int32 × (Nat → Int32)) (τ1 : yy_T) (H1 : Heap) (locs1 : List Loc) (ls1 : Array Slot), res = (.inl w, τ1) → yy_Z D κ ((q1, .inl (κ 0, 225, .inl w.2)) :: ext) A s.heap τ1 H1 locs1 → lv_has ls1 5 [(0, .ref (κ 4 + 112)), (1, .ref q1), (2, .int x2), (3, .int w.1)] → W p l e rm_X10_most s m args below meth c H1 locs1 1 225 Q (F0 m 31 ls1 []))
    (kR0 : ∀ (w : (Nat → Int32)) (τ1 : yy_T) (H1 : Heap) (locs1 : List Loc) (ls1 : Array Slot), res = (.inr w, τ1) → yy_Z D κ ((q1, .inl (κ 0, 225, .inl w)) :: ext) A s.heap τ1 H1 locs1 → lv_has ls1 5 [(0, .ref (κ 4 + 112)), (1, .ref q1), (2, .int x2)] → W p l e rm_X10_most s m args below meth c H1 locs1 1 225 Q (F0 m 144 ls1 [])) : W p l e rm_X10_most s m args below meth c H locs 1 225 Q (F0 m 31 ls []) := by
  unfold mm_X10_most_31b at h
  refine lv_iload_n C.1.1 C.1.2.1 dX10_most_31 rfl (lv_at hl 3 rfl) ?_
  refine yy_if_lt (tgt := 144) C dX10_most_32 (by decide) h (fun h => ?_) (fun h => ?_)
  · exact kR0 _ _ _ _ _ (yy_rt_of h) Z (lv_sub hl [0, 1, 2] rfl)
  · refine lv_aload_n C.1.1 C.1.2.1 dX10_most_35 rfl (lv_at hl 1 rfl) ?_
    refine lv_bipush (v := 15) C.1.1 C.1.2.1 dX10_most_36 (by decide) ?_
    refine lv_iload_n C.1.1 C.1.2.1 dX10_most_38 rfl (lv_at hl 2 rfl) ?_
    refine lv_imul C.1.1 C.1.2.1 dX10_most_39 ?_
    refine lv_bipush (v := 15) C.1.1 C.1.2.1 dX10_most_40 (by decide) ?_
    refine lv_iadd C.1.1 C.1.2.1 dX10_most_42 ?_
    refine lv_iload_n C.1.1 C.1.2.1 dX10_most_43 rfl (lv_at hl 3 rfl) ?_
    refine lv_iadd C.1.1 C.1.2.1 dX10_most_44 ?_
    refine yy_tald C Z 0 rfl dX10_most_45 h (fun v3 h => ?_)
    refine lv_aload_n C.1.1 C.1.2.1 dX10_most_46 rfl (lv_at hl 1 rfl) ?_
    refine lv_bipush (v := 15) C.1.1 C.1.2.1 dX10_most_47 (by decide) ?_
    refine lv_iload_n C.1.1 C.1.2.1 dX10_most_49 rfl (lv_at hl 2 rfl) ?_
    refine lv_imul C.1.1 C.1.2.1 dX10_most_50 ?_
    refine lv_iload_n C.1.1 C.1.2.1 dX10_most_51 rfl (lv_at hl 3 rfl) ?_
    refine lv_iadd C.1.1 C.1.2.1 dX10_most_52 ?_
    refine lv_iconst (v := 1) C.1.1 C.1.2.1 dX10_most_53 (by decide) ?_
    refine lv_iadd C.1.1 C.1.2.1 dX10_most_54 ?_
    refine yy_tald C Z 0 rfl dX10_most_55 h (fun v4 h => ?_)
    refine yy_icmp_le (tgt := 73) C dX10_most_56 (by decide) h (fun h => ?_) (fun h => ?_)
    · refine lv_aload_n C.1.1 C.1.2.1 dX10_most_73 rfl (lv_at hl 1 rfl) ?_
      refine lv_bipush (v := 15) C.1.1 C.1.2.1 dX10_most_74 (by decide) ?_
      refine lv_iload_n C.1.1 C.1.2.1 dX10_most_76 rfl (lv_at hl 2 rfl) ?_
      refine lv_imul C.1.1 C.1.2.1 dX10_most_77 ?_
      refine lv_iload_n C.1.1 C.1.2.1 dX10_most_78 rfl (lv_at hl 3 rfl) ?_
      refine lv_iadd C.1.1 C.1.2.1 dX10_most_79 ?_
      refine lv_iconst (v := 1) C.1.1 C.1.2.1 dX10_most_80 (by decide) ?_
      refine lv_iadd C.1.1 C.1.2.1 dX10_most_81 ?_
      refine yy_tald C Z 0 rfl dX10_most_82 h (fun v5 h => ?_)
      exact ww_X10_most_83 C Z (lv_sub hl [0, 1, 2, 3] rfl) h kI
    · refine lv_aload_n C.1.1 C.1.2.1 dX10_most_59 rfl (lv_at hl 1 rfl) ?_
      refine lv_bipush (v := 15) C.1.1 C.1.2.1 dX10_most_60 (by decide) ?_
      refine lv_iload_n C.1.1 C.1.2.1 dX10_most_62 rfl (lv_at hl 2 rfl) ?_
      refine lv_imul C.1.1 C.1.2.1 dX10_most_63 ?_
      refine lv_bipush (v := 15) C.1.1 C.1.2.1 dX10_most_64 (by decide) ?_
      refine lv_iadd C.1.1 C.1.2.1 dX10_most_66 ?_
      refine lv_iload_n C.1.1 C.1.2.1 dX10_most_67 rfl (lv_at hl 3 rfl) ?_
      refine lv_iadd C.1.1 C.1.2.1 dX10_most_68 ?_
      refine yy_tald C Z 0 rfl dX10_most_69 h (fun v10 h => ?_)
      refine lv_goto (tgt := 83) C.1.1 C.1.2.1 dX10_most_70 (by decide) ?_
      exact ww_X10_most_83 C Z (lv_sub hl [0, 1, 2, 3] rfl) h kI
set_option maxHeartbeats 4000000 in
set_option maxRecDepth 100000 in
theorem ww_X10_most_144 {x2 : Int32} {g1 : (Nat → Int32)} {q1 : Nat} {res : ((Int32 × (Nat → Int32)) ⊕ (((Nat → Int32)))) × yy_T} {Q : State → Prop} (C : yy_C D κ p m c cX10_most 5 s args RX10) (Z : yy_Z D κ ((q1, .inl (κ 0, 225, .inl g1)) :: ext) A s.heap τ H locs) (hl : lv_has ls 5 [(0, .ref (κ 4 + 112)), (1, .ref q1), (2, .int x2)]) (h : mm_X10_most_144 x2 g1 τ = some res)
    (kI : ∀ (w : Int32 × (Nat → Int32)) (τ1 : yy_T) (H1 : Heap) (locs1 : List Loc) (ls1 : Array Slot), res = (.inl w, τ1) → yy_Z D κ ((q1, .inl (κ 0, 225, .inl w.2)) :: ext) A s.heap τ1 H1 locs1 → lv_has ls1 5 [(0, .ref (κ 4 + 112)), (1, .ref q1), (2, .int w.1)] → W p l e rm_X10_most s m args below meth c H1 locs1 1 225 Q (F0 m 19 ls1 [])) : W p l e rm_X10_most s m args below meth c H locs 1 225 Q (F0 m 144 ls []) := by
  unfold mm_X10_most_144 at h
  refine lv_iinc (v := x2 + (-1)) (lv' := [(2, .int (x2 + (-1))), (0, .ref (κ 4 + 112)), (1, .ref q1)]) C.1.1 C.1.2.1 dX10_most_144 hl (k := 2) rfl (by rfl) (by decide) rfl (fun ls hl => ?_)
  refine lv_goto (tgt := 19) C.1.1 C.1.2.1 dX10_most_147 (by decide) ?_
  exact kI _ _ _ _ _ (yy_rt_of h) Z (lv_sub hl [1, 2, 0] rfl)
set_option maxHeartbeats 4000000 in
set_option maxRecDepth 100000 in
theorem ww_X10_most_31 {x2 : Int32} {x3 : Int32} {g1 : (Nat → Int32)} {q1 : Nat} {res : ((Int32 × (Nat → Int32)) ⊕ (((Nat → Int32)))) × yy_T} {Q : State → Prop} (C : yy_C D κ p m c cX10_most 5 s args RX10) (Z : yy_Z D κ ((q1, .inl (κ 0, 225, .inl g1)) :: ext) A s.heap τ H locs) (hl : lv_has ls 5 [(0, .ref (κ 4 + 112)), (1, .ref q1), (2, .int x2), (3, .int x3)]) (h : mm_X10_most_31 x2 x3 g1 τ = some res)
    (kI : ∀ (w : Int32 × (Nat → Int32)) (τ1 : yy_T) (H1 : Heap) (locs1 : List Loc) (ls1 : Array Slot), res = (.inl w, τ1) → yy_Z D κ ((q1, .inl (κ 0, 225, .inl w.2)) :: ext) A s.heap τ1 H1 locs1 → lv_has ls1 5 [(0, .ref (κ 4 + 112)), (1, .ref q1), (2, .int w.1)] → W p l e rm_X10_most s m args below meth c H1 locs1 1 225 Q (F0 m 19 ls1 [])) : W p l e rm_X10_most s m args below meth c H locs 1 225 Q (F0 m 31 ls []) := by
  unfold mm_X10_most_31 at h
  refine yy_loop h (fun (w : Int32 × (Nat → Int32)) (τ : yy_T) => ∀ (H : Heap) (locs : List Loc) (ls : Array Slot), yy_Z D κ ((q1, .inl (κ 0, 225, .inl w.2)) :: ext) A s.heap τ H locs → lv_has ls 5 [(0, .ref (κ 4 + 112)), (1, .ref q1), (2, .int x2), (3, .int w.1)] → W p l e rm_X10_most s m args below meth c H locs 1 225 Q (F0 m 31 ls [])) ?_ H locs ls Z hl
  intro w τ y hy hI hX H locs ls Z hl
  refine ww_X10_most_31b C Z hl hy (fun w τ H locs ls ey Z hl => hI w τ ey H locs ls Z hl) (fun w τ H locs ls ey Z hl => ?_)
  · have h := hX _ _ ey
    exact ww_X10_most_144 C Z (lv_sub hl [0, 1, 2] rfl) h kI
set_option maxHeartbeats 4000000 in
set_option maxRecDepth 100000 in
theorem ww_X10_most_19b {x2 : Int32} {g1 : (Nat → Int32)} {q1 : Nat} {res : ((Int32 × (Nat → Int32)) ⊕ (((Nat → Int32)))) × yy_T} {Q : State → Prop} (C : yy_C D κ p m c cX10_most 5 s args RX10) (Z : yy_Z D κ ((q1, .inl (κ 0, 225, .inl g1)) :: ext) A s.heap τ H locs) (hl : lv_has ls 5 [(0, .ref (κ 4 + 112)), (1, .ref q1), (2, .int x2)]) (h : mm_X10_most_19b x2 g1 τ = some res)
    (kI : ∀ (w : Int32 × (Nat → Int32)) (τ1 : yy_T) (H1 : Heap) (locs1 : List Loc) (ls1 : Array Slot), res = (.inl w, τ1) → yy_Z D κ ((q1, .inl (κ 0, 225, .inl w.2)) :: ext) A s.heap τ1 H1 locs1 → lv_has ls1 5 [(0, .ref (κ 4 + 112)), (1, .ref q1), (2, .int w.1)] → W p l e rm_X10_most s m args below meth c H1 locs1 1 225 Q (F0 m 19 ls1 []))
    (kR0 : ∀ (w : (Nat → Int32)) (τ1 : yy_T) (H1 : Heap) (locs1 : List Loc) (ls1 : Array Slot), res = (.inr w, τ1) → yy_Z D κ ((q1, .inl (κ 0, 225, .inl w)) :: ext) A s.heap τ1 H1 locs1 → lv_has ls1 5 [(1, .ref q1)] → W p l e rm_X10_most s m args below meth c H1 locs1 1 225 Q (F0 m 150 ls1 [])) : W p l e rm_X10_most s m args below meth c H locs 1 225 Q (F0 m 19 ls []) := by
  unfold mm_X10_most_19b at h
  refine lv_iload_n C.1.1 C.1.2.1 dX10_most_19 rfl (lv_at hl 2 rfl) ?_
  refine yy_if_lt (tgt := 150) C dX10_most_20 (by decide) h (fun h => ?_) (fun h => ?_)
  · exact kR0 _ _ _ _ _ (yy_rt_of h) Z (lv_sub hl [1] rfl)
  · refine lv_aload_n C.1.1 C.1.2.1 dX10_most_23 rfl (lv_at hl 0 rfl) ?_
    refine lv_iconst (v := 1) C.1.1 C.1.2.1 dX10_most_24 (by decide) ?_
    refine yy_cVi0 (As := [.int 1]) (rest := []) (id := 112) (ci := 10) (q := (RX10, TX10, 20)) C Z (ss_X10_many l D κ ((q1, .inl (κ 0, 225, .inl g1)) :: ext) 1) (by decide) (yy_ent_112 _) rfl tw_882 kw_X10_many ⟨⟨rfl, rfl⟩, ⟨Nat.le_of_ble_eq_true rfl, Nat.le_of_ble_eq_true rfl⟩, Nat.le_of_ble_eq_true rfl, Nat.le_of_ble_eq_true rfl⟩ hl.1 rfl (Nat.le_of_ble_eq_true rfl) dX10_most_25 h (fun r2 τ H locs Z h => ?_)
    refine lv_iconst (v := 1) C.1.1 C.1.2.1 dX10_most_28 (by decide) ?_
    refine lv_isub C.1.1 C.1.2.1 dX10_most_29 ?_
    refine lv_istore_n (lv' := [(3, .int (r2 - 1)), (0, .ref (κ 4 + 112)), (1, .ref q1), (2, .int x2)]) C.1.1 C.1.2.1 dX10_most_30 rfl hl (by decide) rfl (fun ls hl => ?_)
    exact ww_X10_most_31 C Z (lv_sub hl [1, 2, 3, 0] rfl) h kI
set_option maxHeartbeats 4000000 in
set_option maxRecDepth 100000 in
theorem ww_X10_most_150 {g1 : (Nat → Int32)} {q1 : Nat} {res : Int32 × yy_T} (C : yy_C D κ p m c cX10_most 5 s args RX10) (hr : meth.sig.returnType = (some .int)) (hlk : meth.locks = false) (Z : yy_Z D κ ((q1, .inl (κ 0, 225, .inl g1)) :: ext) A s.heap τ H locs) (hl : lv_has ls 5 [(1, .ref q1)]) (h : mm_X10_most_150 g1 τ = some res) : W p l e rm_X10_most s m args below meth c H locs 1 225 (MQ below (yy_Qi D κ ext A res) args s 1 225 A) (F0 m 150 ls []) := by
  unfold mm_X10_most_150 at h
  refine lv_aload_n C.1.1 C.1.2.1 dX10_most_150 rfl (lv_at hl 0 rfl) ?_
  refine lv_iconst (v := 0) C.1.1 C.1.2.1 dX10_most_151 (by decide) ?_
  refine yy_tald C Z 0 rfl dX10_most_152 h (fun v11 h => ?_)
  have Z := Z.tail
  exact yy_iret C Z hr hlk rfl dX10_most_153 h
set_option maxHeartbeats 4000000 in
set_option maxRecDepth 100000 in
theorem ww_X10_most_19 {x2 : Int32} {g1 : (Nat → Int32)} {q1 : Nat} {res : Int32 × yy_T} (C : yy_C D κ p m c cX10_most 5 s args RX10) (hr : meth.sig.returnType = (some .int)) (hlk : meth.locks = false) (Z : yy_Z D κ ((q1, .inl (κ 0, 225, .inl g1)) :: ext) A s.heap τ H locs) (hl : lv_has ls 5 [(0, .ref (κ 4 + 112)), (1, .ref q1), (2, .int x2)]) (h : mm_X10_most_19 x2 g1 τ = some res) : W p l e rm_X10_most s m args below meth c H locs 1 225 (MQ below (yy_Qi D κ ext A res) args s 1 225 A) (F0 m 19 ls []) := by
  unfold mm_X10_most_19 at h
  refine yy_loop h (fun (w : Int32 × (Nat → Int32)) (τ : yy_T) => ∀ (H : Heap) (locs : List Loc) (ls : Array Slot), yy_Z D κ ((q1, .inl (κ 0, 225, .inl w.2)) :: ext) A s.heap τ H locs → lv_has ls 5 [(0, .ref (κ 4 + 112)), (1, .ref q1), (2, .int w.1)] → W p l e rm_X10_most s m args below meth c H locs 1 225 (MQ below (yy_Qi D κ ext A res) args s 1 225 A) (F0 m 19 ls [])) ?_ H locs ls Z hl
  intro w τ y hy hI hX H locs ls Z hl
  refine ww_X10_most_19b C Z hl hy (fun w τ H locs ls ey Z hl => hI w τ ey H locs ls Z hl) (fun w τ H locs ls ey Z hl => ?_)
  · have h := hX _ _ ey
    exact ww_X10_most_150 C hr hlk Z (lv_sub hl [0] rfl) h
set_option maxHeartbeats 4000000 in
set_option maxRecDepth 100000 in
theorem ww_X10_most_E {res : Int32 × yy_T} (C : yy_C D κ p m c cX10_most 5 s args RX10) (hr : meth.sig.returnType = (some .int)) (hlk : meth.locks = false) (Z : yy_Z D κ ext A s.heap τ H locs) (hl : lv_has ls 5 [(0, .ref (κ 4 + 112))]) (h : mm_X10_most  τ = some res) : W p l e rm_X10_most s m args below meth c H locs 0 0 (MQ below (yy_Qi D κ ext A res) args s 1 225 A) (F0 m 0 ls []) := by
  unfold mm_X10_most at h
  refine lv_aload_n C.1.1 C.1.2.1 dX10_most_0 rfl (lv_at hl 0 rfl) ?_
  refine lv_iconst (v := 0) C.1.1 C.1.2.1 dX10_most_1 (by decide) ?_
  refine yp_X10_0 C Z tw_792 dX10_most_2 h (fun H locs τ Z h => ?_)
  refine lv_sipush (v := 225) C.1.1 C.1.2.1 dX10_most_5 (by decide) ?_
  refine yy_newI (N' := 225) C Z tw_123 (by decide) (by decide) (by decide) (Nat.le_of_ble_eq_true rfl) (Nat.le_of_ble_eq_true rfl) dX10_most_8 (fun q1 H Z => ?_)
  refine W.widen (k := 1) (n := 225) (Nat.le_refl _) (Nat.le_refl _) ?_
  refine lv_astore_n (lv' := [(1, .ref q1), (0, .ref (κ 4 + 112))]) C.1.1 C.1.2.1 dX10_most_10 rfl hl (by decide) rfl (fun ls hl => ?_)
  refine lv_aload_n C.1.1 C.1.2.1 dX10_most_11 rfl (lv_at hl 1 rfl) ?_
  refine lv_iconst (v := 0) C.1.1 C.1.2.1 dX10_most_12 (by decide) ?_
  refine yy_cVi0 (As := [.int 0]) (rest := []) (id := 112) (ci := 10) (q := (RX10, TX10, 20)) C Z (ss_X10_many l D κ ((q1, .inl (κ 0, 225, .inl (fun _ => 0))) :: ext) 0) (by decide) (yy_ent_112 _) rfl tw_882 kw_X10_many ⟨⟨rfl, rfl⟩, ⟨Nat.le_of_ble_eq_true rfl, Nat.le_of_ble_eq_true rfl⟩, Nat.le_of_ble_eq_true rfl, Nat.le_of_ble_eq_true rfl⟩ hl.1 rfl (Nat.le_of_ble_eq_true rfl) dX10_most_13 h (fun r1 τ H locs Z h => ?_)
  refine lv_iconst (v := 1) C.1.1 C.1.2.1 dX10_most_16 (by decide) ?_
  refine lv_isub C.1.1 C.1.2.1 dX10_most_17 ?_
  refine lv_istore_n (lv' := [(2, .int (r1 - 1)), (1, .ref q1), (0, .ref (κ 4 + 112))]) C.1.1 C.1.2.1 dX10_most_18 rfl hl (by decide) rfl (fun ls hl => ?_)
  exact ww_X10_most_19 C hr hlk Z (lv_sub hl [2, 1, 0] rfl) h
set_option maxHeartbeats 4000000 in
set_option maxRecDepth 100000 in
theorem ss_X10_most (l : Launch) (D : va_G) (κ : Nat → Nat) (ext : va_W) : yy_Mi l D κ ext yX10_most cX10_most 5 (some .int) rm_X10_most 1 225 [.ref (κ 4 + 112)] (mm_X10_most ) := by
  intro sz τ res h
  refine yy_ofW (by decide) (Nat.le_of_ble_eq_true rfl) ?_
  intro p e s m args below meth c ls hsz E
  obtain ⟨C, hr, hlk, Z, hl⟩ := E
  subst hsz
  exact ww_X10_most_E  C hr hlk Z hl h
/-! MovedLinesModel.move(IIII)Z -/
noncomputable def mm_X10_move_61b (x1 : Int32) (x2 : Int32) (x3 : Int32) (x4 : Int32) (x6 : Int32) (g5 : (Nat → Int32)) : yy_M ((Int32 × (Nat → Int32)) ⊕ (((Nat → Int32)))) :=
  yy_br ((9 * x3) ≤ x6) (yy_rt (.inr g5)) (yy_cl (mm_X10_lineAt x1 x2) (fun r5 => yy_rA 114 254 (r5 + x6) fun v6 => yy_wL g5 126 x6 v6 fun g7 => yy_rt (.inl ((x6 + 1), g7))))
noncomputable def mm_X10_move_97b (x1 : Int32) (x2 : Int32) (x3 : Int32) (x4 : Int32) (x6 : Int32) (g5 : (Nat → Int32)) : yy_M ((Int32) ⊕ ((Unit))) :=
  yy_br (x3 ≤ x6) (yy_rt (.inr ())) (yy_cl (mm_X10_closes x1 x2) (fun _ => yy_rt (.inl (x6 + 1))))
noncomputable def mm_X10_move_137b (x1 : Int32) (x3 : Int32) (x4 : Int32) (x6 : Int32) (x7 : Int32) (g5 : (Nat → Int32)) : yy_M ((Int32) ⊕ ((Unit))) :=
  yy_br (9 ≤ x7) (yy_rt (.inr ())) (yy_cl (mm_X10_lineAt x1 (x4 + x6)) (fun r8 => yy_rL g5 126 ((9 * x6) + x7) fun v9 => yy_wA 114 254 (r8 + x7) v9 (yy_rt (.inl (x7 + 1)))))
noncomputable def mm_X10_move_178 (x1 : Int32) (x3 : Int32) (x4 : Int32) (x6 : Int32) (g5 : (Nat → Int32)) : yy_M ((Int32) ⊕ ((Unit))) :=
  yy_rt (.inl (x6 + 1))
noncomputable def mm_X10_move_137 (x1 : Int32) (x3 : Int32) (x4 : Int32) (x6 : Int32) (x7 : Int32) (g5 : (Nat → Int32)) : yy_M ((Int32) ⊕ ((Unit))) :=
  yy_cl (yy_lp (fun (w : Int32) => mm_X10_move_137b x1 x3 x4 x6 w g5) x7) (fun w => mm_X10_move_178 x1 x3 x4 x6 g5)
noncomputable def mm_X10_move_118b (x1 : Int32) (x3 : Int32) (x4 : Int32) (x6 : Int32) (g5 : (Nat → Int32)) : yy_M ((Int32) ⊕ ((Unit))) :=
  yy_br (x3 ≤ x6) (yy_rt (.inr ())) (yy_cl (mm_X10_opens x1 (x4 + x6)) (fun _ => mm_X10_move_137 x1 x3 x4 x6 0 g5))
noncomputable def mm_X10_move_184 : yy_M Int32 :=
  yy_rt 1
noncomputable def mm_X10_move_118 (x1 : Int32) (x3 : Int32) (x4 : Int32) (x6 : Int32) (g5 : (Nat → Int32)) : yy_M Int32 :=
  yy_cl (yy_lp (fun (w : Int32) => mm_X10_move_118b x1 x3 x4 w g5) x6) (fun w => mm_X10_move_184 )
noncomputable def mm_X10_move_115 (x1 : Int32) (x3 : Int32) (x4 : Int32) (g5 : (Nat → Int32)) : yy_M Int32 :=
  mm_X10_move_118 x1 x3 x4 0 g5
noncomputable def mm_X10_move_97 (x1 : Int32) (x2 : Int32) (x3 : Int32) (x4 : Int32) (x6 : Int32) (g5 : (Nat → Int32)) : yy_M Int32 :=
  yy_cl (yy_lp (fun (w : Int32) => mm_X10_move_97b x1 x2 x3 x4 w g5) x6) (fun w => mm_X10_move_115 x1 x3 x4 g5)
noncomputable def mm_X10_move_94 (x1 : Int32) (x2 : Int32) (x3 : Int32) (x4 : Int32) (g5 : (Nat → Int32)) : yy_M Int32 :=
  mm_X10_move_97 x1 x2 x3 x4 0 g5
noncomputable def mm_X10_move_61 (x1 : Int32) (x2 : Int32) (x3 : Int32) (x4 : Int32) (x6 : Int32) (g5 : (Nat → Int32)) : yy_M Int32 :=
  yy_cl (yy_lp (fun (w : Int32 × (Nat → Int32)) => mm_X10_move_61b x1 x2 x3 x4 w.1 w.2) (x6, g5)) (fun w => mm_X10_move_94 x1 x2 x3 x4 w)
noncomputable def mm_X10_move (x1 : Int32) (x2 : Int32) (x3 : Int32) (x4 : Int32) : yy_M Int32 :=
  yy_wF 112 0 0 (yy_cl (mm_X10_isLine x1 x2) (fun r1 => yy_br (r1 = 0) (yy_rt 0) (yy_br (x3 < 1) (yy_rt 0) (yy_cl (mm_X10_many x1) (fun r2 => yy_br ((r2 - x2) < x3) (yy_rt 0) (yy_cl (mm_X10_many x1) (fun r3 => yy_cl (mm_X10_isIn x4 0 (r3 - x3)) (fun r4 => yy_br (r4 = 0) (yy_rt 0) (yy_cl (mm_X10_snap ) (fun _ => mm_X10_move_61 x1 x2 x3 x4 0 ((fun _ => 0))))))))))))
theorem kw_X10_move : yy_wV RX10 yX10_move cX10_move 8 (some .boolean) 4 := ⟨⟨tw_1037, tw_1038, tw_61, tw_1039⟩, by decide +kernel⟩
abbrev rm_X10_move : Room := { frames := 3, cells := 1, slots := 126, locals := 64 }
set_option maxHeartbeats 4000000 in
set_option maxRecDepth 100000 in
theorem ww_X10_move_61b {x1 : Int32} {x2 : Int32} {x3 : Int32} {x4 : Int32} {x6 : Int32} {g5 : (Nat → Int32)} {q5 : Nat} {res : ((Int32 × (Nat → Int32)) ⊕ (((Nat → Int32)))) × yy_T} {Q : State → Prop} (C : yy_C D κ p m c cX10_move 8 s args RX10) (Z : yy_Z D κ ((q5, .inl (κ 0, 126, .inl g5)) :: ext) A s.heap τ H locs) (hl : lv_has ls 8 [(0, .ref (κ 4 + 112)), (1, .int x1), (2, .int x2), (3, .int x3), (4, .int x4), (5, .ref q5), (6, .int x6)]) (h : mm_X10_move_61b x1 x2 x3 x4 x6 g5 τ = some res)
    (kI : ∀ (w : Int32 × (Nat → Int32)) (τ1 : yy_T) (H1 : Heap) (locs1 : List Loc) (ls1 : Array Slot), res = (.inl w, τ1) → yy_Z D κ ((q5, .inl (κ 0, 126, .inl w.2)) :: ext) A s.heap τ1 H1 locs1 → lv_has ls1 8 [(0, .ref (κ 4 + 112)), (1, .int x1), (2, .int x2), (3, .int x3), (4, .int x4), (5, .ref q5), (6, .int w.1)] → W p l e rm_X10_move s m args below meth c H1 locs1 1 126 Q (F0 m 61 ls1 []))
    (kR0 : ∀ (w : (Nat → Int32)) (τ1 : yy_T) (H1 : Heap) (locs1 : List Loc) (ls1 : Array Slot), res = (.inr w, τ1) → yy_Z D κ ((q5, .inl (κ 0, 126, .inl w)) :: ext) A s.heap τ1 H1 locs1 → lv_has ls1 8 [(0, .ref (κ 4 + 112)), (1, .int x1), (2, .int x2), (3, .int x3), (4, .int x4), (5, .ref q5)] → W p l e rm_X10_move s m args below meth c H1 locs1 1 126 Q (F0 m 94 ls1 [])) : W p l e rm_X10_move s m args below meth c H locs 1 126 Q (F0 m 61 ls []) := by
  unfold mm_X10_move_61b at h
  refine lv_iload C.1.1 C.1.2.1 dX10_move_61 (lv_at hl 6 rfl) ?_
  refine lv_bipush (v := 9) C.1.1 C.1.2.1 dX10_move_63 (by decide) ?_
  refine lv_iload_n C.1.1 C.1.2.1 dX10_move_65 rfl (lv_at hl 3 rfl) ?_
  refine lv_imul C.1.1 C.1.2.1 dX10_move_66 ?_
  refine yy_icmp_ge (tgt := 94) C dX10_move_67 (by decide) h (fun h => ?_) (fun h => ?_)
  · exact kR0 _ _ _ _ _ (yy_rt_of h) Z (lv_sub hl [0, 1, 2, 3, 4, 5] rfl)
  · refine lv_aload C.1.1 C.1.2.1 dX10_move_70 (lv_at hl 5 rfl) ?_
    refine lv_iload C.1.1 C.1.2.1 dX10_move_72 (lv_at hl 6 rfl) ?_
    refine lv_aload_n C.1.1 C.1.2.1 dX10_move_74 rfl (lv_at hl 0 rfl) ?_
    refine yg_X10_3 C Z tw_795 dX10_move_75 ?_
    refine lv_iload_n C.1.1 C.1.2.1 dX10_move_78 rfl (lv_at hl 1 rfl) ?_
    refine lv_iload_n C.1.1 C.1.2.1 dX10_move_79 rfl (lv_at hl 2 rfl) ?_
    refine yy_cSi0 (As := [.int x1, .int x2]) (rest := [.ref (κ 4 + 114), .int x6, .ref q5])  C Z (ss_X10_lineAt l D κ ((q5, .inl (κ 0, 126, .inl g5)) :: ext) x1 x2) tw_914 kw_X10_lineAt ⟨⟨rfl, rfl⟩, ⟨Nat.le_of_ble_eq_true rfl, Nat.le_of_ble_eq_true rfl⟩, Nat.le_of_ble_eq_true rfl, Nat.le_of_ble_eq_true rfl⟩ hl.1 rfl (Nat.le_of_ble_eq_true rfl) dX10_move_80 h (fun r5 τ H locs Z h => ?_)
    refine lv_iload C.1.1 C.1.2.1 dX10_move_83 (lv_at hl 6 rfl) ?_
    refine lv_iadd C.1.1 C.1.2.1 dX10_move_85 ?_
    refine yy_iald C Z (by decide) rfl dX10_move_86 h (fun v6 h => ?_)
    refine yy_tast C Z 0 rfl dX10_move_87 h (fun g7 H locs Z h => ?_)
    have Z : yy_Z D κ ((q5, .inl (κ 0, 126, .inl g7)) :: ext) A s.heap τ H locs := Z
    refine lv_iinc (v := x6 + 1) (lv' := [(6, .int (x6 + 1)), (0, .ref (κ 4 + 112)), (1, .int x1), (2, .int x2), (3, .int x3), (4, .int x4), (5, .ref q5)]) C.1.1 C.1.2.1 dX10_move_88 hl (k := 6) rfl (by rfl) (by decide) rfl (fun ls hl => ?_)
    refine lv_goto (tgt := 61) C.1.1 C.1.2.1 dX10_move_91 (by decide) ?_
    exact kI _ _ _ _ _ (yy_rt_of h) Z (lv_sub hl [1, 2, 3, 4, 5, 6, 0] rfl)
set_option maxHeartbeats 4000000 in
set_option maxRecDepth 100000 in
theorem ww_X10_move_97b {x1 : Int32} {x2 : Int32} {x3 : Int32} {x4 : Int32} {x6 : Int32} {g5 : (Nat → Int32)} {q5 : Nat} {res : ((Int32) ⊕ ((Unit))) × yy_T} {Q : State → Prop} (C : yy_C D κ p m c cX10_move 8 s args RX10) (Z : yy_Z D κ ((q5, .inl (κ 0, 126, .inl g5)) :: ext) A s.heap τ H locs) (hl : lv_has ls 8 [(0, .ref (κ 4 + 112)), (1, .int x1), (2, .int x2), (3, .int x3), (4, .int x4), (5, .ref q5), (6, .int x6)]) (h : mm_X10_move_97b x1 x2 x3 x4 x6 g5 τ = some res)
    (kI : ∀ (w : Int32) (τ1 : yy_T) (H1 : Heap) (locs1 : List Loc) (ls1 : Array Slot), res = (.inl w, τ1) → yy_Z D κ ((q5, .inl (κ 0, 126, .inl g5)) :: ext) A s.heap τ1 H1 locs1 → lv_has ls1 8 [(0, .ref (κ 4 + 112)), (1, .int x1), (2, .int x2), (3, .int x3), (4, .int x4), (5, .ref q5), (6, .int w)] → W p l e rm_X10_move s m args below meth c H1 locs1 1 126 Q (F0 m 97 ls1 []))
    (kR0 : ∀ (w : Unit) (τ1 : yy_T) (H1 : Heap) (locs1 : List Loc) (ls1 : Array Slot), res = (.inr w, τ1) → yy_Z D κ ((q5, .inl (κ 0, 126, .inl g5)) :: ext) A s.heap τ1 H1 locs1 → lv_has ls1 8 [(0, .ref (κ 4 + 112)), (1, .int x1), (3, .int x3), (4, .int x4), (5, .ref q5)] → W p l e rm_X10_move s m args below meth c H1 locs1 1 126 Q (F0 m 115 ls1 [])) : W p l e rm_X10_move s m args below meth c H locs 1 126 Q (F0 m 97 ls []) := by
  unfold mm_X10_move_97b at h
  refine lv_iload C.1.1 C.1.2.1 dX10_move_97 (lv_at hl 6 rfl) ?_
  refine lv_iload_n C.1.1 C.1.2.1 dX10_move_99 rfl (lv_at hl 3 rfl) ?_
  refine yy_icmp_ge (tgt := 115) C dX10_move_100 (by decide) h (fun h => ?_) (fun h => ?_)
  · exact kR0 _ _ _ _ _ (yy_rt_of h) Z (lv_sub hl [0, 1, 3, 4, 5] rfl)
  · refine lv_aload_n C.1.1 C.1.2.1 dX10_move_103 rfl (lv_at hl 0 rfl) ?_
    refine lv_iload_n C.1.1 C.1.2.1 dX10_move_104 rfl (lv_at hl 1 rfl) ?_
    refine lv_iload_n C.1.1 C.1.2.1 dX10_move_105 rfl (lv_at hl 2 rfl) ?_
    refine yy_cVv0 (As := [.int x1, .int x2]) (rest := []) (id := 112) (ci := 10) (q := (RX10, TX10, 20)) C Z (ss_X10_closes l D κ ((q5, .inl (κ 0, 126, .inl g5)) :: ext) x1 x2) (by decide) (yy_ent_112 _) rfl tw_1032 kw_X10_closes ⟨⟨rfl, rfl⟩, ⟨Nat.le_of_ble_eq_true rfl, Nat.le_of_ble_eq_true rfl⟩, Nat.le_of_ble_eq_true rfl, Nat.le_of_ble_eq_true rfl⟩ hl.1 rfl (Nat.le_of_ble_eq_true rfl) dX10_move_106 h (fun τ H locs Z h => ?_)
    refine lv_iinc (v := x6 + 1) (lv' := [(6, .int (x6 + 1)), (0, .ref (κ 4 + 112)), (1, .int x1), (2, .int x2), (3, .int x3), (4, .int x4), (5, .ref q5)]) C.1.1 C.1.2.1 dX10_move_109 hl (k := 6) rfl (by rfl) (by decide) rfl (fun ls hl => ?_)
    refine lv_goto (tgt := 97) C.1.1 C.1.2.1 dX10_move_112 (by decide) ?_
    exact kI _ _ _ _ _ (yy_rt_of h) Z (lv_sub hl [1, 2, 3, 4, 5, 6, 0] rfl)
set_option maxHeartbeats 4000000 in
set_option maxRecDepth 100000 in
theorem ww_X10_move_137b {x1 : Int32} {x3 : Int32} {x4 : Int32} {x6 : Int32} {x7 : Int32} {g5 : (Nat → Int32)} {q5 : Nat} {res : ((Int32) ⊕ ((Unit))) × yy_T} {Q : State → Prop} (C : yy_C D κ p m c cX10_move 8 s args RX10) (Z : yy_Z D κ ((q5, .inl (κ 0, 126, .inl g5)) :: ext) A s.heap τ H locs) (hl : lv_has ls 8 [(0, .ref (κ 4 + 112)), (1, .int x1), (3, .int x3), (4, .int x4), (5, .ref q5), (6, .int x6), (7, .int x7)]) (h : mm_X10_move_137b x1 x3 x4 x6 x7 g5 τ = some res)
    (kI : ∀ (w : Int32) (τ1 : yy_T) (H1 : Heap) (locs1 : List Loc) (ls1 : Array Slot), res = (.inl w, τ1) → yy_Z D κ ((q5, .inl (κ 0, 126, .inl g5)) :: ext) A s.heap τ1 H1 locs1 → lv_has ls1 8 [(0, .ref (κ 4 + 112)), (1, .int x1), (3, .int x3), (4, .int x4), (5, .ref q5), (6, .int x6), (7, .int w)] → W p l e rm_X10_move s m args below meth c H1 locs1 1 126 Q (F0 m 137 ls1 []))
    (kR0 : ∀ (w : Unit) (τ1 : yy_T) (H1 : Heap) (locs1 : List Loc) (ls1 : Array Slot), res = (.inr w, τ1) → yy_Z D κ ((q5, .inl (κ 0, 126, .inl g5)) :: ext) A s.heap τ1 H1 locs1 → lv_has ls1 8 [(0, .ref (κ 4 + 112)), (1, .int x1), (3, .int x3), (4, .int x4), (5, .ref q5), (6, .int x6)] → W p l e rm_X10_move s m args below meth c H1 locs1 1 126 Q (F0 m 178 ls1 [])) : W p l e rm_X10_move s m args below meth c H locs 1 126 Q (F0 m 137 ls []) := by
  unfold mm_X10_move_137b at h
  refine lv_iload C.1.1 C.1.2.1 dX10_move_137 (lv_at hl 6 rfl) ?_
  refine lv_bipush (v := 9) C.1.1 C.1.2.1 dX10_move_139 (by decide) ?_
  refine yy_icmp_ge (tgt := 178) C dX10_move_141 (by decide) h (fun h => ?_) (fun h => ?_)
  · exact kR0 _ _ _ _ _ (yy_rt_of h) Z (lv_sub hl [0, 1, 2, 3, 4, 5] rfl)
  · refine lv_aload_n C.1.1 C.1.2.1 dX10_move_144 rfl (lv_at hl 0 rfl) ?_
    refine yg_X10_3 C Z tw_795 dX10_move_145 ?_
    refine lv_iload_n C.1.1 C.1.2.1 dX10_move_148 rfl (lv_at hl 1 rfl) ?_
    refine lv_iload C.1.1 C.1.2.1 dX10_move_149 (lv_at hl 3 rfl) ?_
    refine lv_iload C.1.1 C.1.2.1 dX10_move_151 (lv_at hl 5 rfl) ?_
    refine lv_iadd C.1.1 C.1.2.1 dX10_move_153 ?_
    refine yy_cSi0 (As := [.int x1, .int (x4 + x6)]) (rest := [.ref (κ 4 + 114)])  C Z (ss_X10_lineAt l D κ ((q5, .inl (κ 0, 126, .inl g5)) :: ext) x1 (x4 + x6)) tw_914 kw_X10_lineAt ⟨⟨rfl, rfl⟩, ⟨Nat.le_of_ble_eq_true rfl, Nat.le_of_ble_eq_true rfl⟩, Nat.le_of_ble_eq_true rfl, Nat.le_of_ble_eq_true rfl⟩ hl.1 rfl (Nat.le_of_ble_eq_true rfl) dX10_move_154 h (fun r8 τ H locs Z h => ?_)
    refine lv_iload C.1.1 C.1.2.1 dX10_move_157 (lv_at hl 6 rfl) ?_
    refine lv_iadd C.1.1 C.1.2.1 dX10_move_159 ?_
    refine lv_aload C.1.1 C.1.2.1 dX10_move_160 (lv_at hl 4 rfl) ?_
    refine lv_bipush (v := 9) C.1.1 C.1.2.1 dX10_move_162 (by decide) ?_
    refine lv_iload C.1.1 C.1.2.1 dX10_move_164 (lv_at hl 5 rfl) ?_
    refine lv_imul C.1.1 C.1.2.1 dX10_move_166 ?_
    refine lv_iload C.1.1 C.1.2.1 dX10_move_167 (lv_at hl 6 rfl) ?_
    refine lv_iadd C.1.1 C.1.2.1 dX10_move_169 ?_
    refine yy_tald C Z 0 rfl dX10_move_170 h (fun v9 h => ?_)
    refine yy_iast C Z (by decide) rfl dX10_move_171 h (fun H locs τ Z h => ?_)
    refine lv_iinc (v := x7 + 1) (lv' := [(7, .int (x7 + 1)), (0, .ref (κ 4 + 112)), (1, .int x1), (3, .int x3), (4, .int x4), (5, .ref q5), (6, .int x6)]) C.1.1 C.1.2.1 dX10_move_172 hl (k := 6) rfl (by rfl) (by decide) rfl (fun ls hl => ?_)
    refine lv_goto (tgt := 137) C.1.1 C.1.2.1 dX10_move_175 (by decide) ?_
    exact kI _ _ _ _ _ (yy_rt_of h) Z (lv_sub hl [1, 2, 3, 4, 5, 6, 0] rfl)
set_option maxHeartbeats 4000000 in
set_option maxRecDepth 100000 in
theorem ww_X10_move_178 {x1 : Int32} {x3 : Int32} {x4 : Int32} {x6 : Int32} {g5 : (Nat → Int32)} {q5 : Nat} {res : ((Int32) ⊕ ((Unit))) × yy_T} {Q : State → Prop} (C : yy_C D κ p m c cX10_move 8 s args RX10) (Z : yy_Z D κ ((q5, .inl (κ 0, 126, .inl g5)) :: ext) A s.heap τ H locs) (hl : lv_has ls 8 [(0, .ref (κ 4 + 112)), (1, .int x1), (3, .int x3), (4, .int x4), (5, .ref q5), (6, .int x6)]) (h : mm_X10_move_178 x1 x3 x4 x6 g5 τ = some res)
    (kI : ∀ (w : Int32) (τ1 : yy_T) (H1 : Heap) (locs1 : List Loc) (ls1 : Array Slot), res = (.inl w, τ1) → yy_Z D κ ((q5, .inl (κ 0, 126, .inl g5)) :: ext) A s.heap τ1 H1 locs1 → lv_has ls1 8 [(0, .ref (κ 4 + 112)), (1, .int x1), (3, .int x3), (4, .int x4), (5, .ref q5), (6, .int w)] → W p l e rm_X10_move s m args below meth c H1 locs1 1 126 Q (F0 m 118 ls1 [])) : W p l e rm_X10_move s m args below meth c H locs 1 126 Q (F0 m 178 ls []) := by
  unfold mm_X10_move_178 at h
  refine lv_iinc (v := x6 + 1) (lv' := [(6, .int (x6 + 1)), (0, .ref (κ 4 + 112)), (1, .int x1), (3, .int x3), (4, .int x4), (5, .ref q5)]) C.1.1 C.1.2.1 dX10_move_178 hl (k := 5) rfl (by rfl) (by decide) rfl (fun ls hl => ?_)
  refine lv_goto (tgt := 118) C.1.1 C.1.2.1 dX10_move_181 (by decide) ?_
  exact kI _ _ _ _ _ (yy_rt_of h) Z (lv_sub hl [1, 2, 3, 4, 5, 0] rfl)
set_option maxHeartbeats 4000000 in
set_option maxRecDepth 100000 in
theorem ww_X10_move_137 {x1 : Int32} {x3 : Int32} {x4 : Int32} {x6 : Int32} {x7 : Int32} {g5 : (Nat → Int32)} {q5 : Nat} {res : ((Int32) ⊕ ((Unit))) × yy_T} {Q : State → Prop} (C : yy_C D κ p m c cX10_move 8 s args RX10) (Z : yy_Z D κ ((q5, .inl (κ 0, 126, .inl g5)) :: ext) A s.heap τ H locs) (hl : lv_has ls 8 [(0, .ref (κ 4 + 112)), (1, .int x1), (3, .int x3), (4, .int x4), (5, .ref q5), (6, .int x6), (7, .int x7)]) (h : mm_X10_move_137 x1 x3 x4 x6 x7 g5 τ = some res)
    (kI : ∀ (w : Int32) (τ1 : yy_T) (H1 : Heap) (locs1 : List Loc) (ls1 : Array Slot), res = (.inl w, τ1) → yy_Z D κ ((q5, .inl (κ 0, 126, .inl g5)) :: ext) A s.heap τ1 H1 locs1 → lv_has ls1 8 [(0, .ref (κ 4 + 112)), (1, .int x1), (3, .int x3), (4, .int x4), (5, .ref q5), (6, .int w)] → W p l e rm_X10_move s m args below meth c H1 locs1 1 126 Q (F0 m 118 ls1 [])) : W p l e rm_X10_move s m args below meth c H locs 1 126 Q (F0 m 137 ls []) := by
  unfold mm_X10_move_137 at h
  refine yy_loop h (fun (w : Int32) (τ : yy_T) => ∀ (H : Heap) (locs : List Loc) (ls : Array Slot), yy_Z D κ ((q5, .inl (κ 0, 126, .inl g5)) :: ext) A s.heap τ H locs → lv_has ls 8 [(0, .ref (κ 4 + 112)), (1, .int x1), (3, .int x3), (4, .int x4), (5, .ref q5), (6, .int x6), (7, .int w)] → W p l e rm_X10_move s m args below meth c H locs 1 126 Q (F0 m 137 ls [])) ?_ H locs ls Z hl
  intro w τ y hy hI hX H locs ls Z hl
  refine ww_X10_move_137b C Z hl hy (fun w τ H locs ls ey Z hl => hI w τ ey H locs ls Z hl) (fun w τ H locs ls ey Z hl => ?_)
  · have h := hX _ _ ey
    exact ww_X10_move_178 C Z (lv_sub hl [0, 1, 2, 3, 4, 5] rfl) h kI
set_option maxHeartbeats 4000000 in
set_option maxRecDepth 100000 in
theorem ww_X10_move_118b {x1 : Int32} {x3 : Int32} {x4 : Int32} {x6 : Int32} {g5 : (Nat → Int32)} {q5 : Nat} {res : ((Int32) ⊕ ((Unit))) × yy_T} {Q : State → Prop} (C : yy_C D κ p m c cX10_move 8 s args RX10) (Z : yy_Z D κ ((q5, .inl (κ 0, 126, .inl g5)) :: ext) A s.heap τ H locs) (hl : lv_has ls 8 [(0, .ref (κ 4 + 112)), (1, .int x1), (3, .int x3), (4, .int x4), (5, .ref q5), (6, .int x6)]) (h : mm_X10_move_118b x1 x3 x4 x6 g5 τ = some res)
    (kI : ∀ (w : Int32) (τ1 : yy_T) (H1 : Heap) (locs1 : List Loc) (ls1 : Array Slot), res = (.inl w, τ1) → yy_Z D κ ((q5, .inl (κ 0, 126, .inl g5)) :: ext) A s.heap τ1 H1 locs1 → lv_has ls1 8 [(0, .ref (κ 4 + 112)), (1, .int x1), (3, .int x3), (4, .int x4), (5, .ref q5), (6, .int w)] → W p l e rm_X10_move s m args below meth c H1 locs1 1 126 Q (F0 m 118 ls1 []))
    (kR0 : ∀ {gd5 : Nat → Int32} (w : Unit) (τ1 : yy_T) (H1 : Heap) (locs1 : List Loc) (ls1 : Array Slot), res = (.inr w, τ1) → yy_Z D κ ((q5, .inl (κ 0, 126, .inl gd5)) :: ext) A s.heap τ1 H1 locs1 → lv_has ls1 8 [] → W p l e rm_X10_move s m args below meth c H1 locs1 1 126 Q (F0 m 184 ls1 [])) : W p l e rm_X10_move s m args below meth c H locs 1 126 Q (F0 m 118 ls []) := by
  unfold mm_X10_move_118b at h
  refine lv_iload C.1.1 C.1.2.1 dX10_move_118 (lv_at hl 5 rfl) ?_
  refine lv_iload_n C.1.1 C.1.2.1 dX10_move_120 rfl (lv_at hl 2 rfl) ?_
  refine yy_icmp_ge (tgt := 184) C dX10_move_121 (by decide) h (fun h => ?_) (fun h => ?_)
  · exact kR0 _ _ _ _ _ (yy_rt_of h) Z (lv_sub hl [] rfl)
  · refine lv_aload_n C.1.1 C.1.2.1 dX10_move_124 rfl (lv_at hl 0 rfl) ?_
    refine lv_iload_n C.1.1 C.1.2.1 dX10_move_125 rfl (lv_at hl 1 rfl) ?_
    refine lv_iload C.1.1 C.1.2.1 dX10_move_126 (lv_at hl 3 rfl) ?_
    refine lv_iload C.1.1 C.1.2.1 dX10_move_128 (lv_at hl 5 rfl) ?_
    refine lv_iadd C.1.1 C.1.2.1 dX10_move_130 ?_
    refine yy_cVv0 (As := [.int x1, .int (x4 + x6)]) (rest := []) (id := 112) (ci := 10) (q := (RX10, TX10, 20)) C Z (ss_X10_opens l D κ ((q5, .inl (κ 0, 126, .inl g5)) :: ext) x1 (x4 + x6)) (by decide) (yy_ent_112 _) rfl tw_1016 kw_X10_opens ⟨⟨rfl, rfl⟩, ⟨Nat.le_of_ble_eq_true rfl, Nat.le_of_ble_eq_true rfl⟩, Nat.le_of_ble_eq_true rfl, Nat.le_of_ble_eq_true rfl⟩ hl.1 rfl (Nat.le_of_ble_eq_true rfl) dX10_move_131 h (fun τ H locs Z h => ?_)
    refine lv_iconst (v := 0) C.1.1 C.1.2.1 dX10_move_134 (by decide) ?_
    refine lv_istore (lv' := [(7, .int 0), (0, .ref (κ 4 + 112)), (1, .int x1), (3, .int x3), (4, .int x4), (5, .ref q5), (6, .int x6)]) C.1.1 C.1.2.1 dX10_move_135 hl (by decide) rfl (fun ls hl => ?_)
    exact ww_X10_move_137 C Z (lv_sub hl [1, 2, 3, 4, 5, 6, 0] rfl) h kI
set_option maxHeartbeats 4000000 in
set_option maxRecDepth 100000 in
theorem ww_X10_move_184 {q5 : Nat} {gd5 : Nat → Int32} {res : Int32 × yy_T} (C : yy_C D κ p m c cX10_move 8 s args RX10) (hr : meth.sig.returnType = (some .boolean)) (hlk : meth.locks = false) (Z : yy_Z D κ ((q5, .inl (κ 0, 126, .inl gd5)) :: ext) A s.heap τ H locs) (hl : lv_has ls 8 []) (h : mm_X10_move_184  τ = some res) : W p l e rm_X10_move s m args below meth c H locs 1 126 (MQ below (yy_Qi D κ ext A res) args s 1 126 A) (F0 m 184 ls []) := by
  unfold mm_X10_move_184 at h
  refine lv_iconst (v := 1) C.1.1 C.1.2.1 dX10_move_184 (by decide) ?_
  have Z := Z.tail
  exact yy_iret C Z hr hlk rfl dX10_move_185 h
set_option maxHeartbeats 4000000 in
set_option maxRecDepth 100000 in
theorem ww_X10_move_118 {x1 : Int32} {x3 : Int32} {x4 : Int32} {x6 : Int32} {g5 : (Nat → Int32)} {q5 : Nat} {res : Int32 × yy_T} (C : yy_C D κ p m c cX10_move 8 s args RX10) (hr : meth.sig.returnType = (some .boolean)) (hlk : meth.locks = false) (Z : yy_Z D κ ((q5, .inl (κ 0, 126, .inl g5)) :: ext) A s.heap τ H locs) (hl : lv_has ls 8 [(0, .ref (κ 4 + 112)), (1, .int x1), (3, .int x3), (4, .int x4), (5, .ref q5), (6, .int x6)]) (h : mm_X10_move_118 x1 x3 x4 x6 g5 τ = some res) : W p l e rm_X10_move s m args below meth c H locs 1 126 (MQ below (yy_Qi D κ ext A res) args s 1 126 A) (F0 m 118 ls []) := by
  unfold mm_X10_move_118 at h
  refine yy_loop h (fun (w : Int32) (τ : yy_T) => ∀ (H : Heap) (locs : List Loc) (ls : Array Slot), yy_Z D κ ((q5, .inl (κ 0, 126, .inl g5)) :: ext) A s.heap τ H locs → lv_has ls 8 [(0, .ref (κ 4 + 112)), (1, .int x1), (3, .int x3), (4, .int x4), (5, .ref q5), (6, .int w)] → W p l e rm_X10_move s m args below meth c H locs 1 126 (MQ below (yy_Qi D κ ext A res) args s 1 126 A) (F0 m 118 ls [])) ?_ H locs ls Z hl
  intro w τ y hy hI hX H locs ls Z hl
  refine ww_X10_move_118b C Z hl hy (fun w τ H locs ls ey Z hl => hI w τ ey H locs ls Z hl) (fun w τ H locs ls ey Z hl => ?_)
  · have h := hX _ _ ey
    exact ww_X10_move_184 C hr hlk Z (lv_sub hl [] rfl) h
set_option maxHeartbeats 4000000 in
set_option maxRecDepth 100000 in
theorem ww_X10_move_115 {x1 : Int32} {x3 : Int32} {x4 : Int32} {g5 : (Nat → Int32)} {q5 : Nat} {res : Int32 × yy_T} (C : yy_C D κ p m c cX10_move 8 s args RX10) (hr : meth.sig.returnType = (some .boolean)) (hlk : meth.locks = false) (Z : yy_Z D κ ((q5, .inl (κ 0, 126, .inl g5)) :: ext) A s.heap τ H locs) (hl : lv_has ls 8 [(0, .ref (κ 4 + 112)), (1, .int x1), (3, .int x3), (4, .int x4), (5, .ref q5)]) (h : mm_X10_move_115 x1 x3 x4 g5 τ = some res) : W p l e rm_X10_move s m args below meth c H locs 1 126 (MQ below (yy_Qi D κ ext A res) args s 1 126 A) (F0 m 115 ls []) := by
  unfold mm_X10_move_115 at h
  refine lv_iconst (v := 0) C.1.1 C.1.2.1 dX10_move_115 (by decide) ?_
  refine lv_istore (lv' := [(6, .int 0), (0, .ref (κ 4 + 112)), (1, .int x1), (3, .int x3), (4, .int x4), (5, .ref q5)]) C.1.1 C.1.2.1 dX10_move_116 hl (by decide) rfl (fun ls hl => ?_)
  exact ww_X10_move_118 C hr hlk Z (lv_sub hl [1, 2, 3, 4, 5, 0] rfl) h
set_option maxHeartbeats 4000000 in
set_option maxRecDepth 100000 in
theorem ww_X10_move_97 {x1 : Int32} {x2 : Int32} {x3 : Int32} {x4 : Int32} {x6 : Int32} {g5 : (Nat → Int32)} {q5 : Nat} {res : Int32 × yy_T} (C : yy_C D κ p m c cX10_move 8 s args RX10) (hr : meth.sig.returnType = (some .boolean)) (hlk : meth.locks = false) (Z : yy_Z D κ ((q5, .inl (κ 0, 126, .inl g5)) :: ext) A s.heap τ H locs) (hl : lv_has ls 8 [(0, .ref (κ 4 + 112)), (1, .int x1), (2, .int x2), (3, .int x3), (4, .int x4), (5, .ref q5), (6, .int x6)]) (h : mm_X10_move_97 x1 x2 x3 x4 x6 g5 τ = some res) : W p l e rm_X10_move s m args below meth c H locs 1 126 (MQ below (yy_Qi D κ ext A res) args s 1 126 A) (F0 m 97 ls []) := by
  unfold mm_X10_move_97 at h
  refine yy_loop h (fun (w : Int32) (τ : yy_T) => ∀ (H : Heap) (locs : List Loc) (ls : Array Slot), yy_Z D κ ((q5, .inl (κ 0, 126, .inl g5)) :: ext) A s.heap τ H locs → lv_has ls 8 [(0, .ref (κ 4 + 112)), (1, .int x1), (2, .int x2), (3, .int x3), (4, .int x4), (5, .ref q5), (6, .int w)] → W p l e rm_X10_move s m args below meth c H locs 1 126 (MQ below (yy_Qi D κ ext A res) args s 1 126 A) (F0 m 97 ls [])) ?_ H locs ls Z hl
  intro w τ y hy hI hX H locs ls Z hl
  refine ww_X10_move_97b C Z hl hy (fun w τ H locs ls ey Z hl => hI w τ ey H locs ls Z hl) (fun w τ H locs ls ey Z hl => ?_)
  · have h := hX _ _ ey
    exact ww_X10_move_115 C hr hlk Z (lv_sub hl [0, 1, 2, 3, 4] rfl) h
set_option maxHeartbeats 4000000 in
set_option maxRecDepth 100000 in
theorem ww_X10_move_94 {x1 : Int32} {x2 : Int32} {x3 : Int32} {x4 : Int32} {g5 : (Nat → Int32)} {q5 : Nat} {res : Int32 × yy_T} (C : yy_C D κ p m c cX10_move 8 s args RX10) (hr : meth.sig.returnType = (some .boolean)) (hlk : meth.locks = false) (Z : yy_Z D κ ((q5, .inl (κ 0, 126, .inl g5)) :: ext) A s.heap τ H locs) (hl : lv_has ls 8 [(0, .ref (κ 4 + 112)), (1, .int x1), (2, .int x2), (3, .int x3), (4, .int x4), (5, .ref q5)]) (h : mm_X10_move_94 x1 x2 x3 x4 g5 τ = some res) : W p l e rm_X10_move s m args below meth c H locs 1 126 (MQ below (yy_Qi D κ ext A res) args s 1 126 A) (F0 m 94 ls []) := by
  unfold mm_X10_move_94 at h
  refine lv_iconst (v := 0) C.1.1 C.1.2.1 dX10_move_94 (by decide) ?_
  refine lv_istore (lv' := [(6, .int 0), (0, .ref (κ 4 + 112)), (1, .int x1), (2, .int x2), (3, .int x3), (4, .int x4), (5, .ref q5)]) C.1.1 C.1.2.1 dX10_move_95 hl (by decide) rfl (fun ls hl => ?_)
  exact ww_X10_move_97 C hr hlk Z (lv_sub hl [1, 2, 3, 4, 5, 6, 0] rfl) h
set_option maxHeartbeats 4000000 in
set_option maxRecDepth 100000 in
theorem ww_X10_move_61 {x1 : Int32} {x2 : Int32} {x3 : Int32} {x4 : Int32} {x6 : Int32} {g5 : (Nat → Int32)} {q5 : Nat} {res : Int32 × yy_T} (C : yy_C D κ p m c cX10_move 8 s args RX10) (hr : meth.sig.returnType = (some .boolean)) (hlk : meth.locks = false) (Z : yy_Z D κ ((q5, .inl (κ 0, 126, .inl g5)) :: ext) A s.heap τ H locs) (hl : lv_has ls 8 [(0, .ref (κ 4 + 112)), (1, .int x1), (2, .int x2), (3, .int x3), (4, .int x4), (5, .ref q5), (6, .int x6)]) (h : mm_X10_move_61 x1 x2 x3 x4 x6 g5 τ = some res) : W p l e rm_X10_move s m args below meth c H locs 1 126 (MQ below (yy_Qi D κ ext A res) args s 1 126 A) (F0 m 61 ls []) := by
  unfold mm_X10_move_61 at h
  refine yy_loop h (fun (w : Int32 × (Nat → Int32)) (τ : yy_T) => ∀ (H : Heap) (locs : List Loc) (ls : Array Slot), yy_Z D κ ((q5, .inl (κ 0, 126, .inl w.2)) :: ext) A s.heap τ H locs → lv_has ls 8 [(0, .ref (κ 4 + 112)), (1, .int x1), (2, .int x2), (3, .int x3), (4, .int x4), (5, .ref q5), (6, .int w.1)] → W p l e rm_X10_move s m args below meth c H locs 1 126 (MQ below (yy_Qi D κ ext A res) args s 1 126 A) (F0 m 61 ls [])) ?_ H locs ls Z hl
  intro w τ y hy hI hX H locs ls Z hl
  refine ww_X10_move_61b C Z hl hy (fun w τ H locs ls ey Z hl => hI w τ ey H locs ls Z hl) (fun w τ H locs ls ey Z hl => ?_)
  · have h := hX _ _ ey
    exact ww_X10_move_94 C hr hlk Z (lv_sub hl [0, 1, 2, 3, 4, 5] rfl) h
set_option maxHeartbeats 4000000 in
set_option maxRecDepth 100000 in
theorem ww_X10_move_E {x1 : Int32} {x2 : Int32} {x3 : Int32} {x4 : Int32} {res : Int32 × yy_T} (C : yy_C D κ p m c cX10_move 8 s args RX10) (hr : meth.sig.returnType = (some .boolean)) (hlk : meth.locks = false) (Z : yy_Z D κ ext A s.heap τ H locs) (hl : lv_has ls 8 [(0, .ref (κ 4 + 112)), (1, .int x1), (2, .int x2), (3, .int x3), (4, .int x4)]) (h : mm_X10_move x1 x2 x3 x4 τ = some res) : W p l e rm_X10_move s m args below meth c H locs 0 0 (MQ below (yy_Qi D κ ext A res) args s 1 126 A) (F0 m 0 ls []) := by
  unfold mm_X10_move at h
  refine lv_aload_n C.1.1 C.1.2.1 dX10_move_0 rfl (lv_at hl 0 rfl) ?_
  refine lv_iconst (v := 0) C.1.1 C.1.2.1 dX10_move_1 (by decide) ?_
  refine yp_X10_0 C Z tw_792 dX10_move_2 h (fun H locs τ Z h => ?_)
  refine lv_aload_n C.1.1 C.1.2.1 dX10_move_5 rfl (lv_at hl 0 rfl) ?_
  refine lv_iload_n C.1.1 C.1.2.1 dX10_move_6 rfl (lv_at hl 1 rfl) ?_
  refine lv_iload_n C.1.1 C.1.2.1 dX10_move_7 rfl (lv_at hl 2 rfl) ?_
  refine yy_cVi0 (As := [.int x1, .int x2]) (rest := []) (id := 112) (ci := 10) (q := (RX10, TX10, 20)) C Z (ss_X10_isLine l D κ ext x1 x2) (by decide) (yy_ent_112 _) rfl tw_957 kw_X10_isLine ⟨⟨rfl, rfl⟩, ⟨Nat.le_of_ble_eq_true rfl, Nat.le_of_ble_eq_true rfl⟩, Nat.le_of_ble_eq_true rfl, Nat.le_of_ble_eq_true rfl⟩ hl.1 rfl (Nat.le_of_ble_eq_true rfl) dX10_move_8 h (fun r1 τ H locs Z h => ?_)
  refine yy_if_eq (tgt := 46) C dX10_move_11 (by decide) h (fun h => ?_) (fun h => ?_)
  · refine lv_iconst (v := 0) C.1.1 C.1.2.1 dX10_move_46 (by decide) ?_
    refine W.widen (k := 1) (n := 126) (Nat.le_of_ble_eq_true rfl) (Nat.le_of_ble_eq_true rfl) ?_
    exact yy_iret C Z hr hlk rfl dX10_move_47 h
  · refine lv_iload_n C.1.1 C.1.2.1 dX10_move_14 rfl (lv_at hl 3 rfl) ?_
    refine lv_iconst (v := 1) C.1.1 C.1.2.1 dX10_move_15 (by decide) ?_
    refine yy_icmp_lt (tgt := 46) C dX10_move_16 (by decide) h (fun h => ?_) (fun h => ?_)
    · refine lv_iconst (v := 0) C.1.1 C.1.2.1 dX10_move_46 (by decide) ?_
      refine W.widen (k := 1) (n := 126) (Nat.le_of_ble_eq_true rfl) (Nat.le_of_ble_eq_true rfl) ?_
      exact yy_iret C Z hr hlk rfl dX10_move_47 h
    · refine lv_iload_n C.1.1 C.1.2.1 dX10_move_19 rfl (lv_at hl 3 rfl) ?_
      refine lv_aload_n C.1.1 C.1.2.1 dX10_move_20 rfl (lv_at hl 0 rfl) ?_
      refine lv_iload_n C.1.1 C.1.2.1 dX10_move_21 rfl (lv_at hl 1 rfl) ?_
      refine yy_cVi0 (As := [.int x1]) (rest := [.int x3]) (id := 112) (ci := 10) (q := (RX10, TX10, 20)) C Z (ss_X10_many l D κ ext x1) (by decide) (yy_ent_112 _) rfl tw_882 kw_X10_many ⟨⟨rfl, rfl⟩, ⟨Nat.le_of_ble_eq_true rfl, Nat.le_of_ble_eq_true rfl⟩, Nat.le_of_ble_eq_true rfl, Nat.le_of_ble_eq_true rfl⟩ hl.1 rfl (Nat.le_of_ble_eq_true rfl) dX10_move_22 h (fun r2 τ H locs Z h => ?_)
      refine lv_iload_n C.1.1 C.1.2.1 dX10_move_25 rfl (lv_at hl 2 rfl) ?_
      refine lv_isub C.1.1 C.1.2.1 dX10_move_26 ?_
      refine yy_icmp_gt (tgt := 46) C dX10_move_27 (by decide) h (fun h => ?_) (fun h => ?_)
      · refine lv_iconst (v := 0) C.1.1 C.1.2.1 dX10_move_46 (by decide) ?_
        refine W.widen (k := 1) (n := 126) (Nat.le_of_ble_eq_true rfl) (Nat.le_of_ble_eq_true rfl) ?_
        exact yy_iret C Z hr hlk rfl dX10_move_47 h
      · refine lv_iload C.1.1 C.1.2.1 dX10_move_30 (lv_at hl 4 rfl) ?_
        refine lv_iconst (v := 0) C.1.1 C.1.2.1 dX10_move_32 (by decide) ?_
        refine lv_aload_n C.1.1 C.1.2.1 dX10_move_33 rfl (lv_at hl 0 rfl) ?_
        refine lv_iload_n C.1.1 C.1.2.1 dX10_move_34 rfl (lv_at hl 1 rfl) ?_
        refine yy_cVi0 (As := [.int x1]) (rest := [.int 0, .int x4]) (id := 112) (ci := 10) (q := (RX10, TX10, 20)) C Z (ss_X10_many l D κ ext x1) (by decide) (yy_ent_112 _) rfl tw_882 kw_X10_many ⟨⟨rfl, rfl⟩, ⟨Nat.le_of_ble_eq_true rfl, Nat.le_of_ble_eq_true rfl⟩, Nat.le_of_ble_eq_true rfl, Nat.le_of_ble_eq_true rfl⟩ hl.1 rfl (Nat.le_of_ble_eq_true rfl) dX10_move_35 h (fun r3 τ H locs Z h => ?_)
        refine lv_iload_n C.1.1 C.1.2.1 dX10_move_38 rfl (lv_at hl 3 rfl) ?_
        refine lv_isub C.1.1 C.1.2.1 dX10_move_39 ?_
        refine yy_cSi0 (As := [.int x4, .int 0, .int (r3 - x3)]) (rest := [])  C Z (ss_X10_isIn l D κ ext x4 0 (r3 - x3)) tw_860 kw_X10_isIn ⟨⟨rfl, rfl⟩, ⟨Nat.le_of_ble_eq_true rfl, Nat.le_of_ble_eq_true rfl⟩, Nat.le_of_ble_eq_true rfl, Nat.le_of_ble_eq_true rfl⟩ hl.1 rfl (Nat.le_of_ble_eq_true rfl) dX10_move_40 h (fun r4 τ H locs Z h => ?_)
        refine yy_if_ne (tgt := 48) C dX10_move_43 (by decide) h (fun h => ?_) (fun h => ?_)
        · refine lv_aload_n C.1.1 C.1.2.1 dX10_move_48 rfl (lv_at hl 0 rfl) ?_
          refine yy_cVv0 (As := []) (rest := []) (id := 112) (ci := 10) (q := (RX10, TX10, 20)) C Z (ss_X10_snap l D κ ext ) (by decide) (yy_ent_112 _) rfl tw_1012 kw_X10_snap ⟨⟨rfl, rfl⟩, ⟨Nat.le_of_ble_eq_true rfl, Nat.le_of_ble_eq_true rfl⟩, Nat.le_of_ble_eq_true rfl, Nat.le_of_ble_eq_true rfl⟩ hl.1 rfl (Nat.le_of_ble_eq_true rfl) dX10_move_49 h (fun τ H locs Z h => ?_)
          refine lv_bipush (v := 126) C.1.1 C.1.2.1 dX10_move_52 (by decide) ?_
          refine yy_newI (N' := 126) C Z tw_123 (by decide) (by decide) (by decide) (Nat.le_of_ble_eq_true rfl) (Nat.le_of_ble_eq_true rfl) dX10_move_54 (fun q5 H Z => ?_)
          refine W.widen (k := 1) (n := 126) (Nat.le_refl _) (Nat.le_refl _) ?_
          refine lv_astore (lv' := [(5, .ref q5), (0, .ref (κ 4 + 112)), (1, .int x1), (2, .int x2), (3, .int x3), (4, .int x4)]) C.1.1 C.1.2.1 dX10_move_56 hl (by decide) rfl (fun ls hl => ?_)
          refine lv_iconst (v := 0) C.1.1 C.1.2.1 dX10_move_58 (by decide) ?_
          refine lv_istore (lv' := [(6, .int 0), (5, .ref q5), (0, .ref (κ 4 + 112)), (1, .int x1), (2, .int x2), (3, .int x3), (4, .int x4)]) C.1.1 C.1.2.1 dX10_move_59 hl (by decide) rfl (fun ls hl => ?_)
          exact ww_X10_move_61 C hr hlk Z (lv_sub hl [2, 3, 4, 5, 6, 1, 0] rfl) h
        · refine lv_iconst (v := 0) C.1.1 C.1.2.1 dX10_move_46 (by decide) ?_
          refine W.widen (k := 1) (n := 126) (Nat.le_of_ble_eq_true rfl) (Nat.le_of_ble_eq_true rfl) ?_
          exact yy_iret C Z hr hlk rfl dX10_move_47 h
set_option maxHeartbeats 4000000 in
set_option maxRecDepth 100000 in
theorem ss_X10_move (l : Launch) (D : va_G) (κ : Nat → Nat) (ext : va_W) (x1 : Int32) (x2 : Int32) (x3 : Int32) (x4 : Int32) : yy_Mi l D κ ext yX10_move cX10_move 8 (some .boolean) rm_X10_move 1 126 [.ref (κ 4 + 112), .int x1, .int x2, .int x3, .int x4] (mm_X10_move x1 x2 x3 x4) := by
  intro sz τ res h
  refine yy_ofW (by decide) (Nat.le_of_ble_eq_true rfl) ?_
  intro p e s m args below meth c ls hsz E
  obtain ⟨C, hr, hlk, Z, hl⟩ := E
  subst hsz
  exact ww_X10_move_E  C hr hlk Z hl h
end
