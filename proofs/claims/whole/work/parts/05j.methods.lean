section
variable {p : Program} {l : Launch} {e : Env} {s : State} {m : MethodId} {args : Array Value} {below : List Frame} {meth : Method} {c : Code} {H : Heap} {locs : List Loc} {ls : Array Slot} {D : va_G} {κ : Nat → Nat} {ext : va_W} {A : Nat → Prop} {τ : yy_T}
/-! MovedLinesModel.isLoose(II)Z -/
noncomputable def mm_X10_isLoose (x1 : Int32) (x2 : Int32) : yy_M Int32 :=
  yy_cl (mm_X10_many x1) (fun r1 => yy_br (r1 ≤ x2) (yy_rt 0) (yy_rA 117 28 ((14 * x1) + x2) fun v2 => yy_br (v2 = 3) (yy_rt 1) (yy_rt 0)))
theorem kw_X10_isLoose : yy_wV RX10 yX10_isLoose cX10_isLoose 3 (some .boolean) 2 := ⟨⟨tw_939, tw_38, tw_61, tw_940⟩, by decide +kernel⟩
abbrev rm_X10_isLoose : Room := { frames := 1, cells := 0, slots := 0, locals := 21 }
set_option maxHeartbeats 4000000 in
set_option maxRecDepth 100000 in
theorem ww_X10_isLoose_E {x1 : Int32} {x2 : Int32} {res : Int32 × yy_T} (C : yy_C D κ p m c cX10_isLoose 3 s args RX10) (hr : meth.sig.returnType = (some .boolean)) (hlk : meth.locks = false) (Z : yy_Z D κ ext A s.heap τ H locs) (hl : lv_has ls 3 [(0, .ref (κ 4 + 112)), (1, .int x1), (2, .int x2)]) (h : mm_X10_isLoose x1 x2 τ = some res) : W p l e rm_X10_isLoose s m args below meth c H locs 0 0 (MQ below (yy_Qi D κ ext A res) args s 0 0 A) (F0 m 0 ls []) := by
  unfold mm_X10_isLoose at h
  refine lv_iload_n C.1.1 C.1.2.1 dX10_isLoose_0 rfl (lv_at hl 2 rfl) ?_
  refine lv_aload_n C.1.1 C.1.2.1 dX10_isLoose_1 rfl (lv_at hl 0 rfl) ?_
  refine lv_iload_n C.1.1 C.1.2.1 dX10_isLoose_2 rfl (lv_at hl 1 rfl) ?_
  refine yy_cVi0 (As := [.int x1]) (rest := [.int x2]) (id := 112) (ci := 10) (q := (RX10, TX10, 20)) C Z (ss_X10_many l D κ ext x1) (by decide) (yy_ent_112 _) rfl tw_882 kw_X10_many ⟨⟨rfl, rfl⟩, ⟨Nat.le_of_ble_eq_true rfl, Nat.le_of_ble_eq_true rfl⟩, Nat.le_of_ble_eq_true rfl, Nat.le_of_ble_eq_true rfl⟩ hl.1 rfl (Nat.le_of_ble_eq_true rfl) dX10_isLoose_3 h (fun r1 τ H locs Z h => ?_)
  refine yy_icmp_ge (tgt := 28) C dX10_isLoose_6 (by decide) h (fun h => ?_) (fun h => ?_)
  · refine lv_iconst (v := 0) C.1.1 C.1.2.1 dX10_isLoose_28 (by decide) ?_
    exact yy_iret C Z hr hlk rfl dX10_isLoose_29 h
  · refine lv_aload_n C.1.1 C.1.2.1 dX10_isLoose_9 rfl (lv_at hl 0 rfl) ?_
    refine yg_X10_10 C Z tw_802 dX10_isLoose_10 ?_
    refine lv_bipush (v := 14) C.1.1 C.1.2.1 dX10_isLoose_13 (by decide) ?_
    refine lv_iload_n C.1.1 C.1.2.1 dX10_isLoose_15 rfl (lv_at hl 1 rfl) ?_
    refine lv_imul C.1.1 C.1.2.1 dX10_isLoose_16 ?_
    refine lv_iload_n C.1.1 C.1.2.1 dX10_isLoose_17 rfl (lv_at hl 2 rfl) ?_
    refine lv_iadd C.1.1 C.1.2.1 dX10_isLoose_18 ?_
    refine yy_iald C Z (by decide) rfl dX10_isLoose_19 h (fun v2 h => ?_)
    refine lv_iconst (v := 3) C.1.1 C.1.2.1 dX10_isLoose_20 (by decide) ?_
    refine yy_icmp_ne (tgt := 28) C dX10_isLoose_21 (by decide) h (fun h => ?_) (fun h => ?_)
    · refine lv_iconst (v := 0) C.1.1 C.1.2.1 dX10_isLoose_28 (by decide) ?_
      exact yy_iret C Z hr hlk rfl dX10_isLoose_29 h
    · refine lv_iconst (v := 1) C.1.1 C.1.2.1 dX10_isLoose_24 (by decide) ?_
      refine lv_goto (tgt := 29) C.1.1 C.1.2.1 dX10_isLoose_25 (by decide) ?_
      exact yy_iret C Z hr hlk rfl dX10_isLoose_29 h
set_option maxHeartbeats 4000000 in
set_option maxRecDepth 100000 in
theorem ss_X10_isLoose (l : Launch) (D : va_G) (κ : Nat → Nat) (ext : va_W) (x1 : Int32) (x2 : Int32) : yy_Mi l D κ ext yX10_isLoose cX10_isLoose 3 (some .boolean) rm_X10_isLoose 0 0 [.ref (κ 4 + 112), .int x1, .int x2] (mm_X10_isLoose x1 x2) := by
  intro sz τ res h
  refine yy_ofW (by decide) (Nat.le_of_ble_eq_true rfl) ?_
  intro p e s m args below meth c ls hsz E
  obtain ⟨C, hr, hlk, Z, hl⟩ := E
  subst hsz
  exact ww_X10_isLoose_E  C hr hlk Z hl h
/-! MovedLinesModel.blockFrom(II)I -/
noncomputable def mm_X10_blockFrom_2b (x1 : Int32) (x2 : Int32) (x3 : Int32) : yy_M ((Int32) ⊕ ((Int32))) :=
  yy_cl (mm_X10_isLoose 0 (x1 + x3)) (fun r1 => yy_br (r1 = 0) (yy_rt (.inr x3)) (yy_cl (mm_X10_isLoose 1 (x2 + x3)) (fun r2 => yy_br (r2 = 0) (yy_rt (.inr x3)) (yy_cl (mm_X10_areAlike_ (x1 + x3) (x2 + x3)) (fun r3 => yy_br (r3 = 0) (yy_rt (.inr x3)) (yy_rt (.inl (x3 + 1))))))))
noncomputable def mm_X10_blockFrom_43 (x3 : Int32) : yy_M Int32 :=
  yy_rt x3
noncomputable def mm_X10_blockFrom_2 (x1 : Int32) (x2 : Int32) (x3 : Int32) : yy_M Int32 :=
  yy_cl (yy_lp (fun (w : Int32) => mm_X10_blockFrom_2b x1 x2 w) x3) (fun w => mm_X10_blockFrom_43 w)
noncomputable def mm_X10_blockFrom (x1 : Int32) (x2 : Int32) : yy_M Int32 :=
  mm_X10_blockFrom_2 x1 x2 0
theorem kw_X10_blockFrom : yy_wV RX10 yX10_blockFrom cX10_blockFrom 4 (some .int) 2 := ⟨⟨tw_935, tw_37, tw_61, tw_936⟩, by decide +kernel⟩
abbrev rm_X10_blockFrom : Room := { frames := 4, cells := 0, slots := 0, locals := 92 }
set_option maxHeartbeats 4000000 in
set_option maxRecDepth 100000 in
theorem ww_X10_blockFrom_2b {x1 : Int32} {x2 : Int32} {x3 : Int32} {res : ((Int32) ⊕ ((Int32))) × yy_T} {Q : State → Prop} (C : yy_C D κ p m c cX10_blockFrom 4 s args RX10) (Z : yy_Z D κ ext A s.heap τ H locs) (hl : lv_has ls 4 [(0, .ref (κ 4 + 112)), (1, .int x1), (2, .int x2), (3, .int x3)]) (h : mm_X10_blockFrom_2b x1 x2 x3 τ = some res)
    (kI : ∀ (w : Int32) (τ1 : yy_T) (H1 : Heap) (locs1 : List Loc) (ls1 : Array Slot), res = (.inl w, τ1) → yy_Z D κ ext A s.heap τ1 H1 locs1 → lv_has ls1 4 [(0, .ref (κ 4 + 112)), (1, .int x1), (2, .int x2), (3, .int w)] → W p l e rm_X10_blockFrom s m args below meth c H1 locs1 0 0 Q (F0 m 2 ls1 []))
    (kR0 : ∀ (w : Int32) (τ1 : yy_T) (H1 : Heap) (locs1 : List Loc) (ls1 : Array Slot), res = (.inr w, τ1) → yy_Z D κ ext A s.heap τ1 H1 locs1 → lv_has ls1 4 [(3, .int w)] → W p l e rm_X10_blockFrom s m args below meth c H1 locs1 0 0 Q (F0 m 43 ls1 [])) : W p l e rm_X10_blockFrom s m args below meth c H locs 0 0 Q (F0 m 2 ls []) := by
  unfold mm_X10_blockFrom_2b at h
  refine lv_aload_n C.1.1 C.1.2.1 dX10_blockFrom_2 rfl (lv_at hl 0 rfl) ?_
  refine lv_iconst (v := 0) C.1.1 C.1.2.1 dX10_blockFrom_3 (by decide) ?_
  refine lv_iload_n C.1.1 C.1.2.1 dX10_blockFrom_4 rfl (lv_at hl 1 rfl) ?_
  refine lv_iload_n C.1.1 C.1.2.1 dX10_blockFrom_5 rfl (lv_at hl 3 rfl) ?_
  refine lv_iadd C.1.1 C.1.2.1 dX10_blockFrom_6 ?_
  refine yy_cVi0 (As := [.int 0, .int (x1 + x3)]) (rest := []) (id := 112) (ci := 10) (q := (RX10, TX10, 20)) C Z (ss_X10_isLoose l D κ ext 0 (x1 + x3)) (by decide) (yy_ent_112 _) rfl tw_937 kw_X10_isLoose ⟨⟨rfl, rfl⟩, ⟨Nat.le_of_ble_eq_true rfl, Nat.le_of_ble_eq_true rfl⟩, Nat.le_of_ble_eq_true rfl, Nat.le_of_ble_eq_true rfl⟩ hl.1 rfl (Nat.le_of_ble_eq_true rfl) dX10_blockFrom_7 h (fun r1 τ H locs Z h => ?_)
  refine yy_if_eq (tgt := 43) C dX10_blockFrom_10 (by decide) h (fun h => ?_) (fun h => ?_)
  · exact kR0 _ _ _ _ _ (yy_rt_of h) Z (lv_sub hl [3] rfl)
  · refine lv_aload_n C.1.1 C.1.2.1 dX10_blockFrom_13 rfl (lv_at hl 0 rfl) ?_
    refine lv_iconst (v := 1) C.1.1 C.1.2.1 dX10_blockFrom_14 (by decide) ?_
    refine lv_iload_n C.1.1 C.1.2.1 dX10_blockFrom_15 rfl (lv_at hl 2 rfl) ?_
    refine lv_iload_n C.1.1 C.1.2.1 dX10_blockFrom_16 rfl (lv_at hl 3 rfl) ?_
    refine lv_iadd C.1.1 C.1.2.1 dX10_blockFrom_17 ?_
    refine yy_cVi0 (As := [.int 1, .int (x2 + x3)]) (rest := []) (id := 112) (ci := 10) (q := (RX10, TX10, 20)) C Z (ss_X10_isLoose l D κ ext 1 (x2 + x3)) (by decide) (yy_ent_112 _) rfl tw_937 kw_X10_isLoose ⟨⟨rfl, rfl⟩, ⟨Nat.le_of_ble_eq_true rfl, Nat.le_of_ble_eq_true rfl⟩, Nat.le_of_ble_eq_true rfl, Nat.le_of_ble_eq_true rfl⟩ hl.1 rfl (Nat.le_of_ble_eq_true rfl) dX10_blockFrom_18 h (fun r2 τ H locs Z h => ?_)
    refine yy_if_eq (tgt := 43) C dX10_blockFrom_21 (by decide) h (fun h => ?_) (fun h => ?_)
    · exact kR0 _ _ _ _ _ (yy_rt_of h) Z (lv_sub hl [3] rfl)
    · refine lv_aload_n C.1.1 C.1.2.1 dX10_blockFrom_24 rfl (lv_at hl 0 rfl) ?_
      refine lv_iload_n C.1.1 C.1.2.1 dX10_blockFrom_25 rfl (lv_at hl 1 rfl) ?_
      refine lv_iload_n C.1.1 C.1.2.1 dX10_blockFrom_26 rfl (lv_at hl 3 rfl) ?_
      refine lv_iadd C.1.1 C.1.2.1 dX10_blockFrom_27 ?_
      refine lv_iload_n C.1.1 C.1.2.1 dX10_blockFrom_28 rfl (lv_at hl 2 rfl) ?_
      refine lv_iload_n C.1.1 C.1.2.1 dX10_blockFrom_29 rfl (lv_at hl 3 rfl) ?_
      refine lv_iadd C.1.1 C.1.2.1 dX10_blockFrom_30 ?_
      refine yy_cVi0 (As := [.int (x1 + x3), .int (x2 + x3)]) (rest := []) (id := 112) (ci := 10) (q := (RX10, TX10, 20)) C Z (ss_X10_areAlike_ l D κ ext (x1 + x3) (x2 + x3)) (by decide) (yy_ent_112 _) rfl tw_902 kw_X10_areAlike_ ⟨⟨rfl, rfl⟩, ⟨Nat.le_of_ble_eq_true rfl, Nat.le_of_ble_eq_true rfl⟩, Nat.le_of_ble_eq_true rfl, Nat.le_of_ble_eq_true rfl⟩ hl.1 rfl (Nat.le_of_ble_eq_true rfl) dX10_blockFrom_31 h (fun r3 τ H locs Z h => ?_)
      refine yy_if_eq (tgt := 43) C dX10_blockFrom_34 (by decide) h (fun h => ?_) (fun h => ?_)
      · exact kR0 _ _ _ _ _ (yy_rt_of h) Z (lv_sub hl [3] rfl)
      · refine lv_iinc (v := x3 + 1) (lv' := [(3, .int (x3 + 1)), (0, .ref (κ 4 + 112)), (1, .int x1), (2, .int x2)]) C.1.1 C.1.2.1 dX10_blockFrom_37 hl (k := 3) rfl (by rfl) (by decide) rfl (fun ls hl => ?_)
        refine lv_goto (tgt := 2) C.1.1 C.1.2.1 dX10_blockFrom_40 (by decide) ?_
        exact kI _ _ _ _ _ (yy_rt_of h) Z (lv_sub hl [1, 2, 3, 0] rfl)
set_option maxHeartbeats 4000000 in
set_option maxRecDepth 100000 in
theorem ww_X10_blockFrom_43 {x3 : Int32} {res : Int32 × yy_T} (C : yy_C D κ p m c cX10_blockFrom 4 s args RX10) (hr : meth.sig.returnType = (some .int)) (hlk : meth.locks = false) (Z : yy_Z D κ ext A s.heap τ H locs) (hl : lv_has ls 4 [(3, .int x3)]) (h : mm_X10_blockFrom_43 x3 τ = some res) : W p l e rm_X10_blockFrom s m args below meth c H locs 0 0 (MQ below (yy_Qi D κ ext A res) args s 0 0 A) (F0 m 43 ls []) := by
  unfold mm_X10_blockFrom_43 at h
  refine lv_iload_n C.1.1 C.1.2.1 dX10_blockFrom_43 rfl (lv_at hl 0 rfl) ?_
  exact yy_iret C Z hr hlk rfl dX10_blockFrom_44 h
set_option maxHeartbeats 4000000 in
set_option maxRecDepth 100000 in
theorem ww_X10_blockFrom_2 {x1 : Int32} {x2 : Int32} {x3 : Int32} {res : Int32 × yy_T} (C : yy_C D κ p m c cX10_blockFrom 4 s args RX10) (hr : meth.sig.returnType = (some .int)) (hlk : meth.locks = false) (Z : yy_Z D κ ext A s.heap τ H locs) (hl : lv_has ls 4 [(0, .ref (κ 4 + 112)), (1, .int x1), (2, .int x2), (3, .int x3)]) (h : mm_X10_blockFrom_2 x1 x2 x3 τ = some res) : W p l e rm_X10_blockFrom s m args below meth c H locs 0 0 (MQ below (yy_Qi D κ ext A res) args s 0 0 A) (F0 m 2 ls []) := by
  unfold mm_X10_blockFrom_2 at h
  refine yy_loop h (fun (w : Int32) (τ : yy_T) => ∀ (H : Heap) (locs : List Loc) (ls : Array Slot), yy_Z D κ ext A s.heap τ H locs → lv_has ls 4 [(0, .ref (κ 4 + 112)), (1, .int x1), (2, .int x2), (3, .int w)] → W p l e rm_X10_blockFrom s m args below meth c H locs 0 0 (MQ below (yy_Qi D κ ext A res) args s 0 0 A) (F0 m 2 ls [])) ?_ H locs ls Z hl
  intro w τ y hy hI hX H locs ls Z hl
  refine ww_X10_blockFrom_2b  C Z hl hy (fun w τ H locs ls ey Z hl => hI w τ ey H locs ls Z hl) (fun w τ H locs ls ey Z hl => ?_)
  · have h := hX _ _ ey
    exact ww_X10_blockFrom_43  C hr hlk Z (lv_sub hl [0] rfl) h
set_option maxHeartbeats 4000000 in
set_option maxRecDepth 100000 in
theorem ww_X10_blockFrom_E {x1 : Int32} {x2 : Int32} {res : Int32 × yy_T} (C : yy_C D κ p m c cX10_blockFrom 4 s args RX10) (hr : meth.sig.returnType = (some .int)) (hlk : meth.locks = false) (Z : yy_Z D κ ext A s.heap τ H locs) (hl : lv_has ls 4 [(0, .ref (κ 4 + 112)), (1, .int x1), (2, .int x2)]) (h : mm_X10_blockFrom x1 x2 τ = some res) : W p l e rm_X10_blockFrom s m args below meth c H locs 0 0 (MQ below (yy_Qi D κ ext A res) args s 0 0 A) (F0 m 0 ls []) := by
  unfold mm_X10_blockFrom at h
  refine lv_iconst (v := 0) C.1.1 C.1.2.1 dX10_blockFrom_0 (by decide) ?_
  refine lv_istore_n (lv' := [(3, .int 0), (0, .ref (κ 4 + 112)), (1, .int x1), (2, .int x2)]) C.1.1 C.1.2.1 dX10_blockFrom_1 rfl hl (by decide) rfl (fun ls hl => ?_)
  exact ww_X10_blockFrom_2  C hr hlk Z (lv_sub hl [1, 2, 3, 0] rfl) h
set_option maxHeartbeats 4000000 in
set_option maxRecDepth 100000 in
theorem ss_X10_blockFrom (l : Launch) (D : va_G) (κ : Nat → Nat) (ext : va_W) (x1 : Int32) (x2 : Int32) : yy_Mi l D κ ext yX10_blockFrom cX10_blockFrom 4 (some .int) rm_X10_blockFrom 0 0 [.ref (κ 4 + 112), .int x1, .int x2] (mm_X10_blockFrom x1 x2) := by
  intro sz τ res h
  refine yy_ofW (by decide) (Nat.le_of_ble_eq_true rfl) ?_
  intro p e s m args below meth c ls hsz E
  obtain ⟨C, hr, hlk, Z, hl⟩ := E
  subst hsz
  exact ww_X10_blockFrom_E  C hr hlk Z hl h
/-! MovedLinesModel.laysBlocks()V -/
noncomputable def mm_X10_laysBlocks_52 (x1 : Int32) (x2 : Int32) (x3 : Int32) : yy_M ((Int32 × Int32 × Int32) ⊕ ((Int32 × Int32))) :=
  yy_rt (.inl (x1, x2, (x3 + 1)))
noncomputable def mm_X10_laysBlocks_17b (x1 : Int32) (x2 : Int32) (x3 : Int32) : yy_M ((Int32 × Int32 × Int32) ⊕ ((Int32 × Int32))) :=
  yy_br (196 ≤ x3) (yy_rt (.inr (x1, x2))) (yy_cl (mm_X10_blockFrom (x3 / 14) (x3 - x3 / 14 * 14)) (fun r1 => yy_br (x1 < r1) (mm_X10_laysBlocks_52 r1 x3 x3) (mm_X10_laysBlocks_52 x1 x2 x3)))
noncomputable def mm_X10_laysBlocks_65b (x1 : Int32) (x2 : Int32) (x3 : Int32) : yy_M ((Int32) ⊕ ((Unit))) :=
  yy_br (x1 ≤ x3) (yy_rt (.inr ())) (yy_cl (mm_X10_couples ((x2 / 14) + x3) ((x2 - x2 / 14 * 14) + x3) 1) (fun _ => yy_rF 112 16 fun v2 => yy_wA 119 28 ((x2 / 14) + x3) v2 (yy_rF 112 16 fun v3 => yy_wA 119 28 ((14 + (x2 - x2 / 14 * 14)) + x3) v3 (yy_rt (.inl (x3 + 1))))))
noncomputable def mm_X10_laysBlocks_126 (x1 : Int32) (x2 : Int32) : yy_M ((Int32) ⊕ ((Unit) ⊕ (Unit))) :=
  yy_rF 112 16 fun v4 => yy_wA 122 42 (3 * v4) (x2 / 14) (yy_rF 112 16 fun v5 => yy_wA 122 42 ((3 * v5) + 1) (x2 - x2 / 14 * 14) (yy_rF 112 16 fun v6 => yy_wA 122 42 ((3 * v6) + 2) x1 (yy_rF 112 16 fun v7 => yy_wF 112 16 (v7 + 1) (yy_rt (.inl x1)))))
noncomputable def mm_X10_laysBlocks_65 (x1 : Int32) (x2 : Int32) (x3 : Int32) : yy_M ((Int32) ⊕ ((Unit) ⊕ (Unit))) :=
  yy_cl (yy_lp (fun (w : Int32) => mm_X10_laysBlocks_65b x1 x2 w) x3) (fun w => mm_X10_laysBlocks_126 x1 x2)
noncomputable def mm_X10_laysBlocks_58 (x1 : Int32) (x2 : Int32) : yy_M ((Int32) ⊕ ((Unit) ⊕ (Unit))) :=
  yy_br (x1 = 0) (yy_rt (.inr (.inr ()))) (mm_X10_laysBlocks_65 x1 x2 0)
noncomputable def mm_X10_laysBlocks_17 (x1 : Int32) (x2 : Int32) (x3 : Int32) : yy_M ((Int32) ⊕ ((Unit) ⊕ (Unit))) :=
  yy_cl (yy_lp (fun (w : Int32 × Int32 × Int32) => mm_X10_laysBlocks_17b w.1 w.2.1 w.2.2) (x1, x2, x3)) (fun w => mm_X10_laysBlocks_58 w.1 w.2)
noncomputable def mm_X10_laysBlocks_7b (x1 : Int32) : yy_M ((Int32) ⊕ ((Unit) ⊕ (Unit))) :=
  yy_br (x1 ≤ 0) (yy_rt (.inr (.inl ()))) (mm_X10_laysBlocks_17 0 0 0)
noncomputable def mm_X10_laysBlocks_185 : yy_M Unit :=
  yy_rt ()
noncomputable def mm_X10_laysBlocks_62 : yy_M Unit :=
  yy_rt ()
noncomputable def mm_X10_laysBlocks_7 (x1 : Int32) : yy_M Unit :=
  yy_cl (yy_lp (fun (w : Int32) => mm_X10_laysBlocks_7b w) x1) (Sum.elim (fun w => mm_X10_laysBlocks_185 ) (fun w => mm_X10_laysBlocks_62 ))
noncomputable def mm_X10_laysBlocks : yy_M Unit :=
  yy_wF 112 16 0 (mm_X10_laysBlocks_7 1)
theorem kw_X10_laysBlocks : yy_wV RX10 yX10_laysBlocks cX10_laysBlocks 5 none 0 := ⟨⟨tw_931, tw_36, tw_61, tw_932⟩, by decide +kernel⟩
abbrev rm_X10_laysBlocks : Room := { frames := 5, cells := 0, slots := 0, locals := 115 }
set_option maxHeartbeats 4000000 in
set_option maxRecDepth 100000 in
theorem ww_X10_laysBlocks_52 {x1 : Int32} {x2 : Int32} {x3 : Int32} {res : ((Int32 × Int32 × Int32) ⊕ ((Int32 × Int32))) × yy_T} {Q : State → Prop} (C : yy_C D κ p m c cX10_laysBlocks 5 s args RX10) (Z : yy_Z D κ ext A s.heap τ H locs) (hl : lv_has ls 5 [(0, .ref (κ 4 + 112)), (1, .int x1), (2, .int x2), (3, .int x3)]) (h : mm_X10_laysBlocks_52 x1 x2 x3 τ = some res)
    (kI : ∀ (w : Int32 × Int32 × Int32) (τ1 : yy_T) (H1 : Heap) (locs1 : List Loc) (ls1 : Array Slot), res = (.inl w, τ1) → yy_Z D κ ext A s.heap τ1 H1 locs1 → lv_has ls1 5 [(0, .ref (κ 4 + 112)), (1, .int w.1), (2, .int w.2.1), (3, .int w.2.2)] → W p l e rm_X10_laysBlocks s m args below meth c H1 locs1 0 0 Q (F0 m 17 ls1 [])) : W p l e rm_X10_laysBlocks s m args below meth c H locs 0 0 Q (F0 m 52 ls []) := by
  unfold mm_X10_laysBlocks_52 at h
  refine lv_iinc (v := x3 + 1) (lv' := [(3, .int (x3 + 1)), (0, .ref (κ 4 + 112)), (1, .int x1), (2, .int x2)]) C.1.1 C.1.2.1 dX10_laysBlocks_52 hl (k := 3) rfl (by rfl) (by decide) rfl (fun ls hl => ?_)
  refine lv_goto (tgt := 17) C.1.1 C.1.2.1 dX10_laysBlocks_55 (by decide) ?_
  exact kI _ _ _ _ _ (yy_rt_of h) Z (lv_sub hl [1, 2, 3, 0] rfl)
set_option maxHeartbeats 4000000 in
set_option maxRecDepth 100000 in
theorem ww_X10_laysBlocks_17b {x1 : Int32} {x2 : Int32} {x3 : Int32} {res : ((Int32 × Int32 × Int32) ⊕ ((Int32 × Int32))) × yy_T} {Q : State → Prop} (C : yy_C D κ p m c cX10_laysBlocks 5 s args RX10) (Z : yy_Z D κ ext A s.heap τ H locs) (hl : lv_has ls 5 [(0, .ref (κ 4 + 112)), (1, .int x1), (2, .int x2), (3, .int x3)]) (h : mm_X10_laysBlocks_17b x1 x2 x3 τ = some res)
    (kI : ∀ (w : Int32 × Int32 × Int32) (τ1 : yy_T) (H1 : Heap) (locs1 : List Loc) (ls1 : Array Slot), res = (.inl w, τ1) → yy_Z D κ ext A s.heap τ1 H1 locs1 → lv_has ls1 5 [(0, .ref (κ 4 + 112)), (1, .int w.1), (2, .int w.2.1), (3, .int w.2.2)] → W p l e rm_X10_laysBlocks s m args below meth c H1 locs1 0 0 Q (F0 m 17 ls1 []))
    (kR0 : ∀ (w : Int32 × Int32) (τ1 : yy_T) (H1 : Heap) (locs1 : List Loc) (ls1 : Array Slot), res = (.inr w, τ1) → yy_Z D κ ext A s.heap τ1 H1 locs1 → lv_has ls1 5 [(0, .ref (κ 4 + 112)), (1, .int w.1), (2, .int w.2)] → W p l e rm_X10_laysBlocks s m args below meth c H1 locs1 0 0 Q (F0 m 58 ls1 [])) : W p l e rm_X10_laysBlocks s m args below meth c H locs 0 0 Q (F0 m 17 ls []) := by
  unfold mm_X10_laysBlocks_17b at h
  refine lv_iload_n C.1.1 C.1.2.1 dX10_laysBlocks_17 rfl (lv_at hl 3 rfl) ?_
  refine lv_sipush (v := 196) C.1.1 C.1.2.1 dX10_laysBlocks_18 (by decide) ?_
  refine yy_icmp_ge (tgt := 58) C dX10_laysBlocks_21 (by decide) h (fun h => ?_) (fun h => ?_)
  · exact kR0 _ _ _ _ _ (yy_rt_of h) Z (lv_sub hl [0, 1, 2] rfl)
  · refine lv_aload_n C.1.1 C.1.2.1 dX10_laysBlocks_24 rfl (lv_at hl 0 rfl) ?_
    refine lv_iload_n C.1.1 C.1.2.1 dX10_laysBlocks_25 rfl (lv_at hl 3 rfl) ?_
    refine lv_bipush (v := 14) C.1.1 C.1.2.1 dX10_laysBlocks_26 (by decide) ?_
    refine lv_idiv C.1.1 C.1.2.1 dX10_laysBlocks_28 (by decide) ?_
    refine lv_iload_n C.1.1 C.1.2.1 dX10_laysBlocks_29 rfl (lv_at hl 3 rfl) ?_
    refine lv_bipush (v := 14) C.1.1 C.1.2.1 dX10_laysBlocks_30 (by decide) ?_
    refine lv_irem C.1.1 C.1.2.1 dX10_laysBlocks_32 (by decide) ?_
    refine yy_cVi0 (As := [.int (x3 / 14), .int (x3 - x3 / 14 * 14)]) (rest := []) (id := 112) (ci := 10) (q := (RX10, TX10, 20)) C Z (ss_X10_blockFrom l D κ ext (x3 / 14) (x3 - x3 / 14 * 14)) (by decide) (yy_ent_112 _) rfl tw_933 kw_X10_blockFrom ⟨⟨rfl, rfl⟩, ⟨Nat.le_of_ble_eq_true rfl, Nat.le_of_ble_eq_true rfl⟩, Nat.le_of_ble_eq_true rfl, Nat.le_of_ble_eq_true rfl⟩ hl.1 rfl (Nat.le_of_ble_eq_true rfl) dX10_laysBlocks_33 h (fun r1 τ H locs Z h => ?_)
    refine lv_istore (lv' := [(4, .int r1), (0, .ref (κ 4 + 112)), (1, .int x1), (2, .int x2), (3, .int x3)]) C.1.1 C.1.2.1 dX10_laysBlocks_36 hl (by decide) rfl (fun ls hl => ?_)
    refine lv_iload C.1.1 C.1.2.1 dX10_laysBlocks_38 (lv_at hl 0 rfl) ?_
    refine lv_iload_n C.1.1 C.1.2.1 dX10_laysBlocks_40 rfl (lv_at hl 2 rfl) ?_
    refine yy_icmp_gt (tgt := 47) C dX10_laysBlocks_41 (by decide) h (fun h => ?_) (fun h => ?_)
    · refine lv_iload C.1.1 C.1.2.1 dX10_laysBlocks_47 (lv_at hl 0 rfl) ?_
      refine lv_istore_n (lv' := [(1, .int r1), (4, .int r1), (0, .ref (κ 4 + 112)), (2, .int x2), (3, .int x3)]) C.1.1 C.1.2.1 dX10_laysBlocks_49 rfl hl (by decide) rfl (fun ls hl => ?_)
      refine lv_iload_n C.1.1 C.1.2.1 dX10_laysBlocks_50 rfl (lv_at hl 4 rfl) ?_
      refine lv_istore_n (lv' := [(2, .int x3), (1, .int r1), (4, .int r1), (0, .ref (κ 4 + 112)), (3, .int x3)]) C.1.1 C.1.2.1 dX10_laysBlocks_51 rfl hl (by decide) rfl (fun ls hl => ?_)
      exact ww_X10_laysBlocks_52  C Z (lv_sub hl [3, 1, 0, 4] rfl) h kI
    · refine lv_goto (tgt := 52) C.1.1 C.1.2.1 dX10_laysBlocks_44 (by decide) ?_
      exact ww_X10_laysBlocks_52  C Z (lv_sub hl [1, 2, 3, 4] rfl) h kI
set_option maxHeartbeats 4000000 in
set_option maxRecDepth 100000 in
theorem ww_X10_laysBlocks_65b {x1 : Int32} {x2 : Int32} {x3 : Int32} {res : ((Int32) ⊕ ((Unit))) × yy_T} {Q : State → Prop} (C : yy_C D κ p m c cX10_laysBlocks 5 s args RX10) (Z : yy_Z D κ ext A s.heap τ H locs) (hl : lv_has ls 5 [(0, .ref (κ 4 + 112)), (1, .int x1), (2, .int x2), (3, .int x3)]) (h : mm_X10_laysBlocks_65b x1 x2 x3 τ = some res)
    (kI : ∀ (w : Int32) (τ1 : yy_T) (H1 : Heap) (locs1 : List Loc) (ls1 : Array Slot), res = (.inl w, τ1) → yy_Z D κ ext A s.heap τ1 H1 locs1 → lv_has ls1 5 [(0, .ref (κ 4 + 112)), (1, .int x1), (2, .int x2), (3, .int w)] → W p l e rm_X10_laysBlocks s m args below meth c H1 locs1 0 0 Q (F0 m 65 ls1 []))
    (kR0 : ∀ (w : Unit) (τ1 : yy_T) (H1 : Heap) (locs1 : List Loc) (ls1 : Array Slot), res = (.inr w, τ1) → yy_Z D κ ext A s.heap τ1 H1 locs1 → lv_has ls1 5 [(0, .ref (κ 4 + 112)), (1, .int x1), (2, .int x2)] → W p l e rm_X10_laysBlocks s m args below meth c H1 locs1 0 0 Q (F0 m 126 ls1 [])) : W p l e rm_X10_laysBlocks s m args below meth c H locs 0 0 Q (F0 m 65 ls []) := by
  unfold mm_X10_laysBlocks_65b at h
  refine lv_iload_n C.1.1 C.1.2.1 dX10_laysBlocks_65 rfl (lv_at hl 3 rfl) ?_
  refine lv_iload_n C.1.1 C.1.2.1 dX10_laysBlocks_66 rfl (lv_at hl 1 rfl) ?_
  refine yy_icmp_ge (tgt := 126) C dX10_laysBlocks_67 (by decide) h (fun h => ?_) (fun h => ?_)
  · exact kR0 _ _ _ _ _ (yy_rt_of h) Z (lv_sub hl [0, 1, 2] rfl)
  · refine lv_aload_n C.1.1 C.1.2.1 dX10_laysBlocks_70 rfl (lv_at hl 0 rfl) ?_
    refine lv_iload_n C.1.1 C.1.2.1 dX10_laysBlocks_71 rfl (lv_at hl 2 rfl) ?_
    refine lv_bipush (v := 14) C.1.1 C.1.2.1 dX10_laysBlocks_72 (by decide) ?_
    refine lv_idiv C.1.1 C.1.2.1 dX10_laysBlocks_74 (by decide) ?_
    refine lv_iload_n C.1.1 C.1.2.1 dX10_laysBlocks_75 rfl (lv_at hl 3 rfl) ?_
    refine lv_iadd C.1.1 C.1.2.1 dX10_laysBlocks_76 ?_
    refine lv_iload_n C.1.1 C.1.2.1 dX10_laysBlocks_77 rfl (lv_at hl 2 rfl) ?_
    refine lv_bipush (v := 14) C.1.1 C.1.2.1 dX10_laysBlocks_78 (by decide) ?_
    refine lv_irem C.1.1 C.1.2.1 dX10_laysBlocks_80 (by decide) ?_
    refine lv_iload_n C.1.1 C.1.2.1 dX10_laysBlocks_81 rfl (lv_at hl 3 rfl) ?_
    refine lv_iadd C.1.1 C.1.2.1 dX10_laysBlocks_82 ?_
    refine lv_iconst (v := 1) C.1.1 C.1.2.1 dX10_laysBlocks_83 (by decide) ?_
    refine yy_cVv0 (As := [.int ((x2 / 14) + x3), .int ((x2 - x2 / 14 * 14) + x3), .int 1]) (rest := []) (id := 112) (ci := 10) (q := (RX10, TX10, 20)) C Z (ss_X10_couples l D κ ext ((x2 / 14) + x3) ((x2 - x2 / 14 * 14) + x3) 1) (by decide) (yy_ent_112 _) rfl tw_921 kw_X10_couples ⟨⟨rfl, rfl⟩, ⟨Nat.le_of_ble_eq_true rfl, Nat.le_of_ble_eq_true rfl⟩, Nat.le_of_ble_eq_true rfl, Nat.le_of_ble_eq_true rfl⟩ hl.1 rfl (Nat.le_of_ble_eq_true rfl) dX10_laysBlocks_84 h (fun τ H locs Z h => ?_)
    refine lv_aload_n C.1.1 C.1.2.1 dX10_laysBlocks_87 rfl (lv_at hl 0 rfl) ?_
    refine yg_X10_12 C Z tw_804 dX10_laysBlocks_88 ?_
    refine lv_iload_n C.1.1 C.1.2.1 dX10_laysBlocks_91 rfl (lv_at hl 2 rfl) ?_
    refine lv_bipush (v := 14) C.1.1 C.1.2.1 dX10_laysBlocks_92 (by decide) ?_
    refine lv_idiv C.1.1 C.1.2.1 dX10_laysBlocks_94 (by decide) ?_
    refine lv_iload_n C.1.1 C.1.2.1 dX10_laysBlocks_95 rfl (lv_at hl 3 rfl) ?_
    refine lv_iadd C.1.1 C.1.2.1 dX10_laysBlocks_96 ?_
    refine lv_aload_n C.1.1 C.1.2.1 dX10_laysBlocks_97 rfl (lv_at hl 0 rfl) ?_
    refine yg_X10_16 C Z tw_808 dX10_laysBlocks_98 h (fun v2 h => ?_)
    refine yy_iast C Z (by decide) rfl dX10_laysBlocks_101 h (fun H locs τ Z h => ?_)
    refine lv_aload_n C.1.1 C.1.2.1 dX10_laysBlocks_102 rfl (lv_at hl 0 rfl) ?_
    refine yg_X10_12 C Z tw_804 dX10_laysBlocks_103 ?_
    refine lv_bipush (v := 14) C.1.1 C.1.2.1 dX10_laysBlocks_106 (by decide) ?_
    refine lv_iload_n C.1.1 C.1.2.1 dX10_laysBlocks_108 rfl (lv_at hl 2 rfl) ?_
    refine lv_bipush (v := 14) C.1.1 C.1.2.1 dX10_laysBlocks_109 (by decide) ?_
    refine lv_irem C.1.1 C.1.2.1 dX10_laysBlocks_111 (by decide) ?_
    refine lv_iadd C.1.1 C.1.2.1 dX10_laysBlocks_112 ?_
    refine lv_iload_n C.1.1 C.1.2.1 dX10_laysBlocks_113 rfl (lv_at hl 3 rfl) ?_
    refine lv_iadd C.1.1 C.1.2.1 dX10_laysBlocks_114 ?_
    refine lv_aload_n C.1.1 C.1.2.1 dX10_laysBlocks_115 rfl (lv_at hl 0 rfl) ?_
    refine yg_X10_16 C Z tw_808 dX10_laysBlocks_116 h (fun v3 h => ?_)
    refine yy_iast C Z (by decide) rfl dX10_laysBlocks_119 h (fun H locs τ Z h => ?_)
    refine lv_iinc (v := x3 + 1) (lv' := [(3, .int (x3 + 1)), (0, .ref (κ 4 + 112)), (1, .int x1), (2, .int x2)]) C.1.1 C.1.2.1 dX10_laysBlocks_120 hl (k := 3) rfl (by rfl) (by decide) rfl (fun ls hl => ?_)
    refine lv_goto (tgt := 65) C.1.1 C.1.2.1 dX10_laysBlocks_123 (by decide) ?_
    exact kI _ _ _ _ _ (yy_rt_of h) Z (lv_sub hl [1, 2, 3, 0] rfl)
set_option maxHeartbeats 4000000 in
set_option maxRecDepth 100000 in
theorem ww_X10_laysBlocks_126 {x1 : Int32} {x2 : Int32} {res : ((Int32) ⊕ ((Unit) ⊕ (Unit))) × yy_T} {Q : State → Prop} (C : yy_C D κ p m c cX10_laysBlocks 5 s args RX10) (Z : yy_Z D κ ext A s.heap τ H locs) (hl : lv_has ls 5 [(0, .ref (κ 4 + 112)), (1, .int x1), (2, .int x2)]) (h : mm_X10_laysBlocks_126 x1 x2 τ = some res)
    (kI : ∀ (w : Int32) (τ1 : yy_T) (H1 : Heap) (locs1 : List Loc) (ls1 : Array Slot), res = (.inl w, τ1) → yy_Z D κ ext A s.heap τ1 H1 locs1 → lv_has ls1 5 [(0, .ref (κ 4 + 112)), (1, .int w)] → W p l e rm_X10_laysBlocks s m args below meth c H1 locs1 0 0 Q (F0 m 7 ls1 [])) : W p l e rm_X10_laysBlocks s m args below meth c H locs 0 0 Q (F0 m 126 ls []) := by
  unfold mm_X10_laysBlocks_126 at h
  refine lv_aload_n C.1.1 C.1.2.1 dX10_laysBlocks_126 rfl (lv_at hl 0 rfl) ?_
  refine yg_X10_15 C Z tw_807 dX10_laysBlocks_127 ?_
  refine lv_iconst (v := 3) C.1.1 C.1.2.1 dX10_laysBlocks_130 (by decide) ?_
  refine lv_aload_n C.1.1 C.1.2.1 dX10_laysBlocks_131 rfl (lv_at hl 0 rfl) ?_
  refine yg_X10_16 C Z tw_808 dX10_laysBlocks_132 h (fun v4 h => ?_)
  refine lv_imul C.1.1 C.1.2.1 dX10_laysBlocks_135 ?_
  refine lv_iload_n C.1.1 C.1.2.1 dX10_laysBlocks_136 rfl (lv_at hl 2 rfl) ?_
  refine lv_bipush (v := 14) C.1.1 C.1.2.1 dX10_laysBlocks_137 (by decide) ?_
  refine lv_idiv C.1.1 C.1.2.1 dX10_laysBlocks_139 (by decide) ?_
  refine yy_iast C Z (by decide) rfl dX10_laysBlocks_140 h (fun H locs τ Z h => ?_)
  refine lv_aload_n C.1.1 C.1.2.1 dX10_laysBlocks_141 rfl (lv_at hl 0 rfl) ?_
  refine yg_X10_15 C Z tw_807 dX10_laysBlocks_142 ?_
  refine lv_iconst (v := 3) C.1.1 C.1.2.1 dX10_laysBlocks_145 (by decide) ?_
  refine lv_aload_n C.1.1 C.1.2.1 dX10_laysBlocks_146 rfl (lv_at hl 0 rfl) ?_
  refine yg_X10_16 C Z tw_808 dX10_laysBlocks_147 h (fun v5 h => ?_)
  refine lv_imul C.1.1 C.1.2.1 dX10_laysBlocks_150 ?_
  refine lv_iconst (v := 1) C.1.1 C.1.2.1 dX10_laysBlocks_151 (by decide) ?_
  refine lv_iadd C.1.1 C.1.2.1 dX10_laysBlocks_152 ?_
  refine lv_iload_n C.1.1 C.1.2.1 dX10_laysBlocks_153 rfl (lv_at hl 2 rfl) ?_
  refine lv_bipush (v := 14) C.1.1 C.1.2.1 dX10_laysBlocks_154 (by decide) ?_
  refine lv_irem C.1.1 C.1.2.1 dX10_laysBlocks_156 (by decide) ?_
  refine yy_iast C Z (by decide) rfl dX10_laysBlocks_157 h (fun H locs τ Z h => ?_)
  refine lv_aload_n C.1.1 C.1.2.1 dX10_laysBlocks_158 rfl (lv_at hl 0 rfl) ?_
  refine yg_X10_15 C Z tw_807 dX10_laysBlocks_159 ?_
  refine lv_iconst (v := 3) C.1.1 C.1.2.1 dX10_laysBlocks_162 (by decide) ?_
  refine lv_aload_n C.1.1 C.1.2.1 dX10_laysBlocks_163 rfl (lv_at hl 0 rfl) ?_
  refine yg_X10_16 C Z tw_808 dX10_laysBlocks_164 h (fun v6 h => ?_)
  refine lv_imul C.1.1 C.1.2.1 dX10_laysBlocks_167 ?_
  refine lv_iconst (v := 2) C.1.1 C.1.2.1 dX10_laysBlocks_168 (by decide) ?_
  refine lv_iadd C.1.1 C.1.2.1 dX10_laysBlocks_169 ?_
  refine lv_iload_n C.1.1 C.1.2.1 dX10_laysBlocks_170 rfl (lv_at hl 1 rfl) ?_
  refine yy_iast C Z (by decide) rfl dX10_laysBlocks_171 h (fun H locs τ Z h => ?_)
  refine lv_aload_n C.1.1 C.1.2.1 dX10_laysBlocks_172 rfl (lv_at hl 0 rfl) ?_
  refine lv_dup C.1.1 C.1.2.1 dX10_laysBlocks_173 rfl ?_
  refine yg_X10_16 C Z tw_808 dX10_laysBlocks_174 h (fun v7 h => ?_)
  refine lv_iconst (v := 1) C.1.1 C.1.2.1 dX10_laysBlocks_177 (by decide) ?_
  refine lv_iadd C.1.1 C.1.2.1 dX10_laysBlocks_178 ?_
  refine yp_X10_16 C Z tw_808 dX10_laysBlocks_179 h (fun H locs τ Z h => ?_)
  refine lv_goto (tgt := 7) C.1.1 C.1.2.1 dX10_laysBlocks_182 (by decide) ?_
  exact kI _ _ _ _ _ (yy_rt_of h) Z (lv_sub hl [0, 1] rfl)
set_option maxHeartbeats 4000000 in
set_option maxRecDepth 100000 in
theorem ww_X10_laysBlocks_65 {x1 : Int32} {x2 : Int32} {x3 : Int32} {res : ((Int32) ⊕ ((Unit) ⊕ (Unit))) × yy_T} {Q : State → Prop} (C : yy_C D κ p m c cX10_laysBlocks 5 s args RX10) (Z : yy_Z D κ ext A s.heap τ H locs) (hl : lv_has ls 5 [(0, .ref (κ 4 + 112)), (1, .int x1), (2, .int x2), (3, .int x3)]) (h : mm_X10_laysBlocks_65 x1 x2 x3 τ = some res)
    (kI : ∀ (w : Int32) (τ1 : yy_T) (H1 : Heap) (locs1 : List Loc) (ls1 : Array Slot), res = (.inl w, τ1) → yy_Z D κ ext A s.heap τ1 H1 locs1 → lv_has ls1 5 [(0, .ref (κ 4 + 112)), (1, .int w)] → W p l e rm_X10_laysBlocks s m args below meth c H1 locs1 0 0 Q (F0 m 7 ls1 [])) : W p l e rm_X10_laysBlocks s m args below meth c H locs 0 0 Q (F0 m 65 ls []) := by
  unfold mm_X10_laysBlocks_65 at h
  refine yy_loop h (fun (w : Int32) (τ : yy_T) => ∀ (H : Heap) (locs : List Loc) (ls : Array Slot), yy_Z D κ ext A s.heap τ H locs → lv_has ls 5 [(0, .ref (κ 4 + 112)), (1, .int x1), (2, .int x2), (3, .int w)] → W p l e rm_X10_laysBlocks s m args below meth c H locs 0 0 Q (F0 m 65 ls [])) ?_ H locs ls Z hl
  intro w τ y hy hI hX H locs ls Z hl
  refine ww_X10_laysBlocks_65b  C Z hl hy (fun w τ H locs ls ey Z hl => hI w τ ey H locs ls Z hl) (fun w τ H locs ls ey Z hl => ?_)
  · have h := hX _ _ ey
    exact ww_X10_laysBlocks_126  C Z (lv_sub hl [0, 1, 2] rfl) h kI
set_option maxHeartbeats 4000000 in
set_option maxRecDepth 100000 in
theorem ww_X10_laysBlocks_58 {x1 : Int32} {x2 : Int32} {res : ((Int32) ⊕ ((Unit) ⊕ (Unit))) × yy_T} {Q : State → Prop} (C : yy_C D κ p m c cX10_laysBlocks 5 s args RX10) (Z : yy_Z D κ ext A s.heap τ H locs) (hl : lv_has ls 5 [(0, .ref (κ 4 + 112)), (1, .int x1), (2, .int x2)]) (h : mm_X10_laysBlocks_58 x1 x2 τ = some res)
    (kI : ∀ (w : Int32) (τ1 : yy_T) (H1 : Heap) (locs1 : List Loc) (ls1 : Array Slot), res = (.inl w, τ1) → yy_Z D κ ext A s.heap τ1 H1 locs1 → lv_has ls1 5 [(0, .ref (κ 4 + 112)), (1, .int w)] → W p l e rm_X10_laysBlocks s m args below meth c H1 locs1 0 0 Q (F0 m 7 ls1 []))
    (kR1 : ∀ (w : Unit) (τ1 : yy_T) (H1 : Heap) (locs1 : List Loc) (ls1 : Array Slot), res = (.inr (.inr w), τ1) → yy_Z D κ ext A s.heap τ1 H1 locs1 → lv_has ls1 5 [] → W p l e rm_X10_laysBlocks s m args below meth c H1 locs1 0 0 Q (F0 m 62 ls1 [])) : W p l e rm_X10_laysBlocks s m args below meth c H locs 0 0 Q (F0 m 58 ls []) := by
  unfold mm_X10_laysBlocks_58 at h
  refine lv_iload_n C.1.1 C.1.2.1 dX10_laysBlocks_58 rfl (lv_at hl 1 rfl) ?_
  refine yy_if_ne (tgt := 63) C dX10_laysBlocks_59 (by decide) h (fun h => ?_) (fun h => ?_)
  · refine lv_iconst (v := 0) C.1.1 C.1.2.1 dX10_laysBlocks_63 (by decide) ?_
    refine lv_istore_n (lv' := [(3, .int 0), (0, .ref (κ 4 + 112)), (1, .int x1), (2, .int x2)]) C.1.1 C.1.2.1 dX10_laysBlocks_64 rfl hl (by decide) rfl (fun ls hl => ?_)
    exact ww_X10_laysBlocks_65  C Z (lv_sub hl [1, 2, 3, 0] rfl) h kI
  · exact kR1 _ _ _ _ _ (yy_rt_of h) Z (lv_sub hl [] rfl)
set_option maxHeartbeats 4000000 in
set_option maxRecDepth 100000 in
theorem ww_X10_laysBlocks_17 {x1 : Int32} {x2 : Int32} {x3 : Int32} {res : ((Int32) ⊕ ((Unit) ⊕ (Unit))) × yy_T} {Q : State → Prop} (C : yy_C D κ p m c cX10_laysBlocks 5 s args RX10) (Z : yy_Z D κ ext A s.heap τ H locs) (hl : lv_has ls 5 [(0, .ref (κ 4 + 112)), (1, .int x1), (2, .int x2), (3, .int x3)]) (h : mm_X10_laysBlocks_17 x1 x2 x3 τ = some res)
    (kI : ∀ (w : Int32) (τ1 : yy_T) (H1 : Heap) (locs1 : List Loc) (ls1 : Array Slot), res = (.inl w, τ1) → yy_Z D κ ext A s.heap τ1 H1 locs1 → lv_has ls1 5 [(0, .ref (κ 4 + 112)), (1, .int w)] → W p l e rm_X10_laysBlocks s m args below meth c H1 locs1 0 0 Q (F0 m 7 ls1 []))
    (kR1 : ∀ (w : Unit) (τ1 : yy_T) (H1 : Heap) (locs1 : List Loc) (ls1 : Array Slot), res = (.inr (.inr w), τ1) → yy_Z D κ ext A s.heap τ1 H1 locs1 → lv_has ls1 5 [] → W p l e rm_X10_laysBlocks s m args below meth c H1 locs1 0 0 Q (F0 m 62 ls1 [])) : W p l e rm_X10_laysBlocks s m args below meth c H locs 0 0 Q (F0 m 17 ls []) := by
  unfold mm_X10_laysBlocks_17 at h
  refine yy_loop h (fun (w : Int32 × Int32 × Int32) (τ : yy_T) => ∀ (H : Heap) (locs : List Loc) (ls : Array Slot), yy_Z D κ ext A s.heap τ H locs → lv_has ls 5 [(0, .ref (κ 4 + 112)), (1, .int w.1), (2, .int w.2.1), (3, .int w.2.2)] → W p l e rm_X10_laysBlocks s m args below meth c H locs 0 0 Q (F0 m 17 ls [])) ?_ H locs ls Z hl
  intro w τ y hy hI hX H locs ls Z hl
  refine ww_X10_laysBlocks_17b  C Z hl hy (fun w τ H locs ls ey Z hl => hI w τ ey H locs ls Z hl) (fun w τ H locs ls ey Z hl => ?_)
  · have h := hX _ _ ey
    exact ww_X10_laysBlocks_58  C Z (lv_sub hl [0, 1, 2] rfl) h kI kR1
set_option maxHeartbeats 4000000 in
set_option maxRecDepth 100000 in
theorem ww_X10_laysBlocks_7b {x1 : Int32} {res : ((Int32) ⊕ ((Unit) ⊕ (Unit))) × yy_T} {Q : State → Prop} (C : yy_C D κ p m c cX10_laysBlocks 5 s args RX10) (Z : yy_Z D κ ext A s.heap τ H locs) (hl : lv_has ls 5 [(0, .ref (κ 4 + 112)), (1, .int x1)]) (h : mm_X10_laysBlocks_7b x1 τ = some res)
    (kI : ∀ (w : Int32) (τ1 : yy_T) (H1 : Heap) (locs1 : List Loc) (ls1 : Array Slot), res = (.inl w, τ1) → yy_Z D κ ext A s.heap τ1 H1 locs1 → lv_has ls1 5 [(0, .ref (κ 4 + 112)), (1, .int w)] → W p l e rm_X10_laysBlocks s m args below meth c H1 locs1 0 0 Q (F0 m 7 ls1 []))
    (kR0 : ∀ (w : Unit) (τ1 : yy_T) (H1 : Heap) (locs1 : List Loc) (ls1 : Array Slot), res = (.inr (.inl w), τ1) → yy_Z D κ ext A s.heap τ1 H1 locs1 → lv_has ls1 5 [] → W p l e rm_X10_laysBlocks s m args below meth c H1 locs1 0 0 Q (F0 m 185 ls1 []))
    (kR1 : ∀ (w : Unit) (τ1 : yy_T) (H1 : Heap) (locs1 : List Loc) (ls1 : Array Slot), res = (.inr (.inr w), τ1) → yy_Z D κ ext A s.heap τ1 H1 locs1 → lv_has ls1 5 [] → W p l e rm_X10_laysBlocks s m args below meth c H1 locs1 0 0 Q (F0 m 62 ls1 [])) : W p l e rm_X10_laysBlocks s m args below meth c H locs 0 0 Q (F0 m 7 ls []) := by
  unfold mm_X10_laysBlocks_7b at h
  refine lv_iload_n C.1.1 C.1.2.1 dX10_laysBlocks_7 rfl (lv_at hl 1 rfl) ?_
  refine yy_if_le (tgt := 185) C dX10_laysBlocks_8 (by decide) h (fun h => ?_) (fun h => ?_)
  · exact kR0 _ _ _ _ _ (yy_rt_of h) Z (lv_sub hl [] rfl)
  · refine lv_iconst (v := 0) C.1.1 C.1.2.1 dX10_laysBlocks_11 (by decide) ?_
    refine lv_istore_n (lv' := [(1, .int 0), (0, .ref (κ 4 + 112))]) C.1.1 C.1.2.1 dX10_laysBlocks_12 rfl hl (by decide) rfl (fun ls hl => ?_)
    refine lv_iconst (v := 0) C.1.1 C.1.2.1 dX10_laysBlocks_13 (by decide) ?_
    refine lv_istore_n (lv' := [(2, .int 0), (1, .int 0), (0, .ref (κ 4 + 112))]) C.1.1 C.1.2.1 dX10_laysBlocks_14 rfl hl (by decide) rfl (fun ls hl => ?_)
    refine lv_iconst (v := 0) C.1.1 C.1.2.1 dX10_laysBlocks_15 (by decide) ?_
    refine lv_istore_n (lv' := [(3, .int 0), (2, .int 0), (1, .int 0), (0, .ref (κ 4 + 112))]) C.1.1 C.1.2.1 dX10_laysBlocks_16 rfl hl (by decide) rfl (fun ls hl => ?_)
    exact ww_X10_laysBlocks_17  C Z (lv_sub hl [3, 2, 1, 0] rfl) h kI kR1
set_option maxHeartbeats 4000000 in
set_option maxRecDepth 100000 in
theorem ww_X10_laysBlocks_185 {res : Unit × yy_T} (C : yy_C D κ p m c cX10_laysBlocks 5 s args RX10) (hr : meth.sig.returnType = none) (hlk : meth.locks = false) (Z : yy_Z D κ ext A s.heap τ H locs) (hl : lv_has ls 5 []) (h : mm_X10_laysBlocks_185  τ = some res) : W p l e rm_X10_laysBlocks s m args below meth c H locs 0 0 (MQ below (yy_Qv D κ ext A res) args s 0 0 A) (F0 m 185 ls []) := by
  unfold mm_X10_laysBlocks_185 at h
  exact yy_vret C Z hr hlk dX10_laysBlocks_185 h
set_option maxHeartbeats 4000000 in
set_option maxRecDepth 100000 in
theorem ww_X10_laysBlocks_62 {res : Unit × yy_T} (C : yy_C D κ p m c cX10_laysBlocks 5 s args RX10) (hr : meth.sig.returnType = none) (hlk : meth.locks = false) (Z : yy_Z D κ ext A s.heap τ H locs) (hl : lv_has ls 5 []) (h : mm_X10_laysBlocks_62  τ = some res) : W p l e rm_X10_laysBlocks s m args below meth c H locs 0 0 (MQ below (yy_Qv D κ ext A res) args s 0 0 A) (F0 m 62 ls []) := by
  unfold mm_X10_laysBlocks_62 at h
  exact yy_vret C Z hr hlk dX10_laysBlocks_62 h
set_option maxHeartbeats 4000000 in
set_option maxRecDepth 100000 in
theorem ww_X10_laysBlocks_7 {x1 : Int32} {res : Unit × yy_T} (C : yy_C D κ p m c cX10_laysBlocks 5 s args RX10) (hr : meth.sig.returnType = none) (hlk : meth.locks = false) (Z : yy_Z D κ ext A s.heap τ H locs) (hl : lv_has ls 5 [(0, .ref (κ 4 + 112)), (1, .int x1)]) (h : mm_X10_laysBlocks_7 x1 τ = some res) : W p l e rm_X10_laysBlocks s m args below meth c H locs 0 0 (MQ below (yy_Qv D κ ext A res) args s 0 0 A) (F0 m 7 ls []) := by
  unfold mm_X10_laysBlocks_7 at h
  refine yy_loop h (fun (w : Int32) (τ : yy_T) => ∀ (H : Heap) (locs : List Loc) (ls : Array Slot), yy_Z D κ ext A s.heap τ H locs → lv_has ls 5 [(0, .ref (κ 4 + 112)), (1, .int w)] → W p l e rm_X10_laysBlocks s m args below meth c H locs 0 0 (MQ below (yy_Qv D κ ext A res) args s 0 0 A) (F0 m 7 ls [])) ?_ H locs ls Z hl
  intro w τ y hy hI hX H locs ls Z hl
  refine ww_X10_laysBlocks_7b  C Z hl hy (fun w τ H locs ls ey Z hl => hI w τ ey H locs ls Z hl) (fun w τ H locs ls ey Z hl => ?_) (fun w τ H locs ls ey Z hl => ?_)
  · have h := hX _ _ ey
    exact ww_X10_laysBlocks_185  C hr hlk Z (lv_sub hl [] rfl) h
  · have h := hX _ _ ey
    exact ww_X10_laysBlocks_62  C hr hlk Z (lv_sub hl [] rfl) h
set_option maxHeartbeats 4000000 in
set_option maxRecDepth 100000 in
theorem ww_X10_laysBlocks_E {res : Unit × yy_T} (C : yy_C D κ p m c cX10_laysBlocks 5 s args RX10) (hr : meth.sig.returnType = none) (hlk : meth.locks = false) (Z : yy_Z D κ ext A s.heap τ H locs) (hl : lv_has ls 5 [(0, .ref (κ 4 + 112))]) (h : mm_X10_laysBlocks  τ = some res) : W p l e rm_X10_laysBlocks s m args below meth c H locs 0 0 (MQ below (yy_Qv D κ ext A res) args s 0 0 A) (F0 m 0 ls []) := by
  unfold mm_X10_laysBlocks at h
  refine lv_aload_n C.1.1 C.1.2.1 dX10_laysBlocks_0 rfl (lv_at hl 0 rfl) ?_
  refine lv_iconst (v := 0) C.1.1 C.1.2.1 dX10_laysBlocks_1 (by decide) ?_
  refine yp_X10_16 C Z tw_808 dX10_laysBlocks_2 h (fun H locs τ Z h => ?_)
  refine lv_iconst (v := 1) C.1.1 C.1.2.1 dX10_laysBlocks_5 (by decide) ?_
  refine lv_istore_n (lv' := [(1, .int 1), (0, .ref (κ 4 + 112))]) C.1.1 C.1.2.1 dX10_laysBlocks_6 rfl hl (by decide) rfl (fun ls hl => ?_)
  exact ww_X10_laysBlocks_7  C hr hlk Z (lv_sub hl [1, 0] rfl) h
set_option maxHeartbeats 4000000 in
set_option maxRecDepth 100000 in
theorem ss_X10_laysBlocks (l : Launch) (D : va_G) (κ : Nat → Nat) (ext : va_W) : yy_Mv l D κ ext yX10_laysBlocks cX10_laysBlocks 5 none rm_X10_laysBlocks 0 0 [.ref (κ 4 + 112)] (mm_X10_laysBlocks ) := by
  intro sz τ res h
  refine yy_ofW (by decide) (Nat.le_of_ble_eq_true rfl) ?_
  intro p e s m args below meth c ls hsz E
  obtain ⟨C, hr, hlk, Z, hl⟩ := E
  subst hsz
  exact ww_X10_laysBlocks_E  C hr hlk Z hl h
/-! MovedLinesModel.sharedOf(II)I -/
noncomputable def mm_X10_sharedOf_180 (x1 : Int32) (x2 : Int32) (x3 : Int32) (x4 : Int32) (x5 : Int32) (x6 : Int32) (x7 : Int32) : yy_M ((Int32) ⊕ ((Unit))) :=
  yy_wA 123 81 ((9 * x5) + x6) x7 (yy_rt (.inl (x6 + (-1))))
noncomputable def mm_X10_sharedOf_116 (x1 : Int32) (x2 : Int32) (x3 : Int32) (x4 : Int32) (x5 : Int32) (x6 : Int32) (s0 : Int32) : yy_M ((Int32) ⊕ ((Unit))) :=
  yy_cl (mm_X10_word 0 x1 x5) (fun r6 => yy_cl (mm_X10_word 1 x2 x6) (fun r7 => yy_br (r6 = r7) (yy_rA 123 81 (((9 * x5) + 10) + x6) fun v8 => yy_br ((v8 + 1) ≤ s0) (mm_X10_sharedOf_180 x1 x2 x3 x4 x5 x6 s0) (yy_rA 123 81 (((9 * x5) + 10) + x6) fun v9 => mm_X10_sharedOf_180 x1 x2 x3 x4 x5 x6 (v9 + 1))) (mm_X10_sharedOf_180 x1 x2 x3 x4 x5 x6 s0)))
noncomputable def mm_X10_sharedOf_27b (x1 : Int32) (x2 : Int32) (x3 : Int32) (x4 : Int32) (x5 : Int32) (x6 : Int32) : yy_M ((Int32) ⊕ ((Unit))) :=
  yy_br (x6 < 0) (yy_rt (.inr ())) (yy_br (x3 ≤ x5) (mm_X10_sharedOf_180 x1 x2 x3 x4 x5 x6 0) (yy_br (x4 ≤ x6) (mm_X10_sharedOf_180 x1 x2 x3 x4 x5 x6 0) (yy_rA 123 81 (((9 * x5) + 9) + x6) fun v3 => yy_rA 123 81 (((9 * x5) + x6) + 1) fun v4 => yy_br (v3 ≤ v4) (yy_rA 123 81 (((9 * x5) + x6) + 1) fun v5 => mm_X10_sharedOf_116 x1 x2 x3 x4 x5 x6 v5) (yy_rA 123 81 (((9 * x5) + 9) + x6) fun v10 => mm_X10_sharedOf_116 x1 x2 x3 x4 x5 x6 v10))))
noncomputable def mm_X10_sharedOf_201 (x1 : Int32) (x2 : Int32) (x3 : Int32) (x4 : Int32) (x5 : Int32) : yy_M ((Int32) ⊕ ((Unit))) :=
  yy_rt (.inl (x5 + (-1)))
noncomputable def mm_X10_sharedOf_27 (x1 : Int32) (x2 : Int32) (x3 : Int32) (x4 : Int32) (x5 : Int32) (x6 : Int32) : yy_M ((Int32) ⊕ ((Unit))) :=
  yy_cl (yy_lp (fun (w : Int32) => mm_X10_sharedOf_27b x1 x2 x3 x4 x5 w) x6) (fun w => mm_X10_sharedOf_201 x1 x2 x3 x4 x5)
noncomputable def mm_X10_sharedOf_18b (x1 : Int32) (x2 : Int32) (x3 : Int32) (x4 : Int32) (x5 : Int32) : yy_M ((Int32) ⊕ ((Unit))) :=
  yy_br (x5 < 0) (yy_rt (.inr ())) (mm_X10_sharedOf_27 x1 x2 x3 x4 x5 x4)
noncomputable def mm_X10_sharedOf_207 : yy_M Int32 :=
  yy_rA 123 81 0 fun v11 => yy_rt v11
noncomputable def mm_X10_sharedOf_18 (x1 : Int32) (x2 : Int32) (x3 : Int32) (x4 : Int32) (x5 : Int32) : yy_M Int32 :=
  yy_cl (yy_lp (fun (w : Int32) => mm_X10_sharedOf_18b x1 x2 x3 x4 w) x5) (fun w => mm_X10_sharedOf_207 )
noncomputable def mm_X10_sharedOf (x1 : Int32) (x2 : Int32) : yy_M Int32 :=
  yy_cl (mm_X10_wordsOf 0 x1) (fun r1 => yy_cl (mm_X10_wordsOf 1 x2) (fun r2 => mm_X10_sharedOf_18 x1 x2 r1 r2 r1))
theorem kw_X10_sharedOf : yy_wV RX10 yX10_sharedOf cX10_sharedOf 8 (some .int) 2 := ⟨⟨tw_947, tw_40, tw_61, tw_948⟩, by decide +kernel⟩
abbrev rm_X10_sharedOf : Room := { frames := 2, cells := 0, slots := 0, locals := 44 }
set_option maxHeartbeats 4000000 in
set_option maxRecDepth 100000 in
theorem ww_X10_sharedOf_180 {x1 : Int32} {x2 : Int32} {x3 : Int32} {x4 : Int32} {x5 : Int32} {x6 : Int32} {x7 : Int32} {res : ((Int32) ⊕ ((Unit))) × yy_T} {Q : State → Prop} (C : yy_C D κ p m c cX10_sharedOf 8 s args RX10) (Z : yy_Z D κ ext A s.heap τ H locs) (hl : lv_has ls 8 [(0, .ref (κ 4 + 112)), (1, .int x1), (2, .int x2), (3, .int x3), (4, .int x4), (5, .int x5), (6, .int x6), (7, .int x7)]) (h : mm_X10_sharedOf_180 x1 x2 x3 x4 x5 x6 x7 τ = some res)
    (kI : ∀ (w : Int32) (τ1 : yy_T) (H1 : Heap) (locs1 : List Loc) (ls1 : Array Slot), res = (.inl w, τ1) → yy_Z D κ ext A s.heap τ1 H1 locs1 → lv_has ls1 8 [(0, .ref (κ 4 + 112)), (1, .int x1), (2, .int x2), (3, .int x3), (4, .int x4), (5, .int x5), (6, .int w)] → W p l e rm_X10_sharedOf s m args below meth c H1 locs1 0 0 Q (F0 m 27 ls1 [])) : W p l e rm_X10_sharedOf s m args below meth c H locs 0 0 Q (F0 m 180 ls []) := by
  unfold mm_X10_sharedOf_180 at h
  refine lv_aload_n C.1.1 C.1.2.1 dX10_sharedOf_180 rfl (lv_at hl 0 rfl) ?_
  refine yg_X10_19 C Z tw_811 dX10_sharedOf_181 ?_
  refine lv_bipush (v := 9) C.1.1 C.1.2.1 dX10_sharedOf_184 (by decide) ?_
  refine lv_iload C.1.1 C.1.2.1 dX10_sharedOf_186 (lv_at hl 5 rfl) ?_
  refine lv_imul C.1.1 C.1.2.1 dX10_sharedOf_188 ?_
  refine lv_iload C.1.1 C.1.2.1 dX10_sharedOf_189 (lv_at hl 6 rfl) ?_
  refine lv_iadd C.1.1 C.1.2.1 dX10_sharedOf_191 ?_
  refine lv_iload C.1.1 C.1.2.1 dX10_sharedOf_192 (lv_at hl 7 rfl) ?_
  refine yy_iast C Z (by decide) rfl dX10_sharedOf_194 h (fun H locs τ Z h => ?_)
  refine lv_iinc (v := x6 + (-1)) (lv' := [(6, .int (x6 + (-1))), (0, .ref (κ 4 + 112)), (1, .int x1), (2, .int x2), (3, .int x3), (4, .int x4), (5, .int x5), (7, .int x7)]) C.1.1 C.1.2.1 dX10_sharedOf_195 hl (k := 6) rfl (by rfl) (by decide) rfl (fun ls hl => ?_)
  refine lv_goto (tgt := 27) C.1.1 C.1.2.1 dX10_sharedOf_198 (by decide) ?_
  exact kI _ _ _ _ _ (yy_rt_of h) Z (lv_sub hl [1, 2, 3, 4, 5, 6, 0] rfl)
set_option maxHeartbeats 4000000 in
set_option maxRecDepth 100000 in
theorem ww_X10_sharedOf_116 {x1 : Int32} {x2 : Int32} {x3 : Int32} {x4 : Int32} {x5 : Int32} {x6 : Int32} {s0 : Int32} {res : ((Int32) ⊕ ((Unit))) × yy_T} {Q : State → Prop} (C : yy_C D κ p m c cX10_sharedOf 8 s args RX10) (Z : yy_Z D κ ext A s.heap τ H locs) (hl : lv_has ls 8 [(0, .ref (κ 4 + 112)), (1, .int x1), (2, .int x2), (3, .int x3), (4, .int x4), (5, .int x5), (6, .int x6)]) (h : mm_X10_sharedOf_116 x1 x2 x3 x4 x5 x6 s0 τ = some res)
    (kI : ∀ (w : Int32) (τ1 : yy_T) (H1 : Heap) (locs1 : List Loc) (ls1 : Array Slot), res = (.inl w, τ1) → yy_Z D κ ext A s.heap τ1 H1 locs1 → lv_has ls1 8 [(0, .ref (κ 4 + 112)), (1, .int x1), (2, .int x2), (3, .int x3), (4, .int x4), (5, .int x5), (6, .int w)] → W p l e rm_X10_sharedOf s m args below meth c H1 locs1 0 0 Q (F0 m 27 ls1 [])) : W p l e rm_X10_sharedOf s m args below meth c H locs 0 0 Q (F0 m 116 ls [.int s0]) := by
  unfold mm_X10_sharedOf_116 at h
  refine lv_istore (lv' := [(7, .int s0), (0, .ref (κ 4 + 112)), (1, .int x1), (2, .int x2), (3, .int x3), (4, .int x4), (5, .int x5), (6, .int x6)]) C.1.1 C.1.2.1 dX10_sharedOf_116 hl (by decide) rfl (fun ls hl => ?_)
  refine lv_aload_n C.1.1 C.1.2.1 dX10_sharedOf_118 rfl (lv_at hl 1 rfl) ?_
  refine lv_iconst (v := 0) C.1.1 C.1.2.1 dX10_sharedOf_119 (by decide) ?_
  refine lv_iload_n C.1.1 C.1.2.1 dX10_sharedOf_120 rfl (lv_at hl 2 rfl) ?_
  refine lv_iload C.1.1 C.1.2.1 dX10_sharedOf_121 (lv_at hl 6 rfl) ?_
  refine yy_cVi0 (As := [.int 0, .int x1, .int x5]) (rest := []) (id := 112) (ci := 10) (q := (RX10, TX10, 20)) C Z (ss_X10_word l D κ ext 0 x1 x5) (by decide) (yy_ent_112 _) rfl tw_917 kw_X10_word ⟨⟨rfl, rfl⟩, ⟨Nat.le_of_ble_eq_true rfl, Nat.le_of_ble_eq_true rfl⟩, Nat.le_of_ble_eq_true rfl, Nat.le_of_ble_eq_true rfl⟩ hl.1 rfl (Nat.le_of_ble_eq_true rfl) dX10_sharedOf_123 h (fun r6 τ H locs Z h => ?_)
  refine lv_aload_n C.1.1 C.1.2.1 dX10_sharedOf_126 rfl (lv_at hl 1 rfl) ?_
  refine lv_iconst (v := 1) C.1.1 C.1.2.1 dX10_sharedOf_127 (by decide) ?_
  refine lv_iload_n C.1.1 C.1.2.1 dX10_sharedOf_128 rfl (lv_at hl 3 rfl) ?_
  refine lv_iload C.1.1 C.1.2.1 dX10_sharedOf_129 (lv_at hl 7 rfl) ?_
  refine yy_cVi0 (As := [.int 1, .int x2, .int x6]) (rest := [.int r6]) (id := 112) (ci := 10) (q := (RX10, TX10, 20)) C Z (ss_X10_word l D κ ext 1 x2 x6) (by decide) (yy_ent_112 _) rfl tw_917 kw_X10_word ⟨⟨rfl, rfl⟩, ⟨Nat.le_of_ble_eq_true rfl, Nat.le_of_ble_eq_true rfl⟩, Nat.le_of_ble_eq_true rfl, Nat.le_of_ble_eq_true rfl⟩ hl.1 rfl (Nat.le_of_ble_eq_true rfl) dX10_sharedOf_131 h (fun r7 τ H locs Z h => ?_)
  refine yy_icmp_ne (tgt := 180) C dX10_sharedOf_134 (by decide) h (fun h => ?_) (fun h => ?_)
  · exact ww_X10_sharedOf_180  C Z (lv_sub hl [1, 2, 3, 4, 5, 6, 7, 0] rfl) h kI
  · refine lv_aload_n C.1.1 C.1.2.1 dX10_sharedOf_137 rfl (lv_at hl 1 rfl) ?_
    refine yg_X10_19 C Z tw_811 dX10_sharedOf_138 ?_
    refine lv_bipush (v := 9) C.1.1 C.1.2.1 dX10_sharedOf_141 (by decide) ?_
    refine lv_iload C.1.1 C.1.2.1 dX10_sharedOf_143 (lv_at hl 6 rfl) ?_
    refine lv_imul C.1.1 C.1.2.1 dX10_sharedOf_145 ?_
    refine lv_bipush (v := 10) C.1.1 C.1.2.1 dX10_sharedOf_146 (by decide) ?_
    refine lv_iadd C.1.1 C.1.2.1 dX10_sharedOf_148 ?_
    refine lv_iload C.1.1 C.1.2.1 dX10_sharedOf_149 (lv_at hl 7 rfl) ?_
    refine lv_iadd C.1.1 C.1.2.1 dX10_sharedOf_151 ?_
    refine yy_iald C Z (by decide) rfl dX10_sharedOf_152 h (fun v8 h => ?_)
    refine lv_iconst (v := 1) C.1.1 C.1.2.1 dX10_sharedOf_153 (by decide) ?_
    refine lv_iadd C.1.1 C.1.2.1 dX10_sharedOf_154 ?_
    refine lv_iload C.1.1 C.1.2.1 dX10_sharedOf_155 (lv_at hl 0 rfl) ?_
    refine yy_icmp_le (tgt := 180) C dX10_sharedOf_157 (by decide) h (fun h => ?_) (fun h => ?_)
    · exact ww_X10_sharedOf_180  C Z (lv_sub hl [1, 2, 3, 4, 5, 6, 7, 0] rfl) h kI
    · refine lv_aload_n C.1.1 C.1.2.1 dX10_sharedOf_160 rfl (lv_at hl 1 rfl) ?_
      refine yg_X10_19 C Z tw_811 dX10_sharedOf_161 ?_
      refine lv_bipush (v := 9) C.1.1 C.1.2.1 dX10_sharedOf_164 (by decide) ?_
      refine lv_iload C.1.1 C.1.2.1 dX10_sharedOf_166 (lv_at hl 6 rfl) ?_
      refine lv_imul C.1.1 C.1.2.1 dX10_sharedOf_168 ?_
      refine lv_bipush (v := 10) C.1.1 C.1.2.1 dX10_sharedOf_169 (by decide) ?_
      refine lv_iadd C.1.1 C.1.2.1 dX10_sharedOf_171 ?_
      refine lv_iload C.1.1 C.1.2.1 dX10_sharedOf_172 (lv_at hl 7 rfl) ?_
      refine lv_iadd C.1.1 C.1.2.1 dX10_sharedOf_174 ?_
      refine yy_iald C Z (by decide) rfl dX10_sharedOf_175 h (fun v9 h => ?_)
      refine lv_iconst (v := 1) C.1.1 C.1.2.1 dX10_sharedOf_176 (by decide) ?_
      refine lv_iadd C.1.1 C.1.2.1 dX10_sharedOf_177 ?_
      refine lv_istore (lv' := [(7, .int (v9 + 1)), (0, .ref (κ 4 + 112)), (1, .int x1), (2, .int x2), (3, .int x3), (4, .int x4), (5, .int x5), (6, .int x6)]) C.1.1 C.1.2.1 dX10_sharedOf_178 hl (by decide) rfl (fun ls hl => ?_)
      exact ww_X10_sharedOf_180  C Z (lv_sub hl [1, 2, 3, 4, 5, 6, 7, 0] rfl) h kI
set_option maxHeartbeats 4000000 in
set_option maxRecDepth 100000 in
theorem ww_X10_sharedOf_27b {x1 : Int32} {x2 : Int32} {x3 : Int32} {x4 : Int32} {x5 : Int32} {x6 : Int32} {res : ((Int32) ⊕ ((Unit))) × yy_T} {Q : State → Prop} (C : yy_C D κ p m c cX10_sharedOf 8 s args RX10) (Z : yy_Z D κ ext A s.heap τ H locs) (hl : lv_has ls 8 [(0, .ref (κ 4 + 112)), (1, .int x1), (2, .int x2), (3, .int x3), (4, .int x4), (5, .int x5), (6, .int x6)]) (h : mm_X10_sharedOf_27b x1 x2 x3 x4 x5 x6 τ = some res)
    (kI : ∀ (w : Int32) (τ1 : yy_T) (H1 : Heap) (locs1 : List Loc) (ls1 : Array Slot), res = (.inl w, τ1) → yy_Z D κ ext A s.heap τ1 H1 locs1 → lv_has ls1 8 [(0, .ref (κ 4 + 112)), (1, .int x1), (2, .int x2), (3, .int x3), (4, .int x4), (5, .int x5), (6, .int w)] → W p l e rm_X10_sharedOf s m args below meth c H1 locs1 0 0 Q (F0 m 27 ls1 []))
    (kR0 : ∀ (w : Unit) (τ1 : yy_T) (H1 : Heap) (locs1 : List Loc) (ls1 : Array Slot), res = (.inr w, τ1) → yy_Z D κ ext A s.heap τ1 H1 locs1 → lv_has ls1 8 [(0, .ref (κ 4 + 112)), (1, .int x1), (2, .int x2), (3, .int x3), (4, .int x4), (5, .int x5)] → W p l e rm_X10_sharedOf s m args below meth c H1 locs1 0 0 Q (F0 m 201 ls1 [])) : W p l e rm_X10_sharedOf s m args below meth c H locs 0 0 Q (F0 m 27 ls []) := by
  unfold mm_X10_sharedOf_27b at h
  refine lv_iload C.1.1 C.1.2.1 dX10_sharedOf_27 (lv_at hl 6 rfl) ?_
  refine yy_if_lt (tgt := 201) C dX10_sharedOf_29 (by decide) h (fun h => ?_) (fun h => ?_)
  · exact kR0 _ _ _ _ _ (yy_rt_of h) Z (lv_sub hl [0, 1, 2, 3, 4, 5] rfl)
  · refine lv_iconst (v := 0) C.1.1 C.1.2.1 dX10_sharedOf_32 (by decide) ?_
    refine lv_istore (lv' := [(7, .int 0), (0, .ref (κ 4 + 112)), (1, .int x1), (2, .int x2), (3, .int x3), (4, .int x4), (5, .int x5), (6, .int x6)]) C.1.1 C.1.2.1 dX10_sharedOf_33 hl (by decide) rfl (fun ls hl => ?_)
    refine lv_iload C.1.1 C.1.2.1 dX10_sharedOf_35 (lv_at hl 6 rfl) ?_
    refine lv_iload_n C.1.1 C.1.2.1 dX10_sharedOf_37 rfl (lv_at hl 4 rfl) ?_
    refine yy_icmp_ge (tgt := 180) C dX10_sharedOf_38 (by decide) h (fun h => ?_) (fun h => ?_)
    · exact ww_X10_sharedOf_180  C Z (lv_sub hl [1, 2, 3, 4, 5, 6, 7, 0] rfl) h kI
    · refine lv_iload C.1.1 C.1.2.1 dX10_sharedOf_41 (lv_at hl 7 rfl) ?_
      refine lv_iload C.1.1 C.1.2.1 dX10_sharedOf_43 (lv_at hl 5 rfl) ?_
      refine yy_icmp_ge (tgt := 180) C dX10_sharedOf_45 (by decide) h (fun h => ?_) (fun h => ?_)
      · exact ww_X10_sharedOf_180  C Z (lv_sub hl [1, 2, 3, 4, 5, 6, 7, 0] rfl) h kI
      · refine lv_aload_n C.1.1 C.1.2.1 dX10_sharedOf_48 rfl (lv_at hl 1 rfl) ?_
        refine yg_X10_19 C Z tw_811 dX10_sharedOf_49 ?_
        refine lv_bipush (v := 9) C.1.1 C.1.2.1 dX10_sharedOf_52 (by decide) ?_
        refine lv_iload C.1.1 C.1.2.1 dX10_sharedOf_54 (lv_at hl 6 rfl) ?_
        refine lv_imul C.1.1 C.1.2.1 dX10_sharedOf_56 ?_
        refine lv_bipush (v := 9) C.1.1 C.1.2.1 dX10_sharedOf_57 (by decide) ?_
        refine lv_iadd C.1.1 C.1.2.1 dX10_sharedOf_59 ?_
        refine lv_iload C.1.1 C.1.2.1 dX10_sharedOf_60 (lv_at hl 7 rfl) ?_
        refine lv_iadd C.1.1 C.1.2.1 dX10_sharedOf_62 ?_
        refine yy_iald C Z (by decide) rfl dX10_sharedOf_63 h (fun v3 h => ?_)
        refine lv_aload_n C.1.1 C.1.2.1 dX10_sharedOf_64 rfl (lv_at hl 1 rfl) ?_
        refine yg_X10_19 C Z tw_811 dX10_sharedOf_65 ?_
        refine lv_bipush (v := 9) C.1.1 C.1.2.1 dX10_sharedOf_68 (by decide) ?_
        refine lv_iload C.1.1 C.1.2.1 dX10_sharedOf_70 (lv_at hl 6 rfl) ?_
        refine lv_imul C.1.1 C.1.2.1 dX10_sharedOf_72 ?_
        refine lv_iload C.1.1 C.1.2.1 dX10_sharedOf_73 (lv_at hl 7 rfl) ?_
        refine lv_iadd C.1.1 C.1.2.1 dX10_sharedOf_75 ?_
        refine lv_iconst (v := 1) C.1.1 C.1.2.1 dX10_sharedOf_76 (by decide) ?_
        refine lv_iadd C.1.1 C.1.2.1 dX10_sharedOf_77 ?_
        refine yy_iald C Z (by decide) rfl dX10_sharedOf_78 h (fun v4 h => ?_)
        refine yy_icmp_le (tgt := 101) C dX10_sharedOf_79 (by decide) h (fun h => ?_) (fun h => ?_)
        · refine lv_aload_n C.1.1 C.1.2.1 dX10_sharedOf_101 rfl (lv_at hl 1 rfl) ?_
          refine yg_X10_19 C Z tw_811 dX10_sharedOf_102 ?_
          refine lv_bipush (v := 9) C.1.1 C.1.2.1 dX10_sharedOf_105 (by decide) ?_
          refine lv_iload C.1.1 C.1.2.1 dX10_sharedOf_107 (lv_at hl 6 rfl) ?_
          refine lv_imul C.1.1 C.1.2.1 dX10_sharedOf_109 ?_
          refine lv_iload C.1.1 C.1.2.1 dX10_sharedOf_110 (lv_at hl 7 rfl) ?_
          refine lv_iadd C.1.1 C.1.2.1 dX10_sharedOf_112 ?_
          refine lv_iconst (v := 1) C.1.1 C.1.2.1 dX10_sharedOf_113 (by decide) ?_
          refine lv_iadd C.1.1 C.1.2.1 dX10_sharedOf_114 ?_
          refine yy_iald C Z (by decide) rfl dX10_sharedOf_115 h (fun v5 h => ?_)
          exact ww_X10_sharedOf_116  C Z (lv_sub hl [1, 2, 3, 4, 5, 6, 7] rfl) h kI
        · refine lv_aload_n C.1.1 C.1.2.1 dX10_sharedOf_82 rfl (lv_at hl 1 rfl) ?_
          refine yg_X10_19 C Z tw_811 dX10_sharedOf_83 ?_
          refine lv_bipush (v := 9) C.1.1 C.1.2.1 dX10_sharedOf_86 (by decide) ?_
          refine lv_iload C.1.1 C.1.2.1 dX10_sharedOf_88 (lv_at hl 6 rfl) ?_
          refine lv_imul C.1.1 C.1.2.1 dX10_sharedOf_90 ?_
          refine lv_bipush (v := 9) C.1.1 C.1.2.1 dX10_sharedOf_91 (by decide) ?_
          refine lv_iadd C.1.1 C.1.2.1 dX10_sharedOf_93 ?_
          refine lv_iload C.1.1 C.1.2.1 dX10_sharedOf_94 (lv_at hl 7 rfl) ?_
          refine lv_iadd C.1.1 C.1.2.1 dX10_sharedOf_96 ?_
          refine yy_iald C Z (by decide) rfl dX10_sharedOf_97 h (fun v10 h => ?_)
          refine lv_goto (tgt := 116) C.1.1 C.1.2.1 dX10_sharedOf_98 (by decide) ?_
          exact ww_X10_sharedOf_116  C Z (lv_sub hl [1, 2, 3, 4, 5, 6, 7] rfl) h kI
set_option maxHeartbeats 4000000 in
set_option maxRecDepth 100000 in
theorem ww_X10_sharedOf_201 {x1 : Int32} {x2 : Int32} {x3 : Int32} {x4 : Int32} {x5 : Int32} {res : ((Int32) ⊕ ((Unit))) × yy_T} {Q : State → Prop} (C : yy_C D κ p m c cX10_sharedOf 8 s args RX10) (Z : yy_Z D κ ext A s.heap τ H locs) (hl : lv_has ls 8 [(0, .ref (κ 4 + 112)), (1, .int x1), (2, .int x2), (3, .int x3), (4, .int x4), (5, .int x5)]) (h : mm_X10_sharedOf_201 x1 x2 x3 x4 x5 τ = some res)
    (kI : ∀ (w : Int32) (τ1 : yy_T) (H1 : Heap) (locs1 : List Loc) (ls1 : Array Slot), res = (.inl w, τ1) → yy_Z D κ ext A s.heap τ1 H1 locs1 → lv_has ls1 8 [(0, .ref (κ 4 + 112)), (1, .int x1), (2, .int x2), (3, .int x3), (4, .int x4), (5, .int w)] → W p l e rm_X10_sharedOf s m args below meth c H1 locs1 0 0 Q (F0 m 18 ls1 [])) : W p l e rm_X10_sharedOf s m args below meth c H locs 0 0 Q (F0 m 201 ls []) := by
  unfold mm_X10_sharedOf_201 at h
  refine lv_iinc (v := x5 + (-1)) (lv' := [(5, .int (x5 + (-1))), (0, .ref (κ 4 + 112)), (1, .int x1), (2, .int x2), (3, .int x3), (4, .int x4)]) C.1.1 C.1.2.1 dX10_sharedOf_201 hl (k := 5) rfl (by rfl) (by decide) rfl (fun ls hl => ?_)
  refine lv_goto (tgt := 18) C.1.1 C.1.2.1 dX10_sharedOf_204 (by decide) ?_
  exact kI _ _ _ _ _ (yy_rt_of h) Z (lv_sub hl [1, 2, 3, 4, 5, 0] rfl)
set_option maxHeartbeats 4000000 in
set_option maxRecDepth 100000 in
theorem ww_X10_sharedOf_27 {x1 : Int32} {x2 : Int32} {x3 : Int32} {x4 : Int32} {x5 : Int32} {x6 : Int32} {res : ((Int32) ⊕ ((Unit))) × yy_T} {Q : State → Prop} (C : yy_C D κ p m c cX10_sharedOf 8 s args RX10) (Z : yy_Z D κ ext A s.heap τ H locs) (hl : lv_has ls 8 [(0, .ref (κ 4 + 112)), (1, .int x1), (2, .int x2), (3, .int x3), (4, .int x4), (5, .int x5), (6, .int x6)]) (h : mm_X10_sharedOf_27 x1 x2 x3 x4 x5 x6 τ = some res)
    (kI : ∀ (w : Int32) (τ1 : yy_T) (H1 : Heap) (locs1 : List Loc) (ls1 : Array Slot), res = (.inl w, τ1) → yy_Z D κ ext A s.heap τ1 H1 locs1 → lv_has ls1 8 [(0, .ref (κ 4 + 112)), (1, .int x1), (2, .int x2), (3, .int x3), (4, .int x4), (5, .int w)] → W p l e rm_X10_sharedOf s m args below meth c H1 locs1 0 0 Q (F0 m 18 ls1 [])) : W p l e rm_X10_sharedOf s m args below meth c H locs 0 0 Q (F0 m 27 ls []) := by
  unfold mm_X10_sharedOf_27 at h
  refine yy_loop h (fun (w : Int32) (τ : yy_T) => ∀ (H : Heap) (locs : List Loc) (ls : Array Slot), yy_Z D κ ext A s.heap τ H locs → lv_has ls 8 [(0, .ref (κ 4 + 112)), (1, .int x1), (2, .int x2), (3, .int x3), (4, .int x4), (5, .int x5), (6, .int w)] → W p l e rm_X10_sharedOf s m args below meth c H locs 0 0 Q (F0 m 27 ls [])) ?_ H locs ls Z hl
  intro w τ y hy hI hX H locs ls Z hl
  refine ww_X10_sharedOf_27b  C Z hl hy (fun w τ H locs ls ey Z hl => hI w τ ey H locs ls Z hl) (fun w τ H locs ls ey Z hl => ?_)
  · have h := hX _ _ ey
    exact ww_X10_sharedOf_201  C Z (lv_sub hl [0, 1, 2, 3, 4, 5] rfl) h kI
set_option maxHeartbeats 4000000 in
set_option maxRecDepth 100000 in
theorem ww_X10_sharedOf_18b {x1 : Int32} {x2 : Int32} {x3 : Int32} {x4 : Int32} {x5 : Int32} {res : ((Int32) ⊕ ((Unit))) × yy_T} {Q : State → Prop} (C : yy_C D κ p m c cX10_sharedOf 8 s args RX10) (Z : yy_Z D κ ext A s.heap τ H locs) (hl : lv_has ls 8 [(0, .ref (κ 4 + 112)), (1, .int x1), (2, .int x2), (3, .int x3), (4, .int x4), (5, .int x5)]) (h : mm_X10_sharedOf_18b x1 x2 x3 x4 x5 τ = some res)
    (kI : ∀ (w : Int32) (τ1 : yy_T) (H1 : Heap) (locs1 : List Loc) (ls1 : Array Slot), res = (.inl w, τ1) → yy_Z D κ ext A s.heap τ1 H1 locs1 → lv_has ls1 8 [(0, .ref (κ 4 + 112)), (1, .int x1), (2, .int x2), (3, .int x3), (4, .int x4), (5, .int w)] → W p l e rm_X10_sharedOf s m args below meth c H1 locs1 0 0 Q (F0 m 18 ls1 []))
    (kR0 : ∀ (w : Unit) (τ1 : yy_T) (H1 : Heap) (locs1 : List Loc) (ls1 : Array Slot), res = (.inr w, τ1) → yy_Z D κ ext A s.heap τ1 H1 locs1 → lv_has ls1 8 [(0, .ref (κ 4 + 112))] → W p l e rm_X10_sharedOf s m args below meth c H1 locs1 0 0 Q (F0 m 207 ls1 [])) : W p l e rm_X10_sharedOf s m args below meth c H locs 0 0 Q (F0 m 18 ls []) := by
  unfold mm_X10_sharedOf_18b at h
  refine lv_iload C.1.1 C.1.2.1 dX10_sharedOf_18 (lv_at hl 5 rfl) ?_
  refine yy_if_lt (tgt := 207) C dX10_sharedOf_20 (by decide) h (fun h => ?_) (fun h => ?_)
  · exact kR0 _ _ _ _ _ (yy_rt_of h) Z (lv_sub hl [0] rfl)
  · refine lv_iload C.1.1 C.1.2.1 dX10_sharedOf_23 (lv_at hl 4 rfl) ?_
    refine lv_istore (lv' := [(6, .int x4), (0, .ref (κ 4 + 112)), (1, .int x1), (2, .int x2), (3, .int x3), (4, .int x4), (5, .int x5)]) C.1.1 C.1.2.1 dX10_sharedOf_25 hl (by decide) rfl (fun ls hl => ?_)
    exact ww_X10_sharedOf_27  C Z (lv_sub hl [1, 2, 3, 4, 5, 6, 0] rfl) h kI
set_option maxHeartbeats 4000000 in
set_option maxRecDepth 100000 in
theorem ww_X10_sharedOf_207 {res : Int32 × yy_T} (C : yy_C D κ p m c cX10_sharedOf 8 s args RX10) (hr : meth.sig.returnType = (some .int)) (hlk : meth.locks = false) (Z : yy_Z D κ ext A s.heap τ H locs) (hl : lv_has ls 8 [(0, .ref (κ 4 + 112))]) (h : mm_X10_sharedOf_207  τ = some res) : W p l e rm_X10_sharedOf s m args below meth c H locs 0 0 (MQ below (yy_Qi D κ ext A res) args s 0 0 A) (F0 m 207 ls []) := by
  unfold mm_X10_sharedOf_207 at h
  refine lv_aload_n C.1.1 C.1.2.1 dX10_sharedOf_207 rfl (lv_at hl 0 rfl) ?_
  refine yg_X10_19 C Z tw_811 dX10_sharedOf_208 ?_
  refine lv_iconst (v := 0) C.1.1 C.1.2.1 dX10_sharedOf_211 (by decide) ?_
  refine yy_iald C Z (by decide) rfl dX10_sharedOf_212 h (fun v11 h => ?_)
  exact yy_iret C Z hr hlk rfl dX10_sharedOf_213 h
set_option maxHeartbeats 4000000 in
set_option maxRecDepth 100000 in
theorem ww_X10_sharedOf_18 {x1 : Int32} {x2 : Int32} {x3 : Int32} {x4 : Int32} {x5 : Int32} {res : Int32 × yy_T} (C : yy_C D κ p m c cX10_sharedOf 8 s args RX10) (hr : meth.sig.returnType = (some .int)) (hlk : meth.locks = false) (Z : yy_Z D κ ext A s.heap τ H locs) (hl : lv_has ls 8 [(0, .ref (κ 4 + 112)), (1, .int x1), (2, .int x2), (3, .int x3), (4, .int x4), (5, .int x5)]) (h : mm_X10_sharedOf_18 x1 x2 x3 x4 x5 τ = some res) : W p l e rm_X10_sharedOf s m args below meth c H locs 0 0 (MQ below (yy_Qi D κ ext A res) args s 0 0 A) (F0 m 18 ls []) := by
  unfold mm_X10_sharedOf_18 at h
  refine yy_loop h (fun (w : Int32) (τ : yy_T) => ∀ (H : Heap) (locs : List Loc) (ls : Array Slot), yy_Z D κ ext A s.heap τ H locs → lv_has ls 8 [(0, .ref (κ 4 + 112)), (1, .int x1), (2, .int x2), (3, .int x3), (4, .int x4), (5, .int w)] → W p l e rm_X10_sharedOf s m args below meth c H locs 0 0 (MQ below (yy_Qi D κ ext A res) args s 0 0 A) (F0 m 18 ls [])) ?_ H locs ls Z hl
  intro w τ y hy hI hX H locs ls Z hl
  refine ww_X10_sharedOf_18b  C Z hl hy (fun w τ H locs ls ey Z hl => hI w τ ey H locs ls Z hl) (fun w τ H locs ls ey Z hl => ?_)
  · have h := hX _ _ ey
    exact ww_X10_sharedOf_207  C hr hlk Z (lv_sub hl [0] rfl) h
set_option maxHeartbeats 4000000 in
set_option maxRecDepth 100000 in
theorem ww_X10_sharedOf_E {x1 : Int32} {x2 : Int32} {res : Int32 × yy_T} (C : yy_C D κ p m c cX10_sharedOf 8 s args RX10) (hr : meth.sig.returnType = (some .int)) (hlk : meth.locks = false) (Z : yy_Z D κ ext A s.heap τ H locs) (hl : lv_has ls 8 [(0, .ref (κ 4 + 112)), (1, .int x1), (2, .int x2)]) (h : mm_X10_sharedOf x1 x2 τ = some res) : W p l e rm_X10_sharedOf s m args below meth c H locs 0 0 (MQ below (yy_Qi D κ ext A res) args s 0 0 A) (F0 m 0 ls []) := by
  unfold mm_X10_sharedOf at h
  refine lv_aload_n C.1.1 C.1.2.1 dX10_sharedOf_0 rfl (lv_at hl 0 rfl) ?_
  refine lv_iconst (v := 0) C.1.1 C.1.2.1 dX10_sharedOf_1 (by decide) ?_
  refine lv_iload_n C.1.1 C.1.2.1 dX10_sharedOf_2 rfl (lv_at hl 1 rfl) ?_
  refine yy_cVi0 (As := [.int 0, .int x1]) (rest := []) (id := 112) (ci := 10) (q := (RX10, TX10, 20)) C Z (ss_X10_wordsOf l D κ ext 0 x1) (by decide) (yy_ent_112 _) rfl tw_910 kw_X10_wordsOf ⟨⟨rfl, rfl⟩, ⟨Nat.le_of_ble_eq_true rfl, Nat.le_of_ble_eq_true rfl⟩, Nat.le_of_ble_eq_true rfl, Nat.le_of_ble_eq_true rfl⟩ hl.1 rfl (Nat.le_of_ble_eq_true rfl) dX10_sharedOf_3 h (fun r1 τ H locs Z h => ?_)
  refine lv_istore_n (lv' := [(3, .int r1), (0, .ref (κ 4 + 112)), (1, .int x1), (2, .int x2)]) C.1.1 C.1.2.1 dX10_sharedOf_6 rfl hl (by decide) rfl (fun ls hl => ?_)
  refine lv_aload_n C.1.1 C.1.2.1 dX10_sharedOf_7 rfl (lv_at hl 1 rfl) ?_
  refine lv_iconst (v := 1) C.1.1 C.1.2.1 dX10_sharedOf_8 (by decide) ?_
  refine lv_iload_n C.1.1 C.1.2.1 dX10_sharedOf_9 rfl (lv_at hl 3 rfl) ?_
  refine yy_cVi0 (As := [.int 1, .int x2]) (rest := []) (id := 112) (ci := 10) (q := (RX10, TX10, 20)) C Z (ss_X10_wordsOf l D κ ext 1 x2) (by decide) (yy_ent_112 _) rfl tw_910 kw_X10_wordsOf ⟨⟨rfl, rfl⟩, ⟨Nat.le_of_ble_eq_true rfl, Nat.le_of_ble_eq_true rfl⟩, Nat.le_of_ble_eq_true rfl, Nat.le_of_ble_eq_true rfl⟩ hl.1 rfl (Nat.le_of_ble_eq_true rfl) dX10_sharedOf_10 h (fun r2 τ H locs Z h => ?_)
  refine lv_istore (lv' := [(4, .int r2), (3, .int r1), (0, .ref (κ 4 + 112)), (1, .int x1), (2, .int x2)]) C.1.1 C.1.2.1 dX10_sharedOf_13 hl (by decide) rfl (fun ls hl => ?_)
  refine lv_iload_n C.1.1 C.1.2.1 dX10_sharedOf_15 rfl (lv_at hl 1 rfl) ?_
  refine lv_istore (lv' := [(5, .int r1), (4, .int r2), (3, .int r1), (0, .ref (κ 4 + 112)), (1, .int x1), (2, .int x2)]) C.1.1 C.1.2.1 dX10_sharedOf_16 hl (by decide) rfl (fun ls hl => ?_)
  exact ww_X10_sharedOf_18  C hr hlk Z (lv_sub hl [3, 4, 5, 2, 1, 0] rfl) h
set_option maxHeartbeats 4000000 in
set_option maxRecDepth 100000 in
theorem ss_X10_sharedOf (l : Launch) (D : va_G) (κ : Nat → Nat) (ext : va_W) (x1 : Int32) (x2 : Int32) : yy_Mi l D κ ext yX10_sharedOf cX10_sharedOf 8 (some .int) rm_X10_sharedOf 0 0 [.ref (κ 4 + 112), .int x1, .int x2] (mm_X10_sharedOf x1 x2) := by
  intro sz τ res h
  refine yy_ofW (by decide) (Nat.le_of_ble_eq_true rfl) ?_
  intro p e s m args below meth c ls hsz E
  obtain ⟨C, hr, hlk, Z, hl⟩ := E
  subst hsz
  exact ww_X10_sharedOf_E  C hr hlk Z hl h
/-! MovedLinesModel.laysEdits()V -/
noncomputable def mm_X10_laysEdits_107 (x1 : Int32) (x2 : Int32) (x3 : Int32) : yy_M ((Int32 × Int32 × Int32) ⊕ ((Int32))) :=
  yy_rt (.inl (x1, x2, (x3 + 1)))
noncomputable def mm_X10_laysEdits_13b (x1 : Int32) (x2 : Int32) (x3 : Int32) : yy_M ((Int32 × Int32 × Int32) ⊕ ((Int32))) :=
  yy_br (196 ≤ x3) (yy_rt (.inr x1)) (yy_cl (mm_X10_isLoose 0 (x3 / 14)) (fun r1 => yy_br (r1 = 0) (mm_X10_laysEdits_107 x1 x2 x3) (yy_cl (mm_X10_isLoose 1 (x3 - x3 / 14 * 14)) (fun r2 => yy_br (r2 = 0) (mm_X10_laysEdits_107 x1 x2 x3) (yy_cl (mm_X10_sharedOf (x3 / 14) (x3 - x3 / 14 * 14)) (fun r3 => yy_cl (mm_X10_wordsOf 0 (x3 / 14)) (fun r4 => yy_br ((2 * r3) < r4) (mm_X10_laysEdits_107 x1 x2 x3) (yy_cl (mm_X10_wordsOf 1 (x3 - x3 / 14 * 14)) (fun r5 => yy_br ((2 * r3) < r5) (mm_X10_laysEdits_107 x1 x2 x3) (yy_br (x2 < r3) (mm_X10_laysEdits_107 x3 r3 x3) (mm_X10_laysEdits_107 x1 x2 x3)))))))))))
noncomputable def mm_X10_laysEdits_131 (x1 : Int32) : yy_M ((Int32) ⊕ ((Unit))) :=
  yy_rt (.inl x1)
noncomputable def mm_X10_laysEdits_113 (x1 : Int32) : yy_M ((Int32) ⊕ ((Unit))) :=
  yy_br (x1 = ((-1))) (mm_X10_laysEdits_131 x1) (yy_cl (mm_X10_couples (x1 / 14) (x1 - x1 / 14 * 14) 2) (fun _ => mm_X10_laysEdits_131 x1))
noncomputable def mm_X10_laysEdits_13 (x1 : Int32) (x2 : Int32) (x3 : Int32) : yy_M ((Int32) ⊕ ((Unit))) :=
  yy_cl (yy_lp (fun (w : Int32 × Int32 × Int32) => mm_X10_laysEdits_13b w.1 w.2.1 w.2.2) (x1, x2, x3)) (fun w => mm_X10_laysEdits_113 w)
noncomputable def mm_X10_laysEdits_2b (x1 : Int32) : yy_M ((Int32) ⊕ ((Unit))) :=
  yy_br (x1 = ((-1))) (yy_rt (.inr ())) (mm_X10_laysEdits_13 ((-1)) 0 0)
noncomputable def mm_X10_laysEdits_134 : yy_M Unit :=
  yy_rt ()
noncomputable def mm_X10_laysEdits_2 (x1 : Int32) : yy_M Unit :=
  yy_cl (yy_lp (fun (w : Int32) => mm_X10_laysEdits_2b w) x1) (fun w => mm_X10_laysEdits_134 )
noncomputable def mm_X10_laysEdits : yy_M Unit :=
  mm_X10_laysEdits_2 0
theorem kw_X10_laysEdits : yy_wV RX10 yX10_laysEdits cX10_laysEdits 5 none 0 := ⟨⟨tw_943, tw_39, tw_61, tw_944⟩, by decide +kernel⟩
abbrev rm_X10_laysEdits : Room := { frames := 3, cells := 0, slots := 0, locals := 71 }
set_option maxHeartbeats 4000000 in
set_option maxRecDepth 100000 in
theorem ww_X10_laysEdits_107 {x1 : Int32} {x2 : Int32} {x3 : Int32} {res : ((Int32 × Int32 × Int32) ⊕ ((Int32))) × yy_T} {Q : State → Prop} (C : yy_C D κ p m c cX10_laysEdits 5 s args RX10) (Z : yy_Z D κ ext A s.heap τ H locs) (hl : lv_has ls 5 [(0, .ref (κ 4 + 112)), (1, .int x1), (2, .int x2), (3, .int x3)]) (h : mm_X10_laysEdits_107 x1 x2 x3 τ = some res)
    (kI : ∀ (w : Int32 × Int32 × Int32) (τ1 : yy_T) (H1 : Heap) (locs1 : List Loc) (ls1 : Array Slot), res = (.inl w, τ1) → yy_Z D κ ext A s.heap τ1 H1 locs1 → lv_has ls1 5 [(0, .ref (κ 4 + 112)), (1, .int w.1), (2, .int w.2.1), (3, .int w.2.2)] → W p l e rm_X10_laysEdits s m args below meth c H1 locs1 0 0 Q (F0 m 13 ls1 [])) : W p l e rm_X10_laysEdits s m args below meth c H locs 0 0 Q (F0 m 107 ls []) := by
  unfold mm_X10_laysEdits_107 at h
  refine lv_iinc (v := x3 + 1) (lv' := [(3, .int (x3 + 1)), (0, .ref (κ 4 + 112)), (1, .int x1), (2, .int x2)]) C.1.1 C.1.2.1 dX10_laysEdits_107 hl (k := 3) rfl (by rfl) (by decide) rfl (fun ls hl => ?_)
  refine lv_goto (tgt := 13) C.1.1 C.1.2.1 dX10_laysEdits_110 (by decide) ?_
  exact kI _ _ _ _ _ (yy_rt_of h) Z (lv_sub hl [1, 2, 3, 0] rfl)
set_option maxHeartbeats 4000000 in
set_option maxRecDepth 100000 in
theorem ww_X10_laysEdits_13b {x1 : Int32} {x2 : Int32} {x3 : Int32} {res : ((Int32 × Int32 × Int32) ⊕ ((Int32))) × yy_T} {Q : State → Prop} (C : yy_C D κ p m c cX10_laysEdits 5 s args RX10) (Z : yy_Z D κ ext A s.heap τ H locs) (hl : lv_has ls 5 [(0, .ref (κ 4 + 112)), (1, .int x1), (2, .int x2), (3, .int x3)]) (h : mm_X10_laysEdits_13b x1 x2 x3 τ = some res)
    (kI : ∀ (w : Int32 × Int32 × Int32) (τ1 : yy_T) (H1 : Heap) (locs1 : List Loc) (ls1 : Array Slot), res = (.inl w, τ1) → yy_Z D κ ext A s.heap τ1 H1 locs1 → lv_has ls1 5 [(0, .ref (κ 4 + 112)), (1, .int w.1), (2, .int w.2.1), (3, .int w.2.2)] → W p l e rm_X10_laysEdits s m args below meth c H1 locs1 0 0 Q (F0 m 13 ls1 []))
    (kR0 : ∀ (w : Int32) (τ1 : yy_T) (H1 : Heap) (locs1 : List Loc) (ls1 : Array Slot), res = (.inr w, τ1) → yy_Z D κ ext A s.heap τ1 H1 locs1 → lv_has ls1 5 [(0, .ref (κ 4 + 112)), (1, .int w)] → W p l e rm_X10_laysEdits s m args below meth c H1 locs1 0 0 Q (F0 m 113 ls1 [])) : W p l e rm_X10_laysEdits s m args below meth c H locs 0 0 Q (F0 m 13 ls []) := by
  unfold mm_X10_laysEdits_13b at h
  refine lv_iload_n C.1.1 C.1.2.1 dX10_laysEdits_13 rfl (lv_at hl 3 rfl) ?_
  refine lv_sipush (v := 196) C.1.1 C.1.2.1 dX10_laysEdits_14 (by decide) ?_
  refine yy_icmp_ge (tgt := 113) C dX10_laysEdits_17 (by decide) h (fun h => ?_) (fun h => ?_)
  · exact kR0 _ _ _ _ _ (yy_rt_of h) Z (lv_sub hl [0, 1] rfl)
  · refine lv_aload_n C.1.1 C.1.2.1 dX10_laysEdits_20 rfl (lv_at hl 0 rfl) ?_
    refine lv_iconst (v := 0) C.1.1 C.1.2.1 dX10_laysEdits_21 (by decide) ?_
    refine lv_iload_n C.1.1 C.1.2.1 dX10_laysEdits_22 rfl (lv_at hl 3 rfl) ?_
    refine lv_bipush (v := 14) C.1.1 C.1.2.1 dX10_laysEdits_23 (by decide) ?_
    refine lv_idiv C.1.1 C.1.2.1 dX10_laysEdits_25 (by decide) ?_
    refine yy_cVi0 (As := [.int 0, .int (x3 / 14)]) (rest := []) (id := 112) (ci := 10) (q := (RX10, TX10, 20)) C Z (ss_X10_isLoose l D κ ext 0 (x3 / 14)) (by decide) (yy_ent_112 _) rfl tw_937 kw_X10_isLoose ⟨⟨rfl, rfl⟩, ⟨Nat.le_of_ble_eq_true rfl, Nat.le_of_ble_eq_true rfl⟩, Nat.le_of_ble_eq_true rfl, Nat.le_of_ble_eq_true rfl⟩ hl.1 rfl (Nat.le_of_ble_eq_true rfl) dX10_laysEdits_26 h (fun r1 τ H locs Z h => ?_)
    refine yy_if_eq (tgt := 107) C dX10_laysEdits_29 (by decide) h (fun h => ?_) (fun h => ?_)
    · exact ww_X10_laysEdits_107  C Z (lv_sub hl [0, 1, 2, 3] rfl) h kI
    · refine lv_aload_n C.1.1 C.1.2.1 dX10_laysEdits_32 rfl (lv_at hl 0 rfl) ?_
      refine lv_iconst (v := 1) C.1.1 C.1.2.1 dX10_laysEdits_33 (by decide) ?_
      refine lv_iload_n C.1.1 C.1.2.1 dX10_laysEdits_34 rfl (lv_at hl 3 rfl) ?_
      refine lv_bipush (v := 14) C.1.1 C.1.2.1 dX10_laysEdits_35 (by decide) ?_
      refine lv_irem C.1.1 C.1.2.1 dX10_laysEdits_37 (by decide) ?_
      refine yy_cVi0 (As := [.int 1, .int (x3 - x3 / 14 * 14)]) (rest := []) (id := 112) (ci := 10) (q := (RX10, TX10, 20)) C Z (ss_X10_isLoose l D κ ext 1 (x3 - x3 / 14 * 14)) (by decide) (yy_ent_112 _) rfl tw_937 kw_X10_isLoose ⟨⟨rfl, rfl⟩, ⟨Nat.le_of_ble_eq_true rfl, Nat.le_of_ble_eq_true rfl⟩, Nat.le_of_ble_eq_true rfl, Nat.le_of_ble_eq_true rfl⟩ hl.1 rfl (Nat.le_of_ble_eq_true rfl) dX10_laysEdits_38 h (fun r2 τ H locs Z h => ?_)
      refine yy_if_ne (tgt := 47) C dX10_laysEdits_41 (by decide) h (fun h => ?_) (fun h => ?_)
      · refine lv_aload_n C.1.1 C.1.2.1 dX10_laysEdits_47 rfl (lv_at hl 0 rfl) ?_
        refine lv_iload_n C.1.1 C.1.2.1 dX10_laysEdits_48 rfl (lv_at hl 3 rfl) ?_
        refine lv_bipush (v := 14) C.1.1 C.1.2.1 dX10_laysEdits_49 (by decide) ?_
        refine lv_idiv C.1.1 C.1.2.1 dX10_laysEdits_51 (by decide) ?_
        refine lv_iload_n C.1.1 C.1.2.1 dX10_laysEdits_52 rfl (lv_at hl 3 rfl) ?_
        refine lv_bipush (v := 14) C.1.1 C.1.2.1 dX10_laysEdits_53 (by decide) ?_
        refine lv_irem C.1.1 C.1.2.1 dX10_laysEdits_55 (by decide) ?_
        refine yy_cVi0 (As := [.int (x3 / 14), .int (x3 - x3 / 14 * 14)]) (rest := []) (id := 112) (ci := 10) (q := (RX10, TX10, 20)) C Z (ss_X10_sharedOf l D κ ext (x3 / 14) (x3 - x3 / 14 * 14)) (by decide) (yy_ent_112 _) rfl tw_945 kw_X10_sharedOf ⟨⟨rfl, rfl⟩, ⟨Nat.le_of_ble_eq_true rfl, Nat.le_of_ble_eq_true rfl⟩, Nat.le_of_ble_eq_true rfl, Nat.le_of_ble_eq_true rfl⟩ hl.1 rfl (Nat.le_of_ble_eq_true rfl) dX10_laysEdits_56 h (fun r3 τ H locs Z h => ?_)
        refine lv_istore (lv' := [(4, .int r3), (0, .ref (κ 4 + 112)), (1, .int x1), (2, .int x2), (3, .int x3)]) C.1.1 C.1.2.1 dX10_laysEdits_59 hl (by decide) rfl (fun ls hl => ?_)
        refine lv_iconst (v := 2) C.1.1 C.1.2.1 dX10_laysEdits_61 (by decide) ?_
        refine lv_iload C.1.1 C.1.2.1 dX10_laysEdits_62 (lv_at hl 0 rfl) ?_
        refine lv_imul C.1.1 C.1.2.1 dX10_laysEdits_64 ?_
        refine lv_aload_n C.1.1 C.1.2.1 dX10_laysEdits_65 rfl (lv_at hl 1 rfl) ?_
        refine lv_iconst (v := 0) C.1.1 C.1.2.1 dX10_laysEdits_66 (by decide) ?_
        refine lv_iload_n C.1.1 C.1.2.1 dX10_laysEdits_67 rfl (lv_at hl 4 rfl) ?_
        refine lv_bipush (v := 14) C.1.1 C.1.2.1 dX10_laysEdits_68 (by decide) ?_
        refine lv_idiv C.1.1 C.1.2.1 dX10_laysEdits_70 (by decide) ?_
        refine yy_cVi0 (As := [.int 0, .int (x3 / 14)]) (rest := [.int (2 * r3)]) (id := 112) (ci := 10) (q := (RX10, TX10, 20)) C Z (ss_X10_wordsOf l D κ ext 0 (x3 / 14)) (by decide) (yy_ent_112 _) rfl tw_910 kw_X10_wordsOf ⟨⟨rfl, rfl⟩, ⟨Nat.le_of_ble_eq_true rfl, Nat.le_of_ble_eq_true rfl⟩, Nat.le_of_ble_eq_true rfl, Nat.le_of_ble_eq_true rfl⟩ hl.1 rfl (Nat.le_of_ble_eq_true rfl) dX10_laysEdits_71 h (fun r4 τ H locs Z h => ?_)
        refine yy_icmp_lt (tgt := 107) C dX10_laysEdits_74 (by decide) h (fun h => ?_) (fun h => ?_)
        · exact ww_X10_laysEdits_107  C Z (lv_sub hl [1, 2, 3, 4] rfl) h kI
        · refine lv_iconst (v := 2) C.1.1 C.1.2.1 dX10_laysEdits_77 (by decide) ?_
          refine lv_iload C.1.1 C.1.2.1 dX10_laysEdits_78 (lv_at hl 0 rfl) ?_
          refine lv_imul C.1.1 C.1.2.1 dX10_laysEdits_80 ?_
          refine lv_aload_n C.1.1 C.1.2.1 dX10_laysEdits_81 rfl (lv_at hl 1 rfl) ?_
          refine lv_iconst (v := 1) C.1.1 C.1.2.1 dX10_laysEdits_82 (by decide) ?_
          refine lv_iload_n C.1.1 C.1.2.1 dX10_laysEdits_83 rfl (lv_at hl 4 rfl) ?_
          refine lv_bipush (v := 14) C.1.1 C.1.2.1 dX10_laysEdits_84 (by decide) ?_
          refine lv_irem C.1.1 C.1.2.1 dX10_laysEdits_86 (by decide) ?_
          refine yy_cVi0 (As := [.int 1, .int (x3 - x3 / 14 * 14)]) (rest := [.int (2 * r3)]) (id := 112) (ci := 10) (q := (RX10, TX10, 20)) C Z (ss_X10_wordsOf l D κ ext 1 (x3 - x3 / 14 * 14)) (by decide) (yy_ent_112 _) rfl tw_910 kw_X10_wordsOf ⟨⟨rfl, rfl⟩, ⟨Nat.le_of_ble_eq_true rfl, Nat.le_of_ble_eq_true rfl⟩, Nat.le_of_ble_eq_true rfl, Nat.le_of_ble_eq_true rfl⟩ hl.1 rfl (Nat.le_of_ble_eq_true rfl) dX10_laysEdits_87 h (fun r5 τ H locs Z h => ?_)
          refine yy_icmp_lt (tgt := 107) C dX10_laysEdits_90 (by decide) h (fun h => ?_) (fun h => ?_)
          · exact ww_X10_laysEdits_107  C Z (lv_sub hl [1, 2, 3, 4] rfl) h kI
          · refine lv_iload C.1.1 C.1.2.1 dX10_laysEdits_93 (lv_at hl 0 rfl) ?_
            refine lv_iload_n C.1.1 C.1.2.1 dX10_laysEdits_95 rfl (lv_at hl 3 rfl) ?_
            refine yy_icmp_gt (tgt := 102) C dX10_laysEdits_96 (by decide) h (fun h => ?_) (fun h => ?_)
            · refine lv_iload C.1.1 C.1.2.1 dX10_laysEdits_102 (lv_at hl 0 rfl) ?_
              refine lv_istore_n (lv' := [(2, .int r3), (4, .int r3), (0, .ref (κ 4 + 112)), (1, .int x1), (3, .int x3)]) C.1.1 C.1.2.1 dX10_laysEdits_104 rfl hl (by decide) rfl (fun ls hl => ?_)
              refine lv_iload_n C.1.1 C.1.2.1 dX10_laysEdits_105 rfl (lv_at hl 4 rfl) ?_
              refine lv_istore_n (lv' := [(1, .int x3), (2, .int r3), (4, .int r3), (0, .ref (κ 4 + 112)), (3, .int x3)]) C.1.1 C.1.2.1 dX10_laysEdits_106 rfl hl (by decide) rfl (fun ls hl => ?_)
              exact ww_X10_laysEdits_107  C Z (lv_sub hl [3, 0, 1, 4] rfl) h kI
            · refine lv_goto (tgt := 107) C.1.1 C.1.2.1 dX10_laysEdits_99 (by decide) ?_
              exact ww_X10_laysEdits_107  C Z (lv_sub hl [1, 2, 3, 4] rfl) h kI
      · refine lv_goto (tgt := 107) C.1.1 C.1.2.1 dX10_laysEdits_44 (by decide) ?_
        exact ww_X10_laysEdits_107  C Z (lv_sub hl [0, 1, 2, 3] rfl) h kI
set_option maxHeartbeats 4000000 in
set_option maxRecDepth 100000 in
theorem ww_X10_laysEdits_131 {x1 : Int32} {res : ((Int32) ⊕ ((Unit))) × yy_T} {Q : State → Prop} (C : yy_C D κ p m c cX10_laysEdits 5 s args RX10) (Z : yy_Z D κ ext A s.heap τ H locs) (hl : lv_has ls 5 [(0, .ref (κ 4 + 112)), (1, .int x1)]) (h : mm_X10_laysEdits_131 x1 τ = some res)
    (kI : ∀ (w : Int32) (τ1 : yy_T) (H1 : Heap) (locs1 : List Loc) (ls1 : Array Slot), res = (.inl w, τ1) → yy_Z D κ ext A s.heap τ1 H1 locs1 → lv_has ls1 5 [(0, .ref (κ 4 + 112)), (1, .int w)] → W p l e rm_X10_laysEdits s m args below meth c H1 locs1 0 0 Q (F0 m 2 ls1 [])) : W p l e rm_X10_laysEdits s m args below meth c H locs 0 0 Q (F0 m 131 ls []) := by
  unfold mm_X10_laysEdits_131 at h
  refine lv_goto (tgt := 2) C.1.1 C.1.2.1 dX10_laysEdits_131 (by decide) ?_
  exact kI _ _ _ _ _ (yy_rt_of h) Z (lv_sub hl [0, 1] rfl)
set_option maxHeartbeats 4000000 in
set_option maxRecDepth 100000 in
theorem ww_X10_laysEdits_113 {x1 : Int32} {res : ((Int32) ⊕ ((Unit))) × yy_T} {Q : State → Prop} (C : yy_C D κ p m c cX10_laysEdits 5 s args RX10) (Z : yy_Z D κ ext A s.heap τ H locs) (hl : lv_has ls 5 [(0, .ref (κ 4 + 112)), (1, .int x1)]) (h : mm_X10_laysEdits_113 x1 τ = some res)
    (kI : ∀ (w : Int32) (τ1 : yy_T) (H1 : Heap) (locs1 : List Loc) (ls1 : Array Slot), res = (.inl w, τ1) → yy_Z D κ ext A s.heap τ1 H1 locs1 → lv_has ls1 5 [(0, .ref (κ 4 + 112)), (1, .int w)] → W p l e rm_X10_laysEdits s m args below meth c H1 locs1 0 0 Q (F0 m 2 ls1 [])) : W p l e rm_X10_laysEdits s m args below meth c H locs 0 0 Q (F0 m 113 ls []) := by
  unfold mm_X10_laysEdits_113 at h
  refine lv_iload_n C.1.1 C.1.2.1 dX10_laysEdits_113 rfl (lv_at hl 1 rfl) ?_
  refine lv_iconst (v := (-1)) C.1.1 C.1.2.1 dX10_laysEdits_114 (by decide) ?_
  refine yy_icmp_eq (tgt := 131) C dX10_laysEdits_115 (by decide) h (fun h => ?_) (fun h => ?_)
  · exact ww_X10_laysEdits_131  C Z (lv_sub hl [0, 1] rfl) h kI
  · refine lv_aload_n C.1.1 C.1.2.1 dX10_laysEdits_118 rfl (lv_at hl 0 rfl) ?_
    refine lv_iload_n C.1.1 C.1.2.1 dX10_laysEdits_119 rfl (lv_at hl 1 rfl) ?_
    refine lv_bipush (v := 14) C.1.1 C.1.2.1 dX10_laysEdits_120 (by decide) ?_
    refine lv_idiv C.1.1 C.1.2.1 dX10_laysEdits_122 (by decide) ?_
    refine lv_iload_n C.1.1 C.1.2.1 dX10_laysEdits_123 rfl (lv_at hl 1 rfl) ?_
    refine lv_bipush (v := 14) C.1.1 C.1.2.1 dX10_laysEdits_124 (by decide) ?_
    refine lv_irem C.1.1 C.1.2.1 dX10_laysEdits_126 (by decide) ?_
    refine lv_iconst (v := 2) C.1.1 C.1.2.1 dX10_laysEdits_127 (by decide) ?_
    refine yy_cVv0 (As := [.int (x1 / 14), .int (x1 - x1 / 14 * 14), .int 2]) (rest := []) (id := 112) (ci := 10) (q := (RX10, TX10, 20)) C Z (ss_X10_couples l D κ ext (x1 / 14) (x1 - x1 / 14 * 14) 2) (by decide) (yy_ent_112 _) rfl tw_921 kw_X10_couples ⟨⟨rfl, rfl⟩, ⟨Nat.le_of_ble_eq_true rfl, Nat.le_of_ble_eq_true rfl⟩, Nat.le_of_ble_eq_true rfl, Nat.le_of_ble_eq_true rfl⟩ hl.1 rfl (Nat.le_of_ble_eq_true rfl) dX10_laysEdits_128 h (fun τ H locs Z h => ?_)
    exact ww_X10_laysEdits_131  C Z (lv_sub hl [0, 1] rfl) h kI
set_option maxHeartbeats 4000000 in
set_option maxRecDepth 100000 in
theorem ww_X10_laysEdits_13 {x1 : Int32} {x2 : Int32} {x3 : Int32} {res : ((Int32) ⊕ ((Unit))) × yy_T} {Q : State → Prop} (C : yy_C D κ p m c cX10_laysEdits 5 s args RX10) (Z : yy_Z D κ ext A s.heap τ H locs) (hl : lv_has ls 5 [(0, .ref (κ 4 + 112)), (1, .int x1), (2, .int x2), (3, .int x3)]) (h : mm_X10_laysEdits_13 x1 x2 x3 τ = some res)
    (kI : ∀ (w : Int32) (τ1 : yy_T) (H1 : Heap) (locs1 : List Loc) (ls1 : Array Slot), res = (.inl w, τ1) → yy_Z D κ ext A s.heap τ1 H1 locs1 → lv_has ls1 5 [(0, .ref (κ 4 + 112)), (1, .int w)] → W p l e rm_X10_laysEdits s m args below meth c H1 locs1 0 0 Q (F0 m 2 ls1 [])) : W p l e rm_X10_laysEdits s m args below meth c H locs 0 0 Q (F0 m 13 ls []) := by
  unfold mm_X10_laysEdits_13 at h
  refine yy_loop h (fun (w : Int32 × Int32 × Int32) (τ : yy_T) => ∀ (H : Heap) (locs : List Loc) (ls : Array Slot), yy_Z D κ ext A s.heap τ H locs → lv_has ls 5 [(0, .ref (κ 4 + 112)), (1, .int w.1), (2, .int w.2.1), (3, .int w.2.2)] → W p l e rm_X10_laysEdits s m args below meth c H locs 0 0 Q (F0 m 13 ls [])) ?_ H locs ls Z hl
  intro w τ y hy hI hX H locs ls Z hl
  refine ww_X10_laysEdits_13b  C Z hl hy (fun w τ H locs ls ey Z hl => hI w τ ey H locs ls Z hl) (fun w τ H locs ls ey Z hl => ?_)
  · have h := hX _ _ ey
    exact ww_X10_laysEdits_113  C Z (lv_sub hl [0, 1] rfl) h kI
set_option maxHeartbeats 4000000 in
set_option maxRecDepth 100000 in
theorem ww_X10_laysEdits_2b {x1 : Int32} {res : ((Int32) ⊕ ((Unit))) × yy_T} {Q : State → Prop} (C : yy_C D κ p m c cX10_laysEdits 5 s args RX10) (Z : yy_Z D κ ext A s.heap τ H locs) (hl : lv_has ls 5 [(0, .ref (κ 4 + 112)), (1, .int x1)]) (h : mm_X10_laysEdits_2b x1 τ = some res)
    (kI : ∀ (w : Int32) (τ1 : yy_T) (H1 : Heap) (locs1 : List Loc) (ls1 : Array Slot), res = (.inl w, τ1) → yy_Z D κ ext A s.heap τ1 H1 locs1 → lv_has ls1 5 [(0, .ref (κ 4 + 112)), (1, .int w)] → W p l e rm_X10_laysEdits s m args below meth c H1 locs1 0 0 Q (F0 m 2 ls1 []))
    (kR0 : ∀ (w : Unit) (τ1 : yy_T) (H1 : Heap) (locs1 : List Loc) (ls1 : Array Slot), res = (.inr w, τ1) → yy_Z D κ ext A s.heap τ1 H1 locs1 → lv_has ls1 5 [] → W p l e rm_X10_laysEdits s m args below meth c H1 locs1 0 0 Q (F0 m 134 ls1 [])) : W p l e rm_X10_laysEdits s m args below meth c H locs 0 0 Q (F0 m 2 ls []) := by
  unfold mm_X10_laysEdits_2b at h
  refine lv_iload_n C.1.1 C.1.2.1 dX10_laysEdits_2 rfl (lv_at hl 1 rfl) ?_
  refine lv_iconst (v := (-1)) C.1.1 C.1.2.1 dX10_laysEdits_3 (by decide) ?_
  refine yy_icmp_eq (tgt := 134) C dX10_laysEdits_4 (by decide) h (fun h => ?_) (fun h => ?_)
  · exact kR0 _ _ _ _ _ (yy_rt_of h) Z (lv_sub hl [] rfl)
  · refine lv_iconst (v := (-1)) C.1.1 C.1.2.1 dX10_laysEdits_7 (by decide) ?_
    refine lv_istore_n (lv' := [(1, .int (-1)), (0, .ref (κ 4 + 112))]) C.1.1 C.1.2.1 dX10_laysEdits_8 rfl hl (by decide) rfl (fun ls hl => ?_)
    refine lv_iconst (v := 0) C.1.1 C.1.2.1 dX10_laysEdits_9 (by decide) ?_
    refine lv_istore_n (lv' := [(2, .int 0), (1, .int (-1)), (0, .ref (κ 4 + 112))]) C.1.1 C.1.2.1 dX10_laysEdits_10 rfl hl (by decide) rfl (fun ls hl => ?_)
    refine lv_iconst (v := 0) C.1.1 C.1.2.1 dX10_laysEdits_11 (by decide) ?_
    refine lv_istore_n (lv' := [(3, .int 0), (2, .int 0), (1, .int (-1)), (0, .ref (κ 4 + 112))]) C.1.1 C.1.2.1 dX10_laysEdits_12 rfl hl (by decide) rfl (fun ls hl => ?_)
    exact ww_X10_laysEdits_13  C Z (lv_sub hl [3, 2, 1, 0] rfl) h kI
set_option maxHeartbeats 4000000 in
set_option maxRecDepth 100000 in
theorem ww_X10_laysEdits_134 {res : Unit × yy_T} (C : yy_C D κ p m c cX10_laysEdits 5 s args RX10) (hr : meth.sig.returnType = none) (hlk : meth.locks = false) (Z : yy_Z D κ ext A s.heap τ H locs) (hl : lv_has ls 5 []) (h : mm_X10_laysEdits_134  τ = some res) : W p l e rm_X10_laysEdits s m args below meth c H locs 0 0 (MQ below (yy_Qv D κ ext A res) args s 0 0 A) (F0 m 134 ls []) := by
  unfold mm_X10_laysEdits_134 at h
  exact yy_vret C Z hr hlk dX10_laysEdits_134 h
set_option maxHeartbeats 4000000 in
set_option maxRecDepth 100000 in
theorem ww_X10_laysEdits_2 {x1 : Int32} {res : Unit × yy_T} (C : yy_C D κ p m c cX10_laysEdits 5 s args RX10) (hr : meth.sig.returnType = none) (hlk : meth.locks = false) (Z : yy_Z D κ ext A s.heap τ H locs) (hl : lv_has ls 5 [(0, .ref (κ 4 + 112)), (1, .int x1)]) (h : mm_X10_laysEdits_2 x1 τ = some res) : W p l e rm_X10_laysEdits s m args below meth c H locs 0 0 (MQ below (yy_Qv D κ ext A res) args s 0 0 A) (F0 m 2 ls []) := by
  unfold mm_X10_laysEdits_2 at h
  refine yy_loop h (fun (w : Int32) (τ : yy_T) => ∀ (H : Heap) (locs : List Loc) (ls : Array Slot), yy_Z D κ ext A s.heap τ H locs → lv_has ls 5 [(0, .ref (κ 4 + 112)), (1, .int w)] → W p l e rm_X10_laysEdits s m args below meth c H locs 0 0 (MQ below (yy_Qv D κ ext A res) args s 0 0 A) (F0 m 2 ls [])) ?_ H locs ls Z hl
  intro w τ y hy hI hX H locs ls Z hl
  refine ww_X10_laysEdits_2b  C Z hl hy (fun w τ H locs ls ey Z hl => hI w τ ey H locs ls Z hl) (fun w τ H locs ls ey Z hl => ?_)
  · have h := hX _ _ ey
    exact ww_X10_laysEdits_134  C hr hlk Z (lv_sub hl [] rfl) h
set_option maxHeartbeats 4000000 in
set_option maxRecDepth 100000 in
theorem ww_X10_laysEdits_E {res : Unit × yy_T} (C : yy_C D κ p m c cX10_laysEdits 5 s args RX10) (hr : meth.sig.returnType = none) (hlk : meth.locks = false) (Z : yy_Z D κ ext A s.heap τ H locs) (hl : lv_has ls 5 [(0, .ref (κ 4 + 112))]) (h : mm_X10_laysEdits  τ = some res) : W p l e rm_X10_laysEdits s m args below meth c H locs 0 0 (MQ below (yy_Qv D κ ext A res) args s 0 0 A) (F0 m 0 ls []) := by
  unfold mm_X10_laysEdits at h
  refine lv_iconst (v := 0) C.1.1 C.1.2.1 dX10_laysEdits_0 (by decide) ?_
  refine lv_istore_n (lv' := [(1, .int 0), (0, .ref (κ 4 + 112))]) C.1.1 C.1.2.1 dX10_laysEdits_1 rfl hl (by decide) rfl (fun ls hl => ?_)
  exact ww_X10_laysEdits_2  C hr hlk Z (lv_sub hl [1, 0] rfl) h
set_option maxHeartbeats 4000000 in
set_option maxRecDepth 100000 in
theorem ss_X10_laysEdits (l : Launch) (D : va_G) (κ : Nat → Nat) (ext : va_W) : yy_Mv l D κ ext yX10_laysEdits cX10_laysEdits 5 none rm_X10_laysEdits 0 0 [.ref (κ 4 + 112)] (mm_X10_laysEdits ) := by
  intro sz τ res h
  refine yy_ofW (by decide) (Nat.le_of_ble_eq_true rfl) ?_
  intro p e s m args below meth c ls hsz E
  obtain ⟨C, hr, hlk, Z, hl⟩ := E
  subst hsz
  exact ww_X10_laysEdits_E  C hr hlk Z hl h
end
