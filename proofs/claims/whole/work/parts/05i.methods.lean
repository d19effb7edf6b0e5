section
variable {p : Program} {l : Launch} {e : Env} {s : State} {m : MethodId} {args : Array Value} {below : List Frame} {meth : Method} {c : Code} {H : Heap} {locs : List Loc} {ls : Array Slot} {D : va_G} {κ : Nat → Nat} {ext : va_W} {A : Nat → Prop} {τ : yy_T}
/-! MovedLinesModel.readEnd(I)Z -/
noncomputable def mm_X10_readEnd_35 (x1 : Int32) : yy_M Int32 :=
  yy_cl (mm_X10_bad 1 x1) (fun r2 => yy_ck (r2 = 0 ∨ r2 = 1) (yy_rt r2))
noncomputable def mm_X10_readEnd (x1 : Int32) : yy_M Int32 :=
  yy_wF 112 9 0 (yy_rA 115 127 0 fun v1 => yy_br (v1 = 14) (mm_X10_readEnd_35 x1) (yy_rA 115 127 0 fun v3 => yy_rA 115 127 (1 + (9 * v3)) fun v4 => yy_br (v4 = 0) (mm_X10_readEnd_35 x1) (yy_rA 115 127 0 fun v5 => yy_wA 115 127 0 (v5 + 1) (yy_rt 1))))
theorem kw_X10_readEnd : yy_wV RX10 yX10_readEnd cX10_readEnd 2 (some .boolean) 1 := ⟨⟨tw_880, tw_26, tw_61, tw_881⟩, by decide +kernel⟩
abbrev rm_X10_readEnd : Room := { frames := 1, cells := 0, slots := 0, locals := 22 }
set_option maxHeartbeats 4000000 in
set_option maxRecDepth 100000 in
theorem ww_X10_readEnd_35 {x1 : Int32} {res : Int32 × yy_T} (C : yy_C D κ p m c cX10_readEnd 2 s args RX10) (hr : meth.sig.returnType = (some .boolean)) (hlk : meth.locks = false) (Z : yy_Z D κ ext A s.heap τ H locs) (hl : lv_has ls 2 [(0, .ref (κ 4 + 112)), (1, .int x1)]) (h : mm_X10_readEnd_35 x1 τ = some res) : W p l e rm_X10_readEnd s m args below meth c H locs 0 0 (MQ below (yy_Qi D κ ext A res) args s 0 0 A) (F0 m 35 ls []) := by
  unfold mm_X10_readEnd_35 at h
  refine lv_aload_n C.1.1 C.1.2.1 dX10_readEnd_35 rfl (lv_at hl 0 rfl) ?_
  refine lv_iconst (v := 1) C.1.1 C.1.2.1 dX10_readEnd_36 (by decide) ?_
  refine lv_iload_n C.1.1 C.1.2.1 dX10_readEnd_37 rfl (lv_at hl 1 rfl) ?_
  refine yy_cVi0 (As := [.int 1, .int x1]) (rest := []) (id := 112) (ci := 10) (q := (RX10, TX10, 20)) C Z (ss_X10_bad l D κ ext 1 x1) (by decide) (yy_ent_112 _) rfl tw_867 kw_X10_bad ⟨⟨rfl, rfl⟩, ⟨Nat.le_of_ble_eq_true rfl, Nat.le_of_ble_eq_true rfl⟩, Nat.le_of_ble_eq_true rfl, Nat.le_of_ble_eq_true rfl⟩ hl.1 rfl (Nat.le_of_ble_eq_true rfl) dX10_readEnd_38 h (fun r2 τ H locs Z h => ?_)
  exact yy_zret C Z hr hlk dX10_readEnd_41 h
set_option maxHeartbeats 4000000 in
set_option maxRecDepth 100000 in
theorem ww_X10_readEnd_E {x1 : Int32} {res : Int32 × yy_T} (C : yy_C D κ p m c cX10_readEnd 2 s args RX10) (hr : meth.sig.returnType = (some .boolean)) (hlk : meth.locks = false) (Z : yy_Z D κ ext A s.heap τ H locs) (hl : lv_has ls 2 [(0, .ref (κ 4 + 112)), (1, .int x1)]) (h : mm_X10_readEnd x1 τ = some res) : W p l e rm_X10_readEnd s m args below meth c H locs 0 0 (MQ below (yy_Qi D κ ext A res) args s 0 0 A) (F0 m 0 ls []) := by
  unfold mm_X10_readEnd at h
  refine lv_aload_n C.1.1 C.1.2.1 dX10_readEnd_0 rfl (lv_at hl 0 rfl) ?_
  refine lv_iconst (v := 0) C.1.1 C.1.2.1 dX10_readEnd_1 (by decide) ?_
  refine yp_X10_9 C Z tw_801 dX10_readEnd_2 h (fun H locs τ Z h => ?_)
  refine lv_aload_n C.1.1 C.1.2.1 dX10_readEnd_5 rfl (lv_at hl 0 rfl) ?_
  refine yg_X10_4 C Z tw_796 dX10_readEnd_6 ?_
  refine lv_iconst (v := 0) C.1.1 C.1.2.1 dX10_readEnd_9 (by decide) ?_
  refine yy_iald C Z (by decide) rfl dX10_readEnd_10 h (fun v1 h => ?_)
  refine lv_bipush (v := 14) C.1.1 C.1.2.1 dX10_readEnd_11 (by decide) ?_
  refine yy_icmp_eq (tgt := 35) C dX10_readEnd_13 (by decide) h (fun h => ?_) (fun h => ?_)
  · exact ww_X10_readEnd_35  C hr hlk Z (lv_sub hl [0, 1] rfl) h
  · refine lv_aload_n C.1.1 C.1.2.1 dX10_readEnd_16 rfl (lv_at hl 0 rfl) ?_
    refine yg_X10_4 C Z tw_796 dX10_readEnd_17 ?_
    refine lv_iconst (v := 1) C.1.1 C.1.2.1 dX10_readEnd_20 (by decide) ?_
    refine lv_bipush (v := 9) C.1.1 C.1.2.1 dX10_readEnd_21 (by decide) ?_
    refine lv_aload_n C.1.1 C.1.2.1 dX10_readEnd_23 rfl (lv_at hl 0 rfl) ?_
    refine yg_X10_4 C Z tw_796 dX10_readEnd_24 ?_
    refine lv_iconst (v := 0) C.1.1 C.1.2.1 dX10_readEnd_27 (by decide) ?_
    refine yy_iald C Z (by decide) rfl dX10_readEnd_28 h (fun v3 h => ?_)
    refine lv_imul C.1.1 C.1.2.1 dX10_readEnd_29 ?_
    refine lv_iadd C.1.1 C.1.2.1 dX10_readEnd_30 ?_
    refine yy_iald C Z (by decide) rfl dX10_readEnd_31 h (fun v4 h => ?_)
    refine yy_if_ne (tgt := 42) C dX10_readEnd_32 (by decide) h (fun h => ?_) (fun h => ?_)
    · refine lv_aload_n C.1.1 C.1.2.1 dX10_readEnd_42 rfl (lv_at hl 0 rfl) ?_
      refine yg_X10_4 C Z tw_796 dX10_readEnd_43 ?_
      refine lv_iconst (v := 0) C.1.1 C.1.2.1 dX10_readEnd_46 (by decide) ?_
      refine lv_dup2_11 C.1.1 C.1.2.1 dX10_readEnd_47 rfl rfl ?_
      refine yy_iald C Z (by decide) rfl dX10_readEnd_48 h (fun v5 h => ?_)
      refine lv_iconst (v := 1) C.1.1 C.1.2.1 dX10_readEnd_49 (by decide) ?_
      refine lv_iadd C.1.1 C.1.2.1 dX10_readEnd_50 ?_
      refine yy_iast C Z (by decide) rfl dX10_readEnd_51 h (fun H locs τ Z h => ?_)
      refine lv_iconst (v := 1) C.1.1 C.1.2.1 dX10_readEnd_52 (by decide) ?_
      exact yy_iret C Z hr hlk rfl dX10_readEnd_53 h
    · exact ww_X10_readEnd_35  C hr hlk Z (lv_sub hl [0, 1] rfl) h
set_option maxHeartbeats 4000000 in
set_option maxRecDepth 100000 in
theorem ss_X10_readEnd (l : Launch) (D : va_G) (κ : Nat → Nat) (ext : va_W) (x1 : Int32) : yy_Mi l D κ ext yX10_readEnd cX10_readEnd 2 (some .boolean) rm_X10_readEnd 0 0 [.ref (κ 4 + 112), .int x1] (mm_X10_readEnd x1) := by
  intro sz τ res h
  refine yy_ofW (by decide) (Nat.le_of_ble_eq_true rfl) ?_
  intro p e s m args below meth c ls hsz E
  obtain ⟨C, hr, hlk, Z, hl⟩ := E
  subst hsz
  exact ww_X10_readEnd_E  C hr hlk Z hl h
/-! MovedLinesModel.reads(IZ)Z -/
noncomputable def mm_X10_reads_23b (x1 : Int32) (x2 : Int32) (x3 : Int32) (x4 : Int32) : yy_M ((Int32) ⊕ ((Unit))) :=
  yy_br (127 ≤ x4) (yy_rt (.inr ())) (yy_wA 115 127 x4 0 (yy_rt (.inl (x4 + 1))))
noncomputable def mm_X10_reads_188 (x1 : Int32) (x2 : Int32) (x3 : Int32) (x4 : Int32) : yy_M ((Int32) ⊕ ((Unit) ⊕ (Int32) ⊕ (Int32) ⊕ (Unit) ⊕ (Unit))) :=
  yy_rt (.inl (x4 + 1))
noncomputable def mm_X10_reads_170 (x1 : Int32) (x2 : Int32) (x3 : Int32) (x4 : Int32) (x5 : Int32) : yy_M ((Int32) ⊕ ((Unit) ⊕ (Int32) ⊕ (Int32) ⊕ (Unit) ⊕ (Unit))) :=
  yy_br (x5 = 59) (yy_cl (mm_X10_readEnd x4) (fun r5 => yy_br (r5 = 0) (yy_rt (.inr (.inr (.inr (.inr (.inr ())))))) (mm_X10_reads_188 x1 x2 x3 x4))) (mm_X10_reads_188 x1 x2 x3 x4)
noncomputable def mm_X10_reads_160 (x1 : Int32) (x2 : Int32) (x3 : Int32) (x4 : Int32) (x5 : Int32) (x6 : Int32) : yy_M ((Int32) ⊕ ((Unit) ⊕ (Int32) ⊕ (Int32) ⊕ (Unit) ⊕ (Unit))) :=
  yy_br (x6 = 0) (mm_X10_reads_170 x1 x2 x3 x4 x5) (yy_wF 112 9 0 (mm_X10_reads_170 x1 x2 x3 x4 x5))
noncomputable def mm_X10_reads_152 (x1 : Int32) (x2 : Int32) (x3 : Int32) (x4 : Int32) (x5 : Int32) (x6 : Int32) (s0 : Int32) (s1 : Int32) (s2 : Int32) : yy_M ((Int32) ⊕ ((Unit) ⊕ (Int32) ⊕ (Int32) ⊕ (Unit) ⊕ (Unit))) :=
  yy_cl (mm_X10_readLetter s2 s1 s0) (fun r6 => yy_br (r6 = 0) (yy_rt (.inr (.inr (.inr (.inr (.inl ())))))) (mm_X10_reads_160 x1 x2 x3 x4 x5 x6))
noncomputable def mm_X10_reads_129 (x1 : Int32) (x2 : Int32) (x3 : Int32) (x4 : Int32) (x5 : Int32) (x6 : Int32) : yy_M ((Int32) ⊕ ((Unit) ⊕ (Int32) ⊕ (Int32) ⊕ (Unit) ⊕ (Unit))) :=
  yy_cl (mm_X10_isLetter x5) (fun r4 => yy_br (r4 = 0) (mm_X10_reads_160 x1 x2 x3 x4 x5 x6) (yy_br (x2 = 0) (mm_X10_reads_152 x1 x2 x3 x4 x5 x6 14 x4 x5) (mm_X10_reads_152 x1 x2 x3 x4 x5 x6 1 x4 x5)))
noncomputable def mm_X10_reads_95 (x1 : Int32) (x2 : Int32) (x3 : Int32) (x4 : Int32) (x5 : Int32) (s0 : Int32) : yy_M ((Int32) ⊕ ((Unit) ⊕ (Int32) ⊕ (Int32) ⊕ (Unit) ⊕ (Unit))) :=
  yy_cl (mm_X10_isLetter x5) (fun r3 => yy_br (r3 = 0) (yy_br (s0 = 0) (yy_br (x2 = 0) (yy_br (x5 = 59) (mm_X10_reads_129 x1 x2 x3 x4 x5 s0) (yy_rt (.inr (.inr (.inr (.inl x4)))))) (yy_rt (.inr (.inr (.inr (.inl x4)))))) (mm_X10_reads_129 x1 x2 x3 x4 x5 s0)) (mm_X10_reads_129 x1 x2 x3 x4 x5 s0))
noncomputable def mm_X10_reads_90 (x1 : Int32) (x2 : Int32) (x3 : Int32) (x4 : Int32) (x5 : Int32) : yy_M ((Int32) ⊕ ((Unit) ⊕ (Int32) ⊕ (Int32) ⊕ (Unit) ⊕ (Unit))) :=
  mm_X10_reads_95 x1 x2 x3 x4 x5 1
noncomputable def mm_X10_reads_47b (x1 : Int32) (x2 : Int32) (x3 : Int32) (x4 : Int32) : yy_M ((Int32) ⊕ ((Unit) ⊕ (Int32) ⊕ (Int32) ⊕ (Unit) ⊕ (Unit))) :=
  yy_br (x3 ≤ x4) (yy_rt (.inr (.inl ()))) (yy_br (x4 = x1) (yy_rt (.inr (.inr (.inl x4)))) (yy_rA 113 640 x4 fun v2 => yy_br (v2 = 32) (mm_X10_reads_90 x1 x2 x3 x4 v2) (yy_br (v2 = 10) (mm_X10_reads_90 x1 x2 x3 x4 v2) (mm_X10_reads_95 x1 x2 x3 x4 v2 0))))
noncomputable def mm_X10_reads_194 (x2 : Int32) (x3 : Int32) : yy_M Int32 :=
  yy_br (x2 = 0) (yy_rA 115 127 0 fun v7 => yy_br (v7 = 14) (yy_rt 1) (yy_rA 115 127 0 fun v8 => yy_rA 115 127 (1 + (9 * v8)) fun v9 => yy_br (v9 = 0) (yy_rt 1) (yy_cl (mm_X10_bad 1 x3) (fun r10 => yy_br (r10 = 0) (yy_rt 0) (yy_rt 1))))) (yy_cl (mm_X10_readEnd x3) (fun r11 => yy_ck (r11 = 0 ∨ r11 = 1) (yy_rt r11)))
noncomputable def mm_X10_reads_59 (x4 : Int32) : yy_M Int32 :=
  yy_cl (mm_X10_bad 1 x4) (fun r12 => yy_ck (r12 = 0 ∨ r12 = 1) (yy_rt r12))
noncomputable def mm_X10_reads_121 (x4 : Int32) : yy_M Int32 :=
  yy_cl (mm_X10_bad 1 x4) (fun r13 => yy_ck (r13 = 0 ∨ r13 = 1) (yy_rt r13))
noncomputable def mm_X10_reads_158 : yy_M Int32 :=
  yy_rt 0
noncomputable def mm_X10_reads_186 : yy_M Int32 :=
  yy_rt 0
noncomputable def mm_X10_reads_47 (x1 : Int32) (x2 : Int32) (x3 : Int32) (x4 : Int32) : yy_M Int32 :=
  yy_cl (yy_lp (fun (w : Int32) => mm_X10_reads_47b x1 x2 x3 w) x4) (Sum.elim (fun w => mm_X10_reads_194 x2 x3) (Sum.elim (fun w => mm_X10_reads_59 w) (Sum.elim (fun w => mm_X10_reads_121 w) (Sum.elim (fun w => mm_X10_reads_158 ) (fun w => mm_X10_reads_186 )))))
noncomputable def mm_X10_reads_44 (x1 : Int32) (x2 : Int32) (x3 : Int32) : yy_M Int32 :=
  mm_X10_reads_47 x1 x2 x3 0
noncomputable def mm_X10_reads_23 (x1 : Int32) (x2 : Int32) (x3 : Int32) (x4 : Int32) : yy_M Int32 :=
  yy_cl (yy_lp (fun (w : Int32) => mm_X10_reads_23b x1 x2 x3 w) x4) (fun w => mm_X10_reads_44 x1 x2 x3)
noncomputable def mm_X10_reads (x1 : Int32) (x2 : Int32) : yy_M Int32 :=
  yy_rF 112 2 fun v1 => yy_wF 112 2 0 (yy_wF 112 7 0 (yy_wF 112 9 0 (mm_X10_reads_23 x1 x2 v1 0)))
theorem kw_X10_reads : yy_wV RX10 yX10_reads cX10_reads 7 (some .boolean) 2 := ⟨⟨tw_865, tw_23, tw_61, tw_866⟩, by decide +kernel⟩
abbrev rm_X10_reads : Room := { frames := 2, cells := 0, slots := 0, locals := 46 }
set_option maxHeartbeats 4000000 in
set_option maxRecDepth 100000 in
theorem ww_X10_reads_23b {x1 : Int32} {x2 : Int32} {x3 : Int32} {x4 : Int32} {res : ((Int32) ⊕ ((Unit))) × yy_T} {Q : State → Prop} (C : yy_C D κ p m c cX10_reads 7 s args RX10) (Z : yy_Z D κ ext A s.heap τ H locs) (hl : lv_has ls 7 [(0, .ref (κ 4 + 112)), (1, .int x1), (2, .int x2), (3, .int x3), (4, .int x4)]) (h : mm_X10_reads_23b x1 x2 x3 x4 τ = some res)
    (kI : ∀ (w : Int32) (τ1 : yy_T) (H1 : Heap) (locs1 : List Loc) (ls1 : Array Slot), res = (.inl w, τ1) → yy_Z D κ ext A s.heap τ1 H1 locs1 → lv_has ls1 7 [(0, .ref (κ 4 + 112)), (1, .int x1), (2, .int x2), (3, .int x3), (4, .int w)] → W p l e rm_X10_reads s m args below meth c H1 locs1 0 0 Q (F0 m 23 ls1 []))
    (kR0 : ∀ (w : Unit) (τ1 : yy_T) (H1 : Heap) (locs1 : List Loc) (ls1 : Array Slot), res = (.inr w, τ1) → yy_Z D κ ext A s.heap τ1 H1 locs1 → lv_has ls1 7 [(0, .ref (κ 4 + 112)), (1, .int x1), (2, .int x2), (3, .int x3)] → W p l e rm_X10_reads s m args below meth c H1 locs1 0 0 Q (F0 m 44 ls1 [])) : W p l e rm_X10_reads s m args below meth c H locs 0 0 Q (F0 m 23 ls []) := by
  unfold mm_X10_reads_23b at h
  refine lv_iload C.1.1 C.1.2.1 dX10_reads_23 (lv_at hl 4 rfl) ?_
  refine lv_bipush (v := 127) C.1.1 C.1.2.1 dX10_reads_25 (by decide) ?_
  refine yy_icmp_ge (tgt := 44) C dX10_reads_27 (by decide) h (fun h => ?_) (fun h => ?_)
  · exact kR0 _ _ _ _ _ (yy_rt_of h) Z (lv_sub hl [0, 1, 2, 3] rfl)
  · refine lv_aload_n C.1.1 C.1.2.1 dX10_reads_30 rfl (lv_at hl 0 rfl) ?_
    refine yg_X10_4 C Z tw_796 dX10_reads_31 ?_
    refine lv_iload C.1.1 C.1.2.1 dX10_reads_34 (lv_at hl 4 rfl) ?_
    refine lv_iconst (v := 0) C.1.1 C.1.2.1 dX10_reads_36 (by decide) ?_
    refine yy_iast C Z (by decide) rfl dX10_reads_37 h (fun H locs τ Z h => ?_)
    refine lv_iinc (v := x4 + 1) (lv' := [(4, .int (x4 + 1)), (0, .ref (κ 4 + 112)), (1, .int x1), (2, .int x2), (3, .int x3)]) C.1.1 C.1.2.1 dX10_reads_38 hl (k := 4) rfl (by rfl) (by decide) rfl (fun ls hl => ?_)
    refine lv_goto (tgt := 23) C.1.1 C.1.2.1 dX10_reads_41 (by decide) ?_
    exact kI _ _ _ _ _ (yy_rt_of h) Z (lv_sub hl [1, 2, 3, 4, 0] rfl)
set_option maxHeartbeats 4000000 in
set_option maxRecDepth 100000 in
theorem ww_X10_reads_188 {x1 : Int32} {x2 : Int32} {x3 : Int32} {x4 : Int32} {res : ((Int32) ⊕ ((Unit) ⊕ (Int32) ⊕ (Int32) ⊕ (Unit) ⊕ (Unit))) × yy_T} {Q : State → Prop} (C : yy_C D κ p m c cX10_reads 7 s args RX10) (Z : yy_Z D κ ext A s.heap τ H locs) (hl : lv_has ls 7 [(0, .ref (κ 4 + 112)), (1, .int x1), (2, .int x2), (3, .int x3), (4, .int x4)]) (h : mm_X10_reads_188 x1 x2 x3 x4 τ = some res)
    (kI : ∀ (w : Int32) (τ1 : yy_T) (H1 : Heap) (locs1 : List Loc) (ls1 : Array Slot), res = (.inl w, τ1) → yy_Z D κ ext A s.heap τ1 H1 locs1 → lv_has ls1 7 [(0, .ref (κ 4 + 112)), (1, .int x1), (2, .int x2), (3, .int x3), (4, .int w)] → W p l e rm_X10_reads s m args below meth c H1 locs1 0 0 Q (F0 m 47 ls1 [])) : W p l e rm_X10_reads s m args below meth c H locs 0 0 Q (F0 m 188 ls []) := by
  unfold mm_X10_reads_188 at h
  refine lv_iinc (v := x4 + 1) (lv' := [(4, .int (x4 + 1)), (0, .ref (κ 4 + 112)), (1, .int x1), (2, .int x2), (3, .int x3)]) C.1.1 C.1.2.1 dX10_reads_188 hl (k := 4) rfl (by rfl) (by decide) rfl (fun ls hl => ?_)
  refine lv_goto (tgt := 47) C.1.1 C.1.2.1 dX10_reads_191 (by decide) ?_
  exact kI _ _ _ _ _ (yy_rt_of h) Z (lv_sub hl [1, 2, 3, 4, 0] rfl)
set_option maxHeartbeats 4000000 in
set_option maxRecDepth 100000 in
theorem ww_X10_reads_170 {x1 : Int32} {x2 : Int32} {x3 : Int32} {x4 : Int32} {x5 : Int32} {res : ((Int32) ⊕ ((Unit) ⊕ (Int32) ⊕ (Int32) ⊕ (Unit) ⊕ (Unit))) × yy_T} {Q : State → Prop} (C : yy_C D κ p m c cX10_reads 7 s args RX10) (Z : yy_Z D κ ext A s.heap τ H locs) (hl : lv_has ls 7 [(0, .ref (κ 4 + 112)), (1, .int x1), (2, .int x2), (3, .int x3), (4, .int x4), (5, .int x5)]) (h : mm_X10_reads_170 x1 x2 x3 x4 x5 τ = some res)
    (kI : ∀ (w : Int32) (τ1 : yy_T) (H1 : Heap) (locs1 : List Loc) (ls1 : Array Slot), res = (.inl w, τ1) → yy_Z D κ ext A s.heap τ1 H1 locs1 → lv_has ls1 7 [(0, .ref (κ 4 + 112)), (1, .int x1), (2, .int x2), (3, .int x3), (4, .int w)] → W p l e rm_X10_reads s m args below meth c H1 locs1 0 0 Q (F0 m 47 ls1 []))
    (kR4 : ∀ (w : Unit) (τ1 : yy_T) (H1 : Heap) (locs1 : List Loc) (ls1 : Array Slot), res = (.inr (.inr (.inr (.inr (.inr w)))), τ1) → yy_Z D κ ext A s.heap τ1 H1 locs1 → lv_has ls1 7 [] → W p l e rm_X10_reads s m args below meth c H1 locs1 0 0 Q (F0 m 186 ls1 [])) : W p l e rm_X10_reads s m args below meth c H locs 0 0 Q (F0 m 170 ls []) := by
  unfold mm_X10_reads_170 at h
  refine lv_iload C.1.1 C.1.2.1 dX10_reads_170 (lv_at hl 5 rfl) ?_
  refine lv_bipush (v := 59) C.1.1 C.1.2.1 dX10_reads_172 (by decide) ?_
  refine yy_icmp_ne (tgt := 188) C dX10_reads_174 (by decide) h (fun h => ?_) (fun h => ?_)
  · exact ww_X10_reads_188  C Z (lv_sub hl [0, 1, 2, 3, 4] rfl) h kI
  · refine lv_aload_n C.1.1 C.1.2.1 dX10_reads_177 rfl (lv_at hl 0 rfl) ?_
    refine lv_iload C.1.1 C.1.2.1 dX10_reads_178 (lv_at hl 4 rfl) ?_
    refine yy_cVi0 (As := [.int x4]) (rest := []) (id := 112) (ci := 10) (q := (RX10, TX10, 20)) C Z (ss_X10_readEnd l D κ ext x4) (by decide) (yy_ent_112 _) rfl tw_878 kw_X10_readEnd ⟨⟨rfl, rfl⟩, ⟨Nat.le_of_ble_eq_true rfl, Nat.le_of_ble_eq_true rfl⟩, Nat.le_of_ble_eq_true rfl, Nat.le_of_ble_eq_true rfl⟩ hl.1 rfl (Nat.le_of_ble_eq_true rfl) dX10_reads_180 h (fun r5 τ H locs Z h => ?_)
    refine yy_if_ne (tgt := 188) C dX10_reads_183 (by decide) h (fun h => ?_) (fun h => ?_)
    · exact ww_X10_reads_188  C Z (lv_sub hl [0, 1, 2, 3, 4] rfl) h kI
    · exact kR4 _ _ _ _ _ (yy_rt_of h) Z (lv_sub hl [] rfl)
set_option maxHeartbeats 4000000 in
set_option maxRecDepth 100000 in
theorem ww_X10_reads_160 {x1 : Int32} {x2 : Int32} {x3 : Int32} {x4 : Int32} {x5 : Int32} {x6 : Int32} {res : ((Int32) ⊕ ((Unit) ⊕ (Int32) ⊕ (Int32) ⊕ (Unit) ⊕ (Unit))) × yy_T} {Q : State → Prop} (C : yy_C D κ p m c cX10_reads 7 s args RX10) (Z : yy_Z D κ ext A s.heap τ H locs) (hl : lv_has ls 7 [(0, .ref (κ 4 + 112)), (1, .int x1), (2, .int x2), (3, .int x3), (4, .int x4), (5, .int x5), (6, .int x6)]) (h : mm_X10_reads_160 x1 x2 x3 x4 x5 x6 τ = some res)
    (kI : ∀ (w : Int32) (τ1 : yy_T) (H1 : Heap) (locs1 : List Loc) (ls1 : Array Slot), res = (.inl w, τ1) → yy_Z D κ ext A s.heap τ1 H1 locs1 → lv_has ls1 7 [(0, .ref (κ 4 + 112)), (1, .int x1), (2, .int x2), (3, .int x3), (4, .int w)] → W p l e rm_X10_reads s m args below meth c H1 locs1 0 0 Q (F0 m 47 ls1 []))
    (kR4 : ∀ (w : Unit) (τ1 : yy_T) (H1 : Heap) (locs1 : List Loc) (ls1 : Array Slot), res = (.inr (.inr (.inr (.inr (.inr w)))), τ1) → yy_Z D κ ext A s.heap τ1 H1 locs1 → lv_has ls1 7 [] → W p l e rm_X10_reads s m args below meth c H1 locs1 0 0 Q (F0 m 186 ls1 [])) : W p l e rm_X10_reads s m args below meth c H locs 0 0 Q (F0 m 160 ls []) := by
  unfold mm_X10_reads_160 at h
  refine lv_iload C.1.1 C.1.2.1 dX10_reads_160 (lv_at hl 6 rfl) ?_
  refine yy_if_eq (tgt := 170) C dX10_reads_162 (by decide) h (fun h => ?_) (fun h => ?_)
  · exact ww_X10_reads_170  C Z (lv_sub hl [0, 1, 2, 3, 4, 5] rfl) h kI kR4
  · refine lv_aload_n C.1.1 C.1.2.1 dX10_reads_165 rfl (lv_at hl 0 rfl) ?_
    refine lv_iconst (v := 0) C.1.1 C.1.2.1 dX10_reads_166 (by decide) ?_
    refine yp_X10_9 C Z tw_801 dX10_reads_167 h (fun H locs τ Z h => ?_)
    exact ww_X10_reads_170  C Z (lv_sub hl [0, 1, 2, 3, 4, 5] rfl) h kI kR4
set_option maxHeartbeats 4000000 in
set_option maxRecDepth 100000 in
theorem ww_X10_reads_152 {x1 : Int32} {x2 : Int32} {x3 : Int32} {x4 : Int32} {x5 : Int32} {x6 : Int32} {s0 : Int32} {s1 : Int32} {s2 : Int32} {res : ((Int32) ⊕ ((Unit) ⊕ (Int32) ⊕ (Int32) ⊕ (Unit) ⊕ (Unit))) × yy_T} {Q : State → Prop} (C : yy_C D κ p m c cX10_reads 7 s args RX10) (Z : yy_Z D κ ext A s.heap τ H locs) (hl : lv_has ls 7 [(0, .ref (κ 4 + 112)), (1, .int x1), (2, .int x2), (3, .int x3), (4, .int x4), (5, .int x5), (6, .int x6)]) (h : mm_X10_reads_152 x1 x2 x3 x4 x5 x6 s0 s1 s2 τ = some res)
    (kI : ∀ (w : Int32) (τ1 : yy_T) (H1 : Heap) (locs1 : List Loc) (ls1 : Array Slot), res = (.inl w, τ1) → yy_Z D κ ext A s.heap τ1 H1 locs1 → lv_has ls1 7 [(0, .ref (κ 4 + 112)), (1, .int x1), (2, .int x2), (3, .int x3), (4, .int w)] → W p l e rm_X10_reads s m args below meth c H1 locs1 0 0 Q (F0 m 47 ls1 []))
    (kR3 : ∀ (w : Unit) (τ1 : yy_T) (H1 : Heap) (locs1 : List Loc) (ls1 : Array Slot), res = (.inr (.inr (.inr (.inr (.inl w)))), τ1) → yy_Z D κ ext A s.heap τ1 H1 locs1 → lv_has ls1 7 [] → W p l e rm_X10_reads s m args below meth c H1 locs1 0 0 Q (F0 m 158 ls1 []))
    (kR4 : ∀ (w : Unit) (τ1 : yy_T) (H1 : Heap) (locs1 : List Loc) (ls1 : Array Slot), res = (.inr (.inr (.inr (.inr (.inr w)))), τ1) → yy_Z D κ ext A s.heap τ1 H1 locs1 → lv_has ls1 7 [] → W p l e rm_X10_reads s m args below meth c H1 locs1 0 0 Q (F0 m 186 ls1 [])) : W p l e rm_X10_reads s m args below meth c H locs 0 0 Q (F0 m 152 ls [.int s0, .int s1, .int s2, .ref (κ 4 + 112)]) := by
  unfold mm_X10_reads_152 at h
  refine yy_cVi0 (As := [.int s2, .int s1, .int s0]) (rest := []) (id := 112) (ci := 10) (q := (RX10, TX10, 20)) C Z (ss_X10_readLetter l D κ ext s2 s1 s0) (by decide) (yy_ent_112 _) rfl tw_874 kw_X10_readLetter ⟨⟨rfl, rfl⟩, ⟨Nat.le_of_ble_eq_true rfl, Nat.le_of_ble_eq_true rfl⟩, Nat.le_of_ble_eq_true rfl, Nat.le_of_ble_eq_true rfl⟩ hl.1 rfl (Nat.le_of_ble_eq_true rfl) dX10_reads_152 h (fun r6 τ H locs Z h => ?_)
  refine yy_if_ne (tgt := 160) C dX10_reads_155 (by decide) h (fun h => ?_) (fun h => ?_)
  · exact ww_X10_reads_160  C Z (lv_sub hl [0, 1, 2, 3, 4, 5, 6] rfl) h kI kR4
  · exact kR3 _ _ _ _ _ (yy_rt_of h) Z (lv_sub hl [] rfl)
set_option maxHeartbeats 4000000 in
set_option maxRecDepth 100000 in
theorem ww_X10_reads_129 {x1 : Int32} {x2 : Int32} {x3 : Int32} {x4 : Int32} {x5 : Int32} {x6 : Int32} {res : ((Int32) ⊕ ((Unit) ⊕ (Int32) ⊕ (Int32) ⊕ (Unit) ⊕ (Unit))) × yy_T} {Q : State → Prop} (C : yy_C D κ p m c cX10_reads 7 s args RX10) (Z : yy_Z D κ ext A s.heap τ H locs) (hl : lv_has ls 7 [(0, .ref (κ 4 + 112)), (1, .int x1), (2, .int x2), (3, .int x3), (4, .int x4), (5, .int x5), (6, .int x6)]) (h : mm_X10_reads_129 x1 x2 x3 x4 x5 x6 τ = some res)
    (kI : ∀ (w : Int32) (τ1 : yy_T) (H1 : Heap) (locs1 : List Loc) (ls1 : Array Slot), res = (.inl w, τ1) → yy_Z D κ ext A s.heap τ1 H1 locs1 → lv_has ls1 7 [(0, .ref (κ 4 + 112)), (1, .int x1), (2, .int x2), (3, .int x3), (4, .int w)] → W p l e rm_X10_reads s m args below meth c H1 locs1 0 0 Q (F0 m 47 ls1 []))
    (kR3 : ∀ (w : Unit) (τ1 : yy_T) (H1 : Heap) (locs1 : List Loc) (ls1 : Array Slot), res = (.inr (.inr (.inr (.inr (.inl w)))), τ1) → yy_Z D κ ext A s.heap τ1 H1 locs1 → lv_has ls1 7 [] → W p l e rm_X10_reads s m args below meth c H1 locs1 0 0 Q (F0 m 158 ls1 []))
    (kR4 : ∀ (w : Unit) (τ1 : yy_T) (H1 : Heap) (locs1 : List Loc) (ls1 : Array Slot), res = (.inr (.inr (.inr (.inr (.inr w)))), τ1) → yy_Z D κ ext A s.heap τ1 H1 locs1 → lv_has ls1 7 [] → W p l e rm_X10_reads s m args below meth c H1 locs1 0 0 Q (F0 m 186 ls1 [])) : W p l e rm_X10_reads s m args below meth c H locs 0 0 Q (F0 m 129 ls []) := by
  unfold mm_X10_reads_129 at h
  refine lv_iload C.1.1 C.1.2.1 dX10_reads_129 (lv_at hl 5 rfl) ?_
  refine yy_cSi0 (As := [.int x5]) (rest := [])  C Z (ss_X10_isLetter l D κ ext x5) tw_871 kw_X10_isLetter ⟨⟨rfl, rfl⟩, ⟨Nat.le_of_ble_eq_true rfl, Nat.le_of_ble_eq_true rfl⟩, Nat.le_of_ble_eq_true rfl, Nat.le_of_ble_eq_true rfl⟩ hl.1 rfl (Nat.le_of_ble_eq_true rfl) dX10_reads_131 h (fun r4 τ H locs Z h => ?_)
  refine yy_if_eq (tgt := 160) C dX10_reads_134 (by decide) h (fun h => ?_) (fun h => ?_)
  · exact ww_X10_reads_160  C Z (lv_sub hl [0, 1, 2, 3, 4, 5, 6] rfl) h kI kR4
  · refine lv_aload_n C.1.1 C.1.2.1 dX10_reads_137 rfl (lv_at hl 0 rfl) ?_
    refine lv_iload C.1.1 C.1.2.1 dX10_reads_138 (lv_at hl 5 rfl) ?_
    refine lv_iload C.1.1 C.1.2.1 dX10_reads_140 (lv_at hl 4 rfl) ?_
    refine lv_iload_n C.1.1 C.1.2.1 dX10_reads_142 rfl (lv_at hl 2 rfl) ?_
    refine yy_if_eq (tgt := 150) C dX10_reads_143 (by decide) h (fun h => ?_) (fun h => ?_)
    · refine lv_bipush (v := 14) C.1.1 C.1.2.1 dX10_reads_150 (by decide) ?_
      exact ww_X10_reads_152  C Z (lv_sub hl [0, 1, 2, 3, 4, 5, 6] rfl) h kI kR3 kR4
    · refine lv_iconst (v := 1) C.1.1 C.1.2.1 dX10_reads_146 (by decide) ?_
      refine lv_goto (tgt := 152) C.1.1 C.1.2.1 dX10_reads_147 (by decide) ?_
      exact ww_X10_reads_152  C Z (lv_sub hl [0, 1, 2, 3, 4, 5, 6] rfl) h kI kR3 kR4
set_option maxHeartbeats 4000000 in
set_option maxRecDepth 100000 in
theorem ww_X10_reads_95 {x1 : Int32} {x2 : Int32} {x3 : Int32} {x4 : Int32} {x5 : Int32} {s0 : Int32} {res : ((Int32) ⊕ ((Unit) ⊕ (Int32) ⊕ (Int32) ⊕ (Unit) ⊕ (Unit))) × yy_T} {Q : State → Prop} (C : yy_C D κ p m c cX10_reads 7 s args RX10) (Z : yy_Z D κ ext A s.heap τ H locs) (hl : lv_has ls 7 [(0, .ref (κ 4 + 112)), (1, .int x1), (2, .int x2), (3, .int x3), (4, .int x4), (5, .int x5)]) (h : mm_X10_reads_95 x1 x2 x3 x4 x5 s0 τ = some res)
    (kI : ∀ (w : Int32) (τ1 : yy_T) (H1 : Heap) (locs1 : List Loc) (ls1 : Array Slot), res = (.inl w, τ1) → yy_Z D κ ext A s.heap τ1 H1 locs1 → lv_has ls1 7 [(0, .ref (κ 4 + 112)), (1, .int x1), (2, .int x2), (3, .int x3), (4, .int w)] → W p l e rm_X10_reads s m args below meth c H1 locs1 0 0 Q (F0 m 47 ls1 []))
    (kR2 : ∀ (w : Int32) (τ1 : yy_T) (H1 : Heap) (locs1 : List Loc) (ls1 : Array Slot), res = (.inr (.inr (.inr (.inl w))), τ1) → yy_Z D κ ext A s.heap τ1 H1 locs1 → lv_has ls1 7 [(0, .ref (κ 4 + 112)), (4, .int w)] → W p l e rm_X10_reads s m args below meth c H1 locs1 0 0 Q (F0 m 121 ls1 []))
    (kR3 : ∀ (w : Unit) (τ1 : yy_T) (H1 : Heap) (locs1 : List Loc) (ls1 : Array Slot), res = (.inr (.inr (.inr (.inr (.inl w)))), τ1) → yy_Z D κ ext A s.heap τ1 H1 locs1 → lv_has ls1 7 [] → W p l e rm_X10_reads s m args below meth c H1 locs1 0 0 Q (F0 m 158 ls1 []))
    (kR4 : ∀ (w : Unit) (τ1 : yy_T) (H1 : Heap) (locs1 : List Loc) (ls1 : Array Slot), res = (.inr (.inr (.inr (.inr (.inr w)))), τ1) → yy_Z D κ ext A s.heap τ1 H1 locs1 → lv_has ls1 7 [] → W p l e rm_X10_reads s m args below meth c H1 locs1 0 0 Q (F0 m 186 ls1 [])) : W p l e rm_X10_reads s m args below meth c H locs 0 0 Q (F0 m 95 ls [.int s0]) := by
  unfold mm_X10_reads_95 at h
  refine lv_istore (lv' := [(6, .int s0), (0, .ref (κ 4 + 112)), (1, .int x1), (2, .int x2), (3, .int x3), (4, .int x4), (5, .int x5)]) C.1.1 C.1.2.1 dX10_reads_95 hl (by decide) rfl (fun ls hl => ?_)
  refine lv_iload C.1.1 C.1.2.1 dX10_reads_97 (lv_at hl 6 rfl) ?_
  refine yy_cSi0 (As := [.int x5]) (rest := [])  C Z (ss_X10_isLetter l D κ ext x5) tw_871 kw_X10_isLetter ⟨⟨rfl, rfl⟩, ⟨Nat.le_of_ble_eq_true rfl, Nat.le_of_ble_eq_true rfl⟩, Nat.le_of_ble_eq_true rfl, Nat.le_of_ble_eq_true rfl⟩ hl.1 rfl (Nat.le_of_ble_eq_true rfl) dX10_reads_99 h (fun r3 τ H locs Z h => ?_)
  refine yy_if_ne (tgt := 129) C dX10_reads_102 (by decide) h (fun h => ?_) (fun h => ?_)
  · exact ww_X10_reads_129  C Z (lv_sub hl [1, 2, 3, 4, 5, 6, 0] rfl) h kI kR3 kR4
  · refine lv_iload C.1.1 C.1.2.1 dX10_reads_105 (lv_at hl 0 rfl) ?_
    refine yy_if_ne (tgt := 129) C dX10_reads_107 (by decide) h (fun h => ?_) (fun h => ?_)
    · exact ww_X10_reads_129  C Z (lv_sub hl [1, 2, 3, 4, 5, 6, 0] rfl) h kI kR3 kR4
    · refine lv_iload_n C.1.1 C.1.2.1 dX10_reads_110 rfl (lv_at hl 3 rfl) ?_
      refine yy_if_ne (tgt := 121) C dX10_reads_111 (by decide) h (fun h => ?_) (fun h => ?_)
      · exact kR2 _ _ _ _ _ (yy_rt_of h) Z (lv_sub hl [1, 5] rfl)
      · refine lv_iload C.1.1 C.1.2.1 dX10_reads_114 (lv_at hl 6 rfl) ?_
        refine lv_bipush (v := 59) C.1.1 C.1.2.1 dX10_reads_116 (by decide) ?_
        refine yy_icmp_eq (tgt := 129) C dX10_reads_118 (by decide) h (fun h => ?_) (fun h => ?_)
        · exact ww_X10_reads_129  C Z (lv_sub hl [1, 2, 3, 4, 5, 6, 0] rfl) h kI kR3 kR4
        · exact kR2 _ _ _ _ _ (yy_rt_of h) Z (lv_sub hl [1, 5] rfl)
set_option maxHeartbeats 4000000 in
set_option maxRecDepth 100000 in
theorem ww_X10_reads_90 {x1 : Int32} {x2 : Int32} {x3 : Int32} {x4 : Int32} {x5 : Int32} {res : ((Int32) ⊕ ((Unit) ⊕ (Int32) ⊕ (Int32) ⊕ (Unit) ⊕ (Unit))) × yy_T} {Q : State → Prop} (C : yy_C D κ p m c cX10_reads 7 s args RX10) (Z : yy_Z D κ ext A s.heap τ H locs) (hl : lv_has ls 7 [(0, .ref (κ 4 + 112)), (1, .int x1), (2, .int x2), (3, .int x3), (4, .int x4), (5, .int x5)]) (h : mm_X10_reads_90 x1 x2 x3 x4 x5 τ = some res)
    (kI : ∀ (w : Int32) (τ1 : yy_T) (H1 : Heap) (locs1 : List Loc) (ls1 : Array Slot), res = (.inl w, τ1) → yy_Z D κ ext A s.heap τ1 H1 locs1 → lv_has ls1 7 [(0, .ref (κ 4 + 112)), (1, .int x1), (2, .int x2), (3, .int x3), (4, .int w)] → W p l e rm_X10_reads s m args below meth c H1 locs1 0 0 Q (F0 m 47 ls1 []))
    (kR2 : ∀ (w : Int32) (τ1 : yy_T) (H1 : Heap) (locs1 : List Loc) (ls1 : Array Slot), res = (.inr (.inr (.inr (.inl w))), τ1) → yy_Z D κ ext A s.heap τ1 H1 locs1 → lv_has ls1 7 [(0, .ref (κ 4 + 112)), (4, .int w)] → W p l e rm_X10_reads s m args below meth c H1 locs1 0 0 Q (F0 m 121 ls1 []))
    (kR3 : ∀ (w : Unit) (τ1 : yy_T) (H1 : Heap) (locs1 : List Loc) (ls1 : Array Slot), res = (.inr (.inr (.inr (.inr (.inl w)))), τ1) → yy_Z D κ ext A s.heap τ1 H1 locs1 → lv_has ls1 7 [] → W p l e rm_X10_reads s m args below meth c H1 locs1 0 0 Q (F0 m 158 ls1 []))
    (kR4 : ∀ (w : Unit) (τ1 : yy_T) (H1 : Heap) (locs1 : List Loc) (ls1 : Array Slot), res = (.inr (.inr (.inr (.inr (.inr w)))), τ1) → yy_Z D κ ext A s.heap τ1 H1 locs1 → lv_has ls1 7 [] → W p l e rm_X10_reads s m args below meth c H1 locs1 0 0 Q (F0 m 186 ls1 [])) : W p l e rm_X10_reads s m args below meth c H locs 0 0 Q (F0 m 90 ls []) := by
  unfold mm_X10_reads_90 at h
  refine lv_iconst (v := 1) C.1.1 C.1.2.1 dX10_reads_90 (by decide) ?_
  refine lv_goto (tgt := 95) C.1.1 C.1.2.1 dX10_reads_91 (by decide) ?_
  exact ww_X10_reads_95  C Z (lv_sub hl [0, 1, 2, 3, 4, 5] rfl) h kI kR2 kR3 kR4
set_option maxHeartbeats 4000000 in
set_option maxRecDepth 100000 in
theorem ww_X10_reads_47b {x1 : Int32} {x2 : Int32} {x3 : Int32} {x4 : Int32} {res : ((Int32) ⊕ ((Unit) ⊕ (Int32) ⊕ (Int32) ⊕ (Unit) ⊕ (Unit))) × yy_T} {Q : State → Prop} (C : yy_C D κ p m c cX10_reads 7 s args RX10) (Z : yy_Z D κ ext A s.heap τ H locs) (hl : lv_has ls 7 [(0, .ref (κ 4 + 112)), (1, .int x1), (2, .int x2), (3, .int x3), (4, .int x4)]) (h : mm_X10_reads_47b x1 x2 x3 x4 τ = some res)
    (kI : ∀ (w : Int32) (τ1 : yy_T) (H1 : Heap) (locs1 : List Loc) (ls1 : Array Slot), res = (.inl w, τ1) → yy_Z D κ ext A s.heap τ1 H1 locs1 → lv_has ls1 7 [(0, .ref (κ 4 + 112)), (1, .int x1), (2, .int x2), (3, .int x3), (4, .int w)] → W p l e rm_X10_reads s m args below meth c H1 locs1 0 0 Q (F0 m 47 ls1 []))
    (kR0 : ∀ (w : Unit) (τ1 : yy_T) (H1 : Heap) (locs1 : List Loc) (ls1 : Array Slot), res = (.inr (.inl w), τ1) → yy_Z D κ ext A s.heap τ1 H1 locs1 → lv_has ls1 7 [(0, .ref (κ 4 + 112)), (2, .int x2), (3, .int x3)] → W p l e rm_X10_reads s m args below meth c H1 locs1 0 0 Q (F0 m 194 ls1 []))
    (kR1 : ∀ (w : Int32) (τ1 : yy_T) (H1 : Heap) (locs1 : List Loc) (ls1 : Array Slot), res = (.inr (.inr (.inl w)), τ1) → yy_Z D κ ext A s.heap τ1 H1 locs1 → lv_has ls1 7 [(0, .ref (κ 4 + 112)), (4, .int w)] → W p l e rm_X10_reads s m args below meth c H1 locs1 0 0 Q (F0 m 59 ls1 []))
    (kR2 : ∀ (w : Int32) (τ1 : yy_T) (H1 : Heap) (locs1 : List Loc) (ls1 : Array Slot), res = (.inr (.inr (.inr (.inl w))), τ1) → yy_Z D κ ext A s.heap τ1 H1 locs1 → lv_has ls1 7 [(0, .ref (κ 4 + 112)), (4, .int w)] → W p l e rm_X10_reads s m args below meth c H1 locs1 0 0 Q (F0 m 121 ls1 []))
    (kR3 : ∀ (w : Unit) (τ1 : yy_T) (H1 : Heap) (locs1 : List Loc) (ls1 : Array Slot), res = (.inr (.inr (.inr (.inr (.inl w)))), τ1) → yy_Z D κ ext A s.heap τ1 H1 locs1 → lv_has ls1 7 [] → W p l e rm_X10_reads s m args below meth c H1 locs1 0 0 Q (F0 m 158 ls1 []))
    (kR4 : ∀ (w : Unit) (τ1 : yy_T) (H1 : Heap) (locs1 : List Loc) (ls1 : Array Slot), res = (.inr (.inr (.inr (.inr (.inr w)))), τ1) → yy_Z D κ ext A s.heap τ1 H1 locs1 → lv_has ls1 7 [] → W p l e rm_X10_reads s m args below meth c H1 locs1 0 0 Q (F0 m 186 ls1 [])) : W p l e rm_X10_reads s m args below meth c H locs 0 0 Q (F0 m 47 ls []) := by
  unfold mm_X10_reads_47b at h
  refine lv_iload C.1.1 C.1.2.1 dX10_reads_47 (lv_at hl 4 rfl) ?_
  refine lv_iload_n C.1.1 C.1.2.1 dX10_reads_49 rfl (lv_at hl 3 rfl) ?_
  refine yy_icmp_ge (tgt := 194) C dX10_reads_50 (by decide) h (fun h => ?_) (fun h => ?_)
  · exact kR0 _ _ _ _ _ (yy_rt_of h) Z (lv_sub hl [0, 2, 3] rfl)
  · refine lv_iload C.1.1 C.1.2.1 dX10_reads_53 (lv_at hl 4 rfl) ?_
    refine lv_iload_n C.1.1 C.1.2.1 dX10_reads_55 rfl (lv_at hl 1 rfl) ?_
    refine yy_icmp_ne (tgt := 67) C dX10_reads_56 (by decide) h (fun h => ?_) (fun h => ?_)
    · refine lv_aload_n C.1.1 C.1.2.1 dX10_reads_67 rfl (lv_at hl 0 rfl) ?_
      refine yg_X10_1 C Z tw_793 dX10_reads_68 ?_
      refine lv_iload C.1.1 C.1.2.1 dX10_reads_71 (lv_at hl 4 rfl) ?_
      refine yy_iald C Z (by decide) rfl dX10_reads_73 h (fun v2 h => ?_)
      refine lv_istore (lv' := [(5, .int v2), (0, .ref (κ 4 + 112)), (1, .int x1), (2, .int x2), (3, .int x3), (4, .int x4)]) C.1.1 C.1.2.1 dX10_reads_74 hl (by decide) rfl (fun ls hl => ?_)
      refine lv_iload C.1.1 C.1.2.1 dX10_reads_76 (lv_at hl 0 rfl) ?_
      refine lv_bipush (v := 32) C.1.1 C.1.2.1 dX10_reads_78 (by decide) ?_
      refine yy_icmp_eq (tgt := 90) C dX10_reads_80 (by decide) h (fun h => ?_) (fun h => ?_)
      · exact ww_X10_reads_90  C Z (lv_sub hl [1, 2, 3, 4, 5, 0] rfl) h kI kR2 kR3 kR4
      · refine lv_iload C.1.1 C.1.2.1 dX10_reads_83 (lv_at hl 0 rfl) ?_
        refine lv_bipush (v := 10) C.1.1 C.1.2.1 dX10_reads_85 (by decide) ?_
        refine yy_icmp_ne (tgt := 94) C dX10_reads_87 (by decide) h (fun h => ?_) (fun h => ?_)
        · refine lv_iconst (v := 0) C.1.1 C.1.2.1 dX10_reads_94 (by decide) ?_
          exact ww_X10_reads_95  C Z (lv_sub hl [1, 2, 3, 4, 5, 0] rfl) h kI kR2 kR3 kR4
        · exact ww_X10_reads_90  C Z (lv_sub hl [1, 2, 3, 4, 5, 0] rfl) h kI kR2 kR3 kR4
    · exact kR1 _ _ _ _ _ (yy_rt_of h) Z (lv_sub hl [0, 4] rfl)
set_option maxHeartbeats 4000000 in
set_option maxRecDepth 100000 in
theorem ww_X10_reads_194 {x2 : Int32} {x3 : Int32} {res : Int32 × yy_T} (C : yy_C D κ p m c cX10_reads 7 s args RX10) (hr : meth.sig.returnType = (some .boolean)) (hlk : meth.locks = false) (Z : yy_Z D κ ext A s.heap τ H locs) (hl : lv_has ls 7 [(0, .ref (κ 4 + 112)), (2, .int x2), (3, .int x3)]) (h : mm_X10_reads_194 x2 x3 τ = some res) : W p l e rm_X10_reads s m args below meth c H locs 0 0 (MQ below (yy_Qi D κ ext A res) args s 0 0 A) (F0 m 194 ls []) := by
  unfold mm_X10_reads_194 at h
  refine lv_iload_n C.1.1 C.1.2.1 dX10_reads_194 rfl (lv_at hl 1 rfl) ?_
  refine yy_if_eq (tgt := 204) C dX10_reads_195 (by decide) h (fun h => ?_) (fun h => ?_)
  · refine lv_aload_n C.1.1 C.1.2.1 dX10_reads_204 rfl (lv_at hl 0 rfl) ?_
    refine yg_X10_4 C Z tw_796 dX10_reads_205 ?_
    refine lv_iconst (v := 0) C.1.1 C.1.2.1 dX10_reads_208 (by decide) ?_
    refine yy_iald C Z (by decide) rfl dX10_reads_209 h (fun v7 h => ?_)
    refine lv_bipush (v := 14) C.1.1 C.1.2.1 dX10_reads_210 (by decide) ?_
    refine yy_icmp_eq (tgt := 243) C dX10_reads_212 (by decide) h (fun h => ?_) (fun h => ?_)
    · refine lv_iconst (v := 1) C.1.1 C.1.2.1 dX10_reads_243 (by decide) ?_
      refine lv_goto (tgt := 248) C.1.1 C.1.2.1 dX10_reads_244 (by decide) ?_
      exact yy_iret C Z hr hlk rfl dX10_reads_248 h
    · refine lv_aload_n C.1.1 C.1.2.1 dX10_reads_215 rfl (lv_at hl 0 rfl) ?_
      refine yg_X10_4 C Z tw_796 dX10_reads_216 ?_
      refine lv_iconst (v := 1) C.1.1 C.1.2.1 dX10_reads_219 (by decide) ?_
      refine lv_bipush (v := 9) C.1.1 C.1.2.1 dX10_reads_220 (by decide) ?_
      refine lv_aload_n C.1.1 C.1.2.1 dX10_reads_222 rfl (lv_at hl 0 rfl) ?_
      refine yg_X10_4 C Z tw_796 dX10_reads_223 ?_
      refine lv_iconst (v := 0) C.1.1 C.1.2.1 dX10_reads_226 (by decide) ?_
      refine yy_iald C Z (by decide) rfl dX10_reads_227 h (fun v8 h => ?_)
      refine lv_imul C.1.1 C.1.2.1 dX10_reads_228 ?_
      refine lv_iadd C.1.1 C.1.2.1 dX10_reads_229 ?_
      refine yy_iald C Z (by decide) rfl dX10_reads_230 h (fun v9 h => ?_)
      refine yy_if_eq (tgt := 243) C dX10_reads_231 (by decide) h (fun h => ?_) (fun h => ?_)
      · refine lv_iconst (v := 1) C.1.1 C.1.2.1 dX10_reads_243 (by decide) ?_
        refine lv_goto (tgt := 248) C.1.1 C.1.2.1 dX10_reads_244 (by decide) ?_
        exact yy_iret C Z hr hlk rfl dX10_reads_248 h
      · refine lv_aload_n C.1.1 C.1.2.1 dX10_reads_234 rfl (lv_at hl 0 rfl) ?_
        refine lv_iconst (v := 1) C.1.1 C.1.2.1 dX10_reads_235 (by decide) ?_
        refine lv_iload_n C.1.1 C.1.2.1 dX10_reads_236 rfl (lv_at hl 2 rfl) ?_
        refine yy_cVi0 (As := [.int 1, .int x3]) (rest := []) (id := 112) (ci := 10) (q := (RX10, TX10, 20)) C Z (ss_X10_bad l D κ ext 1 x3) (by decide) (yy_ent_112 _) rfl tw_867 kw_X10_bad ⟨⟨rfl, rfl⟩, ⟨Nat.le_of_ble_eq_true rfl, Nat.le_of_ble_eq_true rfl⟩, Nat.le_of_ble_eq_true rfl, Nat.le_of_ble_eq_true rfl⟩ hl.1 rfl (Nat.le_of_ble_eq_true rfl) dX10_reads_237 h (fun r10 τ H locs Z h => ?_)
        refine yy_if_eq (tgt := 247) C dX10_reads_240 (by decide) h (fun h => ?_) (fun h => ?_)
        · refine lv_iconst (v := 0) C.1.1 C.1.2.1 dX10_reads_247 (by decide) ?_
          exact yy_iret C Z hr hlk rfl dX10_reads_248 h
        · refine lv_iconst (v := 1) C.1.1 C.1.2.1 dX10_reads_243 (by decide) ?_
          refine lv_goto (tgt := 248) C.1.1 C.1.2.1 dX10_reads_244 (by decide) ?_
          exact yy_iret C Z hr hlk rfl dX10_reads_248 h
  · refine lv_aload_n C.1.1 C.1.2.1 dX10_reads_198 rfl (lv_at hl 0 rfl) ?_
    refine lv_iload_n C.1.1 C.1.2.1 dX10_reads_199 rfl (lv_at hl 2 rfl) ?_
    refine yy_cVi0 (As := [.int x3]) (rest := []) (id := 112) (ci := 10) (q := (RX10, TX10, 20)) C Z (ss_X10_readEnd l D κ ext x3) (by decide) (yy_ent_112 _) rfl tw_878 kw_X10_readEnd ⟨⟨rfl, rfl⟩, ⟨Nat.le_of_ble_eq_true rfl, Nat.le_of_ble_eq_true rfl⟩, Nat.le_of_ble_eq_true rfl, Nat.le_of_ble_eq_true rfl⟩ hl.1 rfl (Nat.le_of_ble_eq_true rfl) dX10_reads_200 h (fun r11 τ H locs Z h => ?_)
    exact yy_zret C Z hr hlk dX10_reads_203 h
set_option maxHeartbeats 4000000 in
set_option maxRecDepth 100000 in
theorem ww_X10_reads_59 {x4 : Int32} {res : Int32 × yy_T} (C : yy_C D κ p m c cX10_reads 7 s args RX10) (hr : meth.sig.returnType = (some .boolean)) (hlk : meth.locks = false) (Z : yy_Z D κ ext A s.heap τ H locs) (hl : lv_has ls 7 [(0, .ref (κ 4 + 112)), (4, .int x4)]) (h : mm_X10_reads_59 x4 τ = some res) : W p l e rm_X10_reads s m args below meth c H locs 0 0 (MQ below (yy_Qi D κ ext A res) args s 0 0 A) (F0 m 59 ls []) := by
  unfold mm_X10_reads_59 at h
  refine lv_aload_n C.1.1 C.1.2.1 dX10_reads_59 rfl (lv_at hl 0 rfl) ?_
  refine lv_iconst (v := 1) C.1.1 C.1.2.1 dX10_reads_60 (by decide) ?_
  refine lv_iload C.1.1 C.1.2.1 dX10_reads_61 (lv_at hl 1 rfl) ?_
  refine yy_cVi0 (As := [.int 1, .int x4]) (rest := []) (id := 112) (ci := 10) (q := (RX10, TX10, 20)) C Z (ss_X10_bad l D κ ext 1 x4) (by decide) (yy_ent_112 _) rfl tw_867 kw_X10_bad ⟨⟨rfl, rfl⟩, ⟨Nat.le_of_ble_eq_true rfl, Nat.le_of_ble_eq_true rfl⟩, Nat.le_of_ble_eq_true rfl, Nat.le_of_ble_eq_true rfl⟩ hl.1 rfl (Nat.le_of_ble_eq_true rfl) dX10_reads_63 h (fun r12 τ H locs Z h => ?_)
  exact yy_zret C Z hr hlk dX10_reads_66 h
set_option maxHeartbeats 4000000 in
set_option maxRecDepth 100000 in
theorem ww_X10_reads_121 {x4 : Int32} {res : Int32 × yy_T} (C : yy_C D κ p m c cX10_reads 7 s args RX10) (hr : meth.sig.returnType = (some .boolean)) (hlk : meth.locks = false) (Z : yy_Z D κ ext A s.heap τ H locs) (hl : lv_has ls 7 [(0, .ref (κ 4 + 112)), (4, .int x4)]) (h : mm_X10_reads_121 x4 τ = some res) : W p l e rm_X10_reads s m args below meth c H locs 0 0 (MQ below (yy_Qi D κ ext A res) args s 0 0 A) (F0 m 121 ls []) := by
  unfold mm_X10_reads_121 at h
  refine lv_aload_n C.1.1 C.1.2.1 dX10_reads_121 rfl (lv_at hl 0 rfl) ?_
  refine lv_iconst (v := 1) C.1.1 C.1.2.1 dX10_reads_122 (by decide) ?_
  refine lv_iload C.1.1 C.1.2.1 dX10_reads_123 (lv_at hl 1 rfl) ?_
  refine yy_cVi0 (As := [.int 1, .int x4]) (rest := []) (id := 112) (ci := 10) (q := (RX10, TX10, 20)) C Z (ss_X10_bad l D κ ext 1 x4) (by decide) (yy_ent_112 _) rfl tw_867 kw_X10_bad ⟨⟨rfl, rfl⟩, ⟨Nat.le_of_ble_eq_true rfl, Nat.le_of_ble_eq_true rfl⟩, Nat.le_of_ble_eq_true rfl, Nat.le_of_ble_eq_true rfl⟩ hl.1 rfl (Nat.le_of_ble_eq_true rfl) dX10_reads_125 h (fun r13 τ H locs Z h => ?_)
  exact yy_zret C Z hr hlk dX10_reads_128 h
set_option maxHeartbeats 4000000 in
set_option maxRecDepth 100000 in
theorem ww_X10_reads_158 {res : Int32 × yy_T} (C : yy_C D κ p m c cX10_reads 7 s args RX10) (hr : meth.sig.returnType = (some .boolean)) (hlk : meth.locks = false) (Z : yy_Z D κ ext A s.heap τ H locs) (hl : lv_has ls 7 []) (h : mm_X10_reads_158  τ = some res) : W p l e rm_X10_reads s m args below meth c H locs 0 0 (MQ below (yy_Qi D κ ext A res) args s 0 0 A) (F0 m 158 ls []) := by
  unfold mm_X10_reads_158 at h
  refine lv_iconst (v := 0) C.1.1 C.1.2.1 dX10_reads_158 (by decide) ?_
  exact yy_iret C Z hr hlk rfl dX10_reads_159 h
set_option maxHeartbeats 4000000 in
set_option maxRecDepth 100000 in
theorem ww_X10_reads_186 {res : Int32 × yy_T} (C : yy_C D κ p m c cX10_reads 7 s args RX10) (hr : meth.sig.returnType = (some .boolean)) (hlk : meth.locks = false) (Z : yy_Z D κ ext A s.heap τ H locs) (hl : lv_has ls 7 []) (h : mm_X10_reads_186  τ = some res) : W p l e rm_X10_reads s m args below meth c H locs 0 0 (MQ below (yy_Qi D κ ext A res) args s 0 0 A) (F0 m 186 ls []) := by
  unfold mm_X10_reads_186 at h
  refine lv_iconst (v := 0) C.1.1 C.1.2.1 dX10_reads_186 (by decide) ?_
  exact yy_iret C Z hr hlk rfl dX10_reads_187 h
set_option maxHeartbeats 4000000 in
set_option maxRecDepth 100000 in
theorem ww_X10_reads_47 {x1 : Int32} {x2 : Int32} {x3 : Int32} {x4 : Int32} {res : Int32 × yy_T} (C : yy_C D κ p m c cX10_reads 7 s args RX10) (hr : meth.sig.returnType = (some .boolean)) (hlk : meth.locks = false) (Z : yy_Z D κ ext A s.heap τ H locs) (hl : lv_has ls 7 [(0, .ref (κ 4 + 112)), (1, .int x1), (2, .int x2), (3, .int x3), (4, .int x4)]) (h : mm_X10_reads_47 x1 x2 x3 x4 τ = some res) : W p l e rm_X10_reads s m args below meth c H locs 0 0 (MQ below (yy_Qi D κ ext A res) args s 0 0 A) (F0 m 47 ls []) := by
  unfold mm_X10_reads_47 at h
  refine yy_loop h (fun (w : Int32) (τ : yy_T) => ∀ (H : Heap) (locs : List Loc) (ls : Array Slot), yy_Z D κ ext A s.heap τ H locs → lv_has ls 7 [(0, .ref (κ 4 + 112)), (1, .int x1), (2, .int x2), (3, .int x3), (4, .int w)] → W p l e rm_X10_reads s m args below meth c H locs 0 0 (MQ below (yy_Qi D κ ext A res) args s 0 0 A) (F0 m 47 ls [])) ?_ H locs ls Z hl
  intro w τ y hy hI hX H locs ls Z hl
  refine ww_X10_reads_47b  C Z hl hy (fun w τ H locs ls ey Z hl => hI w τ ey H locs ls Z hl) (fun w τ H locs ls ey Z hl => ?_) (fun w τ H locs ls ey Z hl => ?_) (fun w τ H locs ls ey Z hl => ?_) (fun w τ H locs ls ey Z hl => ?_) (fun w τ H locs ls ey Z hl => ?_)
  · have h := hX _ _ ey
    exact ww_X10_reads_194  C hr hlk Z (lv_sub hl [0, 1, 2] rfl) h
  · have h := hX _ _ ey
    exact ww_X10_reads_59  C hr hlk Z (lv_sub hl [0, 1] rfl) h
  · have h := hX _ _ ey
    exact ww_X10_reads_121  C hr hlk Z (lv_sub hl [0, 1] rfl) h
  · have h := hX _ _ ey
    exact ww_X10_reads_158  C hr hlk Z (lv_sub hl [] rfl) h
  · have h := hX _ _ ey
    exact ww_X10_reads_186  C hr hlk Z (lv_sub hl [] rfl) h
set_option maxHeartbeats 4000000 in
set_option maxRecDepth 100000 in
theorem ww_X10_reads_44 {x1 : Int32} {x2 : Int32} {x3 : Int32} {res : Int32 × yy_T} (C : yy_C D κ p m c cX10_reads 7 s args RX10) (hr : meth.sig.returnType = (some .boolean)) (hlk : meth.locks = false) (Z : yy_Z D κ ext A s.heap τ H locs) (hl : lv_has ls 7 [(0, .ref (κ 4 + 112)), (1, .int x1), (2, .int x2), (3, .int x3)]) (h : mm_X10_reads_44 x1 x2 x3 τ = some res) : W p l e rm_X10_reads s m args below meth c H locs 0 0 (MQ below (yy_Qi D κ ext A res) args s 0 0 A) (F0 m 44 ls []) := by
  unfold mm_X10_reads_44 at h
  refine lv_iconst (v := 0) C.1.1 C.1.2.1 dX10_reads_44 (by decide) ?_
  refine lv_istore (lv' := [(4, .int 0), (0, .ref (κ 4 + 112)), (1, .int x1), (2, .int x2), (3, .int x3)]) C.1.1 C.1.2.1 dX10_reads_45 hl (by decide) rfl (fun ls hl => ?_)
  exact ww_X10_reads_47  C hr hlk Z (lv_sub hl [1, 2, 3, 4, 0] rfl) h
set_option maxHeartbeats 4000000 in
set_option maxRecDepth 100000 in
theorem ww_X10_reads_23 {x1 : Int32} {x2 : Int32} {x3 : Int32} {x4 : Int32} {res : Int32 × yy_T} (C : yy_C D κ p m c cX10_reads 7 s args RX10) (hr : meth.sig.returnType = (some .boolean)) (hlk : meth.locks = false) (Z : yy_Z D κ ext A s.heap τ H locs) (hl : lv_has ls 7 [(0, .ref (κ 4 + 112)), (1, .int x1), (2, .int x2), (3, .int x3), (4, .int x4)]) (h : mm_X10_reads_23 x1 x2 x3 x4 τ = some res) : W p l e rm_X10_reads s m args below meth c H locs 0 0 (MQ below (yy_Qi D κ ext A res) args s 0 0 A) (F0 m 23 ls []) := by
  unfold mm_X10_reads_23 at h
  refine yy_loop h (fun (w : Int32) (τ : yy_T) => ∀ (H : Heap) (locs : List Loc) (ls : Array Slot), yy_Z D κ ext A s.heap τ H locs → lv_has ls 7 [(0, .ref (κ 4 + 112)), (1, .int x1), (2, .int x2), (3, .int x3), (4, .int w)] → W p l e rm_X10_reads s m args below meth c H locs 0 0 (MQ below (yy_Qi D κ ext A res) args s 0 0 A) (F0 m 23 ls [])) ?_ H locs ls Z hl
  intro w τ y hy hI hX H locs ls Z hl
  refine ww_X10_reads_23b  C Z hl hy (fun w τ H locs ls ey Z hl => hI w τ ey H locs ls Z hl) (fun w τ H locs ls ey Z hl => ?_)
  · have h := hX _ _ ey
    exact ww_X10_reads_44  C hr hlk Z (lv_sub hl [0, 1, 2, 3] rfl) h
set_option maxHeartbeats 4000000 in
set_option maxRecDepth 100000 in
theorem ww_X10_reads_E {x1 : Int32} {x2 : Int32} {res : Int32 × yy_T} (C : yy_C D κ p m c cX10_reads 7 s args RX10) (hr : meth.sig.returnType = (some .boolean)) (hlk : meth.locks = false) (Z : yy_Z D κ ext A s.heap τ H locs) (hl : lv_has ls 7 [(0, .ref (κ 4 + 112)), (1, .int x1), (2, .int x2)]) (h : mm_X10_reads x1 x2 τ = some res) : W p l e rm_X10_reads s m args below meth c H locs 0 0 (MQ below (yy_Qi D κ ext A res) args s 0 0 A) (F0 m 0 ls []) := by
  unfold mm_X10_reads at h
  refine lv_aload_n C.1.1 C.1.2.1 dX10_reads_0 rfl (lv_at hl 0 rfl) ?_
  refine yg_X10_2 C Z tw_794 dX10_reads_1 h (fun v1 h => ?_)
  refine lv_istore_n (lv' := [(3, .int v1), (0, .ref (κ 4 + 112)), (1, .int x1), (2, .int x2)]) C.1.1 C.1.2.1 dX10_reads_4 rfl hl (by decide) rfl (fun ls hl => ?_)
  refine lv_aload_n C.1.1 C.1.2.1 dX10_reads_5 rfl (lv_at hl 1 rfl) ?_
  refine lv_iconst (v := 0) C.1.1 C.1.2.1 dX10_reads_6 (by decide) ?_
  refine yp_X10_2 C Z tw_794 dX10_reads_7 h (fun H locs τ Z h => ?_)
  refine lv_aload_n C.1.1 C.1.2.1 dX10_reads_10 rfl (lv_at hl 1 rfl) ?_
  refine lv_iconst (v := 0) C.1.1 C.1.2.1 dX10_reads_11 (by decide) ?_
  refine yp_X10_7 C Z tw_799 dX10_reads_12 h (fun H locs τ Z h => ?_)
  refine lv_aload_n C.1.1 C.1.2.1 dX10_reads_15 rfl (lv_at hl 1 rfl) ?_
  refine lv_iconst (v := 0) C.1.1 C.1.2.1 dX10_reads_16 (by decide) ?_
  refine yp_X10_9 C Z tw_801 dX10_reads_17 h (fun H locs τ Z h => ?_)
  refine lv_iconst (v := 0) C.1.1 C.1.2.1 dX10_reads_20 (by decide) ?_
  refine lv_istore (lv' := [(4, .int 0), (3, .int v1), (0, .ref (κ 4 + 112)), (1, .int x1), (2, .int x2)]) C.1.1 C.1.2.1 dX10_reads_21 hl (by decide) rfl (fun ls hl => ?_)
  exact ww_X10_reads_23  C hr hlk Z (lv_sub hl [2, 3, 4, 1, 0] rfl) h
set_option maxHeartbeats 4000000 in
set_option maxRecDepth 100000 in
theorem ss_X10_reads (l : Launch) (D : va_G) (κ : Nat → Nat) (ext : va_W) (x1 : Int32) (x2 : Int32) : yy_Mi l D κ ext yX10_reads cX10_reads 7 (some .boolean) rm_X10_reads 0 0 [.ref (κ 4 + 112), .int x1, .int x2] (mm_X10_reads x1 x2) := by
  intro sz τ res h
  refine yy_ofW (by decide) (Nat.le_of_ble_eq_true rfl) ?_
  intro p e s m args below meth c ls hsz E
  obtain ⟨C, hr, hlk, Z, hl⟩ := E
  subst hsz
  exact ww_X10_reads_E  C hr hlk Z hl h
/-! MovedLinesModel.edition(I)I -/
noncomputable def mm_X10_edition_35b (x1 : Int32) (x2 : Int32) : yy_M ((Int32) ⊕ ((Unit))) :=
  yy_br (127 ≤ x2) (yy_rt (.inr ())) (yy_rA 115 127 x2 fun v3 => yy_wA 114 254 ((127 * x1) + x2) v3 (yy_rt (.inl (x2 + 1))))
noncomputable def mm_X10_edition_64 (x1 : Int32) : yy_M Int32 :=
  yy_wF 112 6 0 (yy_cl (mm_X10_many x1) (fun r4 => yy_rt r4))
noncomputable def mm_X10_edition_35 (x1 : Int32) (x2 : Int32) : yy_M Int32 :=
  yy_cl (yy_lp (fun (w : Int32) => mm_X10_edition_35b x1 w) x2) (fun w => mm_X10_edition_64 x1)
noncomputable def mm_X10_edition (x1 : Int32) : yy_M Int32 :=
  yy_wF 112 0 0 (yy_cl (mm_X10_isEdition x1) (fun r1 => yy_br (r1 = 0) (yy_rt ((-1))) (yy_cl (mm_X10_reads 600 0) (fun r2 => yy_br (r2 = 0) (yy_rF 112 8 fun v5 => yy_rt (((-2)) - v5)) (mm_X10_edition_35 x1 0)))))
theorem kw_X10_edition : yy_wV RX10 yX10_edition cX10_edition 3 (some .int) 1 := ⟨⟨tw_854, tw_855, tw_61, tw_856⟩, by decide +kernel⟩
abbrev rm_X10_edition : Room := { frames := 3, cells := 0, slots := 0, locals := 72 }
set_option maxHeartbeats 4000000 in
set_option maxRecDepth 100000 in
theorem ww_X10_edition_35b {x1 : Int32} {x2 : Int32} {res : ((Int32) ⊕ ((Unit))) × yy_T} {Q : State → Prop} (C : yy_C D κ p m c cX10_edition 3 s args RX10) (Z : yy_Z D κ ext A s.heap τ H locs) (hl : lv_has ls 3 [(0, .ref (κ 4 + 112)), (1, .int x1), (2, .int x2)]) (h : mm_X10_edition_35b x1 x2 τ = some res)
    (kI : ∀ (w : Int32) (τ1 : yy_T) (H1 : Heap) (locs1 : List Loc) (ls1 : Array Slot), res = (.inl w, τ1) → yy_Z D κ ext A s.heap τ1 H1 locs1 → lv_has ls1 3 [(0, .ref (κ 4 + 112)), (1, .int x1), (2, .int w)] → W p l e rm_X10_edition s m args below meth c H1 locs1 0 0 Q (F0 m 35 ls1 []))
    (kR0 : ∀ (w : Unit) (τ1 : yy_T) (H1 : Heap) (locs1 : List Loc) (ls1 : Array Slot), res = (.inr w, τ1) → yy_Z D κ ext A s.heap τ1 H1 locs1 → lv_has ls1 3 [(0, .ref (κ 4 + 112)), (1, .int x1)] → W p l e rm_X10_edition s m args below meth c H1 locs1 0 0 Q (F0 m 64 ls1 [])) : W p l e rm_X10_edition s m args below meth c H locs 0 0 Q (F0 m 35 ls []) := by
  unfold mm_X10_edition_35b at h
  refine lv_iload_n C.1.1 C.1.2.1 dX10_edition_35 rfl (lv_at hl 2 rfl) ?_
  refine lv_bipush (v := 127) C.1.1 C.1.2.1 dX10_edition_36 (by decide) ?_
  refine yy_icmp_ge (tgt := 64) C dX10_edition_38 (by decide) h (fun h => ?_) (fun h => ?_)
  · exact kR0 _ _ _ _ _ (yy_rt_of h) Z (lv_sub hl [0, 1] rfl)
  · refine lv_aload_n C.1.1 C.1.2.1 dX10_edition_41 rfl (lv_at hl 0 rfl) ?_
    refine yg_X10_3 C Z tw_795 dX10_edition_42 ?_
    refine lv_bipush (v := 127) C.1.1 C.1.2.1 dX10_edition_45 (by decide) ?_
    refine lv_iload_n C.1.1 C.1.2.1 dX10_edition_47 rfl (lv_at hl 1 rfl) ?_
    refine lv_imul C.1.1 C.1.2.1 dX10_edition_48 ?_
    refine lv_iload_n C.1.1 C.1.2.1 dX10_edition_49 rfl (lv_at hl 2 rfl) ?_
    refine lv_iadd C.1.1 C.1.2.1 dX10_edition_50 ?_
    refine lv_aload_n C.1.1 C.1.2.1 dX10_edition_51 rfl (lv_at hl 0 rfl) ?_
    refine yg_X10_4 C Z tw_796 dX10_edition_52 ?_
    refine lv_iload_n C.1.1 C.1.2.1 dX10_edition_55 rfl (lv_at hl 2 rfl) ?_
    refine yy_iald C Z (by decide) rfl dX10_edition_56 h (fun v3 h => ?_)
    refine yy_iast C Z (by decide) rfl dX10_edition_57 h (fun H locs τ Z h => ?_)
    refine lv_iinc (v := x2 + 1) (lv' := [(2, .int (x2 + 1)), (0, .ref (κ 4 + 112)), (1, .int x1)]) C.1.1 C.1.2.1 dX10_edition_58 hl (k := 2) rfl (by rfl) (by decide) rfl (fun ls hl => ?_)
    refine lv_goto (tgt := 35) C.1.1 C.1.2.1 dX10_edition_61 (by decide) ?_
    exact kI _ _ _ _ _ (yy_rt_of h) Z (lv_sub hl [1, 2, 0] rfl)
set_option maxHeartbeats 4000000 in
set_option maxRecDepth 100000 in
theorem ww_X10_edition_64 {x1 : Int32} {res : Int32 × yy_T} (C : yy_C D κ p m c cX10_edition 3 s args RX10) (hr : meth.sig.returnType = (some .int)) (hlk : meth.locks = false) (Z : yy_Z D κ ext A s.heap τ H locs) (hl : lv_has ls 3 [(0, .ref (κ 4 + 112)), (1, .int x1)]) (h : mm_X10_edition_64 x1 τ = some res) : W p l e rm_X10_edition s m args below meth c H locs 0 0 (MQ below (yy_Qi D κ ext A res) args s 0 0 A) (F0 m 64 ls []) := by
  unfold mm_X10_edition_64 at h
  refine lv_aload_n C.1.1 C.1.2.1 dX10_edition_64 rfl (lv_at hl 0 rfl) ?_
  refine lv_iconst (v := 0) C.1.1 C.1.2.1 dX10_edition_65 (by decide) ?_
  refine yp_X10_6 C Z tw_798 dX10_edition_66 h (fun H locs τ Z h => ?_)
  refine lv_aload_n C.1.1 C.1.2.1 dX10_edition_69 rfl (lv_at hl 0 rfl) ?_
  refine lv_iload_n C.1.1 C.1.2.1 dX10_edition_70 rfl (lv_at hl 1 rfl) ?_
  refine yy_cVi0 (As := [.int x1]) (rest := []) (id := 112) (ci := 10) (q := (RX10, TX10, 20)) C Z (ss_X10_many l D κ ext x1) (by decide) (yy_ent_112 _) rfl tw_882 kw_X10_many ⟨⟨rfl, rfl⟩, ⟨Nat.le_of_ble_eq_true rfl, Nat.le_of_ble_eq_true rfl⟩, Nat.le_of_ble_eq_true rfl, Nat.le_of_ble_eq_true rfl⟩ hl.1 rfl (Nat.le_of_ble_eq_true rfl) dX10_edition_71 h (fun r4 τ H locs Z h => ?_)
  exact yy_iret C Z hr hlk rfl dX10_edition_74 h
set_option maxHeartbeats 4000000 in
set_option maxRecDepth 100000 in
theorem ww_X10_edition_35 {x1 : Int32} {x2 : Int32} {res : Int32 × yy_T} (C : yy_C D κ p m c cX10_edition 3 s args RX10) (hr : meth.sig.returnType = (some .int)) (hlk : meth.locks = false) (Z : yy_Z D κ ext A s.heap τ H locs) (hl : lv_has ls 3 [(0, .ref (κ 4 + 112)), (1, .int x1), (2, .int x2)]) (h : mm_X10_edition_35 x1 x2 τ = some res) : W p l e rm_X10_edition s m args below meth c H locs 0 0 (MQ below (yy_Qi D κ ext A res) args s 0 0 A) (F0 m 35 ls []) := by
  unfold mm_X10_edition_35 at h
  refine yy_loop h (fun (w : Int32) (τ : yy_T) => ∀ (H : Heap) (locs : List Loc) (ls : Array Slot), yy_Z D κ ext A s.heap τ H locs → lv_has ls 3 [(0, .ref (κ 4 + 112)), (1, .int x1), (2, .int w)] → W p l e rm_X10_edition s m args below meth c H locs 0 0 (MQ below (yy_Qi D κ ext A res) args s 0 0 A) (F0 m 35 ls [])) ?_ H locs ls Z hl
  intro w τ y hy hI hX H locs ls Z hl
  refine ww_X10_edition_35b  C Z hl hy (fun w τ H locs ls ey Z hl => hI w τ ey H locs ls Z hl) (fun w τ H locs ls ey Z hl => ?_)
  · have h := hX _ _ ey
    exact ww_X10_edition_64  C hr hlk Z (lv_sub hl [0, 1] rfl) h
set_option maxHeartbeats 4000000 in
set_option maxRecDepth 100000 in
theorem ww_X10_edition_E {x1 : Int32} {res : Int32 × yy_T} (C : yy_C D κ p m c cX10_edition 3 s args RX10) (hr : meth.sig.returnType = (some .int)) (hlk : meth.locks = false) (Z : yy_Z D κ ext A s.heap τ H locs) (hl : lv_has ls 3 [(0, .ref (κ 4 + 112)), (1, .int x1)]) (h : mm_X10_edition x1 τ = some res) : W p l e rm_X10_edition s m args below meth c H locs 0 0 (MQ below (yy_Qi D κ ext A res) args s 0 0 A) (F0 m 0 ls []) := by
  unfold mm_X10_edition at h
  refine lv_aload_n C.1.1 C.1.2.1 dX10_edition_0 rfl (lv_at hl 0 rfl) ?_
  refine lv_iconst (v := 0) C.1.1 C.1.2.1 dX10_edition_1 (by decide) ?_
  refine yp_X10_0 C Z tw_792 dX10_edition_2 h (fun H locs τ Z h => ?_)
  refine lv_iload_n C.1.1 C.1.2.1 dX10_edition_5 rfl (lv_at hl 1 rfl) ?_
  refine yy_cSi0 (As := [.int x1]) (rest := [])  C Z (ss_X10_isEdition l D κ ext x1) tw_857 kw_X10_isEdition ⟨⟨rfl, rfl⟩, ⟨Nat.le_of_ble_eq_true rfl, Nat.le_of_ble_eq_true rfl⟩, Nat.le_of_ble_eq_true rfl, Nat.le_of_ble_eq_true rfl⟩ hl.1 rfl (Nat.le_of_ble_eq_true rfl) dX10_edition_6 h (fun r1 τ H locs Z h => ?_)
  refine yy_if_ne (tgt := 14) C dX10_edition_9 (by decide) h (fun h => ?_) (fun h => ?_)
  · refine lv_aload_n C.1.1 C.1.2.1 dX10_edition_14 rfl (lv_at hl 0 rfl) ?_
    refine lv_sipush (v := 600) C.1.1 C.1.2.1 dX10_edition_15 (by decide) ?_
    refine lv_iconst (v := 0) C.1.1 C.1.2.1 dX10_edition_18 (by decide) ?_
    refine yy_cVi0 (As := [.int 600, .int 0]) (rest := []) (id := 112) (ci := 10) (q := (RX10, TX10, 20)) C Z (ss_X10_reads l D κ ext 600 0) (by decide) (yy_ent_112 _) rfl tw_863 kw_X10_reads ⟨⟨rfl, rfl⟩, ⟨Nat.le_of_ble_eq_true rfl, Nat.le_of_ble_eq_true rfl⟩, Nat.le_of_ble_eq_true rfl, Nat.le_of_ble_eq_true rfl⟩ hl.1 rfl (Nat.le_of_ble_eq_true rfl) dX10_edition_19 h (fun r2 τ H locs Z h => ?_)
    refine yy_if_ne (tgt := 33) C dX10_edition_22 (by decide) h (fun h => ?_) (fun h => ?_)
    · refine lv_iconst (v := 0) C.1.1 C.1.2.1 dX10_edition_33 (by decide) ?_
      refine lv_istore_n (lv' := [(2, .int 0), (0, .ref (κ 4 + 112)), (1, .int x1)]) C.1.1 C.1.2.1 dX10_edition_34 rfl hl (by decide) rfl (fun ls hl => ?_)
      exact ww_X10_edition_35  C hr hlk Z (lv_sub hl [1, 2, 0] rfl) h
    · refine lv_bipush (v := (-2)) C.1.1 C.1.2.1 dX10_edition_25 (by decide) ?_
      refine lv_aload_n C.1.1 C.1.2.1 dX10_edition_27 rfl (lv_at hl 0 rfl) ?_
      refine yg_X10_8 C Z tw_800 dX10_edition_28 h (fun v5 h => ?_)
      refine lv_isub C.1.1 C.1.2.1 dX10_edition_31 ?_
      exact yy_iret C Z hr hlk rfl dX10_edition_32 h
  · refine lv_iconst (v := (-1)) C.1.1 C.1.2.1 dX10_edition_12 (by decide) ?_
    exact yy_iret C Z hr hlk rfl dX10_edition_13 h
set_option maxHeartbeats 4000000 in
set_option maxRecDepth 100000 in
theorem ss_X10_edition (l : Launch) (D : va_G) (κ : Nat → Nat) (ext : va_W) (x1 : Int32) : yy_Mi l D κ ext yX10_edition cX10_edition 3 (some .int) rm_X10_edition 0 0 [.ref (κ 4 + 112), .int x1] (mm_X10_edition x1) := by
  intro sz τ res h
  refine yy_ofW (by decide) (Nat.le_of_ble_eq_true rfl) ?_
  intro p e s m args below meth c ls hsz E
  obtain ⟨C, hr, hlk, Z, hl⟩ := E
  subst hsz
  exact ww_X10_edition_E  C hr hlk Z hl h
/-! MovedLinesModel.fault()I -/
noncomputable def mm_X10_fault : yy_M Int32 :=
  yy_wF 112 0 0 (yy_rF 112 7 fun v1 => yy_rt v1)
theorem kw_X10_fault : yy_wV RX10 yX10_fault cX10_fault 1 (some .int) 0 := ⟨⟨tw_887, tw_888, tw_61, tw_889⟩, by decide +kernel⟩
abbrev rm_X10_fault : Room := { frames := 0, cells := 0, slots := 0, locals := 0 }
set_option maxHeartbeats 4000000 in
set_option maxRecDepth 100000 in
theorem ww_X10_fault_E {res : Int32 × yy_T} (C : yy_C D κ p m c cX10_fault 1 s args RX10) (hr : meth.sig.returnType = (some .int)) (hlk : meth.locks = false) (Z : yy_Z D κ ext A s.heap τ H locs) (hl : lv_has ls 1 [(0, .ref (κ 4 + 112))]) (h : mm_X10_fault  τ = some res) : W p l e rm_X10_fault s m args below meth c H locs 0 0 (MQ below (yy_Qi D κ ext A res) args s 0 0 A) (F0 m 0 ls []) := by
  unfold mm_X10_fault at h
  refine lv_aload_n C.1.1 C.1.2.1 dX10_fault_0 rfl (lv_at hl 0 rfl) ?_
  refine lv_iconst (v := 0) C.1.1 C.1.2.1 dX10_fault_1 (by decide) ?_
  refine yp_X10_0 C Z tw_792 dX10_fault_2 h (fun H locs τ Z h => ?_)
  refine lv_aload_n C.1.1 C.1.2.1 dX10_fault_5 rfl (lv_at hl 0 rfl) ?_
  refine yg_X10_7 C Z tw_799 dX10_fault_6 h (fun v1 h => ?_)
  exact yy_iret C Z hr hlk rfl dX10_fault_9 h
set_option maxHeartbeats 4000000 in
set_option maxRecDepth 100000 in
theorem ss_X10_fault (l : Launch) (D : va_G) (κ : Nat → Nat) (ext : va_W) : yy_Mi l D κ ext yX10_fault cX10_fault 1 (some .int) rm_X10_fault 0 0 [.ref (κ 4 + 112)] (mm_X10_fault ) := by
  intro sz τ res h
  refine yy_ofW (by decide) (Nat.le_of_ble_eq_true rfl) ?_
  intro p e s m args below meth c ls hsz E
  obtain ⟨C, hr, hlk, Z, hl⟩ := E
  subst hsz
  exact ww_X10_fault_E  C hr hlk Z hl h
/-! MovedLinesModel.wordsOf(II)I -/
noncomputable def mm_X10_wordsOf (x1 : Int32) (x2 : Int32) : yy_M Int32 :=
  yy_cl (mm_X10_lineAt x1 x2) (fun r1 => yy_rA 114 254 r1 fun v2 => yy_rt v2)
theorem kw_X10_wordsOf : yy_wV RX10 yX10_wordsOf cX10_wordsOf 3 (some .int) 2 := ⟨⟨tw_912, tw_32, tw_61, tw_913⟩, by decide +kernel⟩
abbrev rm_X10_wordsOf : Room := { frames := 1, cells := 0, slots := 0, locals := 21 }
set_option maxHeartbeats 4000000 in
set_option maxRecDepth 100000 in
theorem ww_X10_wordsOf_E {x1 : Int32} {x2 : Int32} {res : Int32 × yy_T} (C : yy_C D κ p m c cX10_wordsOf 3 s args RX10) (hr : meth.sig.returnType = (some .int)) (hlk : meth.locks = false) (Z : yy_Z D κ ext A s.heap τ H locs) (hl : lv_has ls 3 [(0, .ref (κ 4 + 112)), (1, .int x1), (2, .int x2)]) (h : mm_X10_wordsOf x1 x2 τ = some res) : W p l e rm_X10_wordsOf s m args below meth c H locs 0 0 (MQ below (yy_Qi D κ ext A res) args s 0 0 A) (F0 m 0 ls []) := by
  unfold mm_X10_wordsOf at h
  refine lv_aload_n C.1.1 C.1.2.1 dX10_wordsOf_0 rfl (lv_at hl 0 rfl) ?_
  refine yg_X10_3 C Z tw_795 dX10_wordsOf_1 ?_
  refine lv_iload_n C.1.1 C.1.2.1 dX10_wordsOf_4 rfl (lv_at hl 1 rfl) ?_
  refine lv_iload_n C.1.1 C.1.2.1 dX10_wordsOf_5 rfl (lv_at hl 2 rfl) ?_
  refine yy_cSi0 (As := [.int x1, .int x2]) (rest := [.ref (κ 4 + 114)])  C Z (ss_X10_lineAt l D κ ext x1 x2) tw_914 kw_X10_lineAt ⟨⟨rfl, rfl⟩, ⟨Nat.le_of_ble_eq_true rfl, Nat.le_of_ble_eq_true rfl⟩, Nat.le_of_ble_eq_true rfl, Nat.le_of_ble_eq_true rfl⟩ hl.1 rfl (Nat.le_of_ble_eq_true rfl) dX10_wordsOf_6 h (fun r1 τ H locs Z h => ?_)
  refine yy_iald C Z (by decide) rfl dX10_wordsOf_9 h (fun v2 h => ?_)
  exact yy_iret C Z hr hlk rfl dX10_wordsOf_10 h
set_option maxHeartbeats 4000000 in
set_option maxRecDepth 100000 in
theorem ss_X10_wordsOf (l : Launch) (D : va_G) (κ : Nat → Nat) (ext : va_W) (x1 : Int32) (x2 : Int32) : yy_Mi l D κ ext yX10_wordsOf cX10_wordsOf 3 (some .int) rm_X10_wordsOf 0 0 [.ref (κ 4 + 112), .int x1, .int x2] (mm_X10_wordsOf x1 x2) := by
  intro sz τ res h
  refine yy_ofW (by decide) (Nat.le_of_ble_eq_true rfl) ?_
  intro p e s m args below meth c ls hsz E
  obtain ⟨C, hr, hlk, Z, hl⟩ := E
  subst hsz
  exact ww_X10_wordsOf_E  C hr hlk Z hl h
/-! MovedLinesModel.word(III)I -/
noncomputable def mm_X10_word (x1 : Int32) (x2 : Int32) (x3 : Int32) : yy_M Int32 :=
  yy_cl (mm_X10_lineAt x1 x2) (fun r1 => yy_rA 114 254 ((r1 + 1) + x3) fun v2 => yy_rt v2)
theorem kw_X10_word : yy_wV RX10 yX10_word cX10_word 4 (some .int) 3 := ⟨⟨tw_919, tw_33, tw_61, tw_920⟩, by decide +kernel⟩
abbrev rm_X10_word : Room := { frames := 1, cells := 0, slots := 0, locals := 21 }
set_option maxHeartbeats 4000000 in
set_option maxRecDepth 100000 in
theorem ww_X10_word_E {x1 : Int32} {x2 : Int32} {x3 : Int32} {res : Int32 × yy_T} (C : yy_C D κ p m c cX10_word 4 s args RX10) (hr : meth.sig.returnType = (some .int)) (hlk : meth.locks = false) (Z : yy_Z D κ ext A s.heap τ H locs) (hl : lv_has ls 4 [(0, .ref (κ 4 + 112)), (1, .int x1), (2, .int x2), (3, .int x3)]) (h : mm_X10_word x1 x2 x3 τ = some res) : W p l e rm_X10_word s m args below meth c H locs 0 0 (MQ below (yy_Qi D κ ext A res) args s 0 0 A) (F0 m 0 ls []) := by
  unfold mm_X10_word at h
  refine lv_aload_n C.1.1 C.1.2.1 dX10_word_0 rfl (lv_at hl 0 rfl) ?_
  refine yg_X10_3 C Z tw_795 dX10_word_1 ?_
  refine lv_iload_n C.1.1 C.1.2.1 dX10_word_4 rfl (lv_at hl 1 rfl) ?_
  refine lv_iload_n C.1.1 C.1.2.1 dX10_word_5 rfl (lv_at hl 2 rfl) ?_
  refine yy_cSi0 (As := [.int x1, .int x2]) (rest := [.ref (κ 4 + 114)])  C Z (ss_X10_lineAt l D κ ext x1 x2) tw_914 kw_X10_lineAt ⟨⟨rfl, rfl⟩, ⟨Nat.le_of_ble_eq_true rfl, Nat.le_of_ble_eq_true rfl⟩, Nat.le_of_ble_eq_true rfl, Nat.le_of_ble_eq_true rfl⟩ hl.1 rfl (Nat.le_of_ble_eq_true rfl) dX10_word_6 h (fun r1 τ H locs Z h => ?_)
  refine lv_iconst (v := 1) C.1.1 C.1.2.1 dX10_word_9 (by decide) ?_
  refine lv_iadd C.1.1 C.1.2.1 dX10_word_10 ?_
  refine lv_iload_n C.1.1 C.1.2.1 dX10_word_11 rfl (lv_at hl 3 rfl) ?_
  refine lv_iadd C.1.1 C.1.2.1 dX10_word_12 ?_
  refine yy_iald C Z (by decide) rfl dX10_word_13 h (fun v2 h => ?_)
  exact yy_iret C Z hr hlk rfl dX10_word_14 h
set_option maxHeartbeats 4000000 in
set_option maxRecDepth 100000 in
theorem ss_X10_word (l : Launch) (D : va_G) (κ : Nat → Nat) (ext : va_W) (x1 : Int32) (x2 : Int32) (x3 : Int32) : yy_Mi l D κ ext yX10_word cX10_word 4 (some .int) rm_X10_word 0 0 [.ref (κ 4 + 112), .int x1, .int x2, .int x3] (mm_X10_word x1 x2 x3) := by
  intro sz τ res h
  refine yy_ofW (by decide) (Nat.le_of_ble_eq_true rfl) ?_
  intro p e s m args below meth c ls hsz E
  obtain ⟨C, hr, hlk, Z, hl⟩ := E
  subst hsz
  exact ww_X10_word_E  C hr hlk Z hl h
/-! MovedLinesModel.areAlike(IIII)Z -/
noncomputable def mm_X10_areAlike_74 (x1 : Int32) (x2 : Int32) (x3 : Int32) (x4 : Int32) (x6 : Int32) (s0 : Int32) : yy_M ((Int32 × Int32) ⊕ ((Int32))) :=
  yy_rt (.inl (s0, (x6 + 1)))
noncomputable def mm_X10_areAlike_69 (x1 : Int32) (x2 : Int32) (x3 : Int32) (x4 : Int32) (x6 : Int32) : yy_M ((Int32 × Int32) ⊕ ((Int32))) :=
  mm_X10_areAlike_74 x1 x2 x3 x4 x6 1
noncomputable def mm_X10_areAlike_26b (x1 : Int32) (x2 : Int32) (x3 : Int32) (x4 : Int32) (x5 : Int32) (x6 : Int32) : yy_M ((Int32 × Int32) ⊕ ((Int32))) :=
  yy_br (8 ≤ x6) (yy_rt (.inr x5)) (yy_br (x5 = 0) (yy_rt (.inr x5)) (yy_cl (mm_X10_wordsOf x1 x2) (fun r3 => yy_br (r3 ≤ x6) (mm_X10_areAlike_69 x1 x2 x3 x4 x6) (yy_cl (mm_X10_word x1 x2 x6) (fun r4 => yy_cl (mm_X10_word x3 x4 x6) (fun r5 => yy_br (r4 = r5) (mm_X10_areAlike_69 x1 x2 x3 x4 x6) (mm_X10_areAlike_74 x1 x2 x3 x4 x6 0)))))))
noncomputable def mm_X10_areAlike_82 (x5 : Int32) : yy_M Int32 :=
  yy_ck (x5 = 0 ∨ x5 = 1) (yy_rt x5)
noncomputable def mm_X10_areAlike_26 (x1 : Int32) (x2 : Int32) (x3 : Int32) (x4 : Int32) (x5 : Int32) (x6 : Int32) : yy_M Int32 :=
  yy_cl (yy_lp (fun (w : Int32 × Int32) => mm_X10_areAlike_26b x1 x2 x3 x4 w.1 w.2) (x5, x6)) (fun w => mm_X10_areAlike_82 w)
noncomputable def mm_X10_areAlike_21 (x1 : Int32) (x2 : Int32) (x3 : Int32) (x4 : Int32) (s0 : Int32) : yy_M Int32 :=
  mm_X10_areAlike_26 x1 x2 x3 x4 s0 0
noncomputable def mm_X10_areAlike (x1 : Int32) (x2 : Int32) (x3 : Int32) (x4 : Int32) : yy_M Int32 :=
  yy_cl (mm_X10_wordsOf x1 x2) (fun r1 => yy_cl (mm_X10_wordsOf x3 x4) (fun r2 => yy_br (r1 = r2) (mm_X10_areAlike_21 x1 x2 x3 x4 1) (mm_X10_areAlike_21 x1 x2 x3 x4 0)))
theorem kw_X10_areAlike : yy_wV RX10 yX10_areAlike cX10_areAlike 7 (some .boolean) 4 := ⟨⟨tw_908, tw_31, tw_61, tw_909⟩, by decide +kernel⟩
abbrev rm_X10_areAlike : Room := { frames := 2, cells := 0, slots := 0, locals := 44 }
set_option maxHeartbeats 4000000 in
set_option maxRecDepth 100000 in
theorem ww_X10_areAlike_74 {x1 : Int32} {x2 : Int32} {x3 : Int32} {x4 : Int32} {x6 : Int32} {s0 : Int32} {res : ((Int32 × Int32) ⊕ ((Int32))) × yy_T} {Q : State → Prop} (C : yy_C D κ p m c cX10_areAlike 7 s args RX10) (Z : yy_Z D κ ext A s.heap τ H locs) (hl : lv_has ls 7 [(0, .ref (κ 4 + 112)), (1, .int x1), (2, .int x2), (3, .int x3), (4, .int x4), (6, .int x6)]) (h : mm_X10_areAlike_74 x1 x2 x3 x4 x6 s0 τ = some res)
    (kI : ∀ (w : Int32 × Int32) (τ1 : yy_T) (H1 : Heap) (locs1 : List Loc) (ls1 : Array Slot), res = (.inl w, τ1) → yy_Z D κ ext A s.heap τ1 H1 locs1 → lv_has ls1 7 [(0, .ref (κ 4 + 112)), (1, .int x1), (2, .int x2), (3, .int x3), (4, .int x4), (5, .int w.1), (6, .int w.2)] → W p l e rm_X10_areAlike s m args below meth c H1 locs1 0 0 Q (F0 m 26 ls1 [])) : W p l e rm_X10_areAlike s m args below meth c H locs 0 0 Q (F0 m 74 ls [.int s0]) := by
  unfold mm_X10_areAlike_74 at h
  refine lv_istore (lv' := [(5, .int s0), (0, .ref (κ 4 + 112)), (1, .int x1), (2, .int x2), (3, .int x3), (4, .int x4), (6, .int x6)]) C.1.1 C.1.2.1 dX10_areAlike_74 hl (by decide) rfl (fun ls hl => ?_)
  refine lv_iinc (v := x6 + 1) (lv' := [(6, .int (x6 + 1)), (5, .int s0), (0, .ref (κ 4 + 112)), (1, .int x1), (2, .int x2), (3, .int x3), (4, .int x4)]) C.1.1 C.1.2.1 dX10_areAlike_76 hl (k := 6) rfl (by rfl) (by decide) rfl (fun ls hl => ?_)
  refine lv_goto (tgt := 26) C.1.1 C.1.2.1 dX10_areAlike_79 (by decide) ?_
  exact kI _ _ _ _ _ (yy_rt_of h) Z (lv_sub hl [2, 3, 4, 5, 6, 1, 0] rfl)
set_option maxHeartbeats 4000000 in
set_option maxRecDepth 100000 in
theorem ww_X10_areAlike_69 {x1 : Int32} {x2 : Int32} {x3 : Int32} {x4 : Int32} {x6 : Int32} {res : ((Int32 × Int32) ⊕ ((Int32))) × yy_T} {Q : State → Prop} (C : yy_C D κ p m c cX10_areAlike 7 s args RX10) (Z : yy_Z D κ ext A s.heap τ H locs) (hl : lv_has ls 7 [(0, .ref (κ 4 + 112)), (1, .int x1), (2, .int x2), (3, .int x3), (4, .int x4), (6, .int x6)]) (h : mm_X10_areAlike_69 x1 x2 x3 x4 x6 τ = some res)
    (kI : ∀ (w : Int32 × Int32) (τ1 : yy_T) (H1 : Heap) (locs1 : List Loc) (ls1 : Array Slot), res = (.inl w, τ1) → yy_Z D κ ext A s.heap τ1 H1 locs1 → lv_has ls1 7 [(0, .ref (κ 4 + 112)), (1, .int x1), (2, .int x2), (3, .int x3), (4, .int x4), (5, .int w.1), (6, .int w.2)] → W p l e rm_X10_areAlike s m args below meth c H1 locs1 0 0 Q (F0 m 26 ls1 [])) : W p l e rm_X10_areAlike s m args below meth c H locs 0 0 Q (F0 m 69 ls []) := by
  unfold mm_X10_areAlike_69 at h
  refine lv_iconst (v := 1) C.1.1 C.1.2.1 dX10_areAlike_69 (by decide) ?_
  refine lv_goto (tgt := 74) C.1.1 C.1.2.1 dX10_areAlike_70 (by decide) ?_
  exact ww_X10_areAlike_74  C Z (lv_sub hl [0, 1, 2, 3, 4, 5] rfl) h kI
set_option maxHeartbeats 4000000 in
set_option maxRecDepth 100000 in
theorem ww_X10_areAlike_26b {x1 : Int32} {x2 : Int32} {x3 : Int32} {x4 : Int32} {x5 : Int32} {x6 : Int32} {res : ((Int32 × Int32) ⊕ ((Int32))) × yy_T} {Q : State → Prop} (C : yy_C D κ p m c cX10_areAlike 7 s args RX10) (Z : yy_Z D κ ext A s.heap τ H locs) (hl : lv_has ls 7 [(0, .ref (κ 4 + 112)), (1, .int x1), (2, .int x2), (3, .int x3), (4, .int x4), (5, .int x5), (6, .int x6)]) (h : mm_X10_areAlike_26b x1 x2 x3 x4 x5 x6 τ = some res)
    (kI : ∀ (w : Int32 × Int32) (τ1 : yy_T) (H1 : Heap) (locs1 : List Loc) (ls1 : Array Slot), res = (.inl w, τ1) → yy_Z D κ ext A s.heap τ1 H1 locs1 → lv_has ls1 7 [(0, .ref (κ 4 + 112)), (1, .int x1), (2, .int x2), (3, .int x3), (4, .int x4), (5, .int w.1), (6, .int w.2)] → W p l e rm_X10_areAlike s m args below meth c H1 locs1 0 0 Q (F0 m 26 ls1 []))
    (kR0 : ∀ (w : Int32) (τ1 : yy_T) (H1 : Heap) (locs1 : List Loc) (ls1 : Array Slot), res = (.inr w, τ1) → yy_Z D κ ext A s.heap τ1 H1 locs1 → lv_has ls1 7 [(5, .int w)] → W p l e rm_X10_areAlike s m args below meth c H1 locs1 0 0 Q (F0 m 82 ls1 [])) : W p l e rm_X10_areAlike s m args below meth c H locs 0 0 Q (F0 m 26 ls []) := by
  unfold mm_X10_areAlike_26b at h
  refine lv_iload C.1.1 C.1.2.1 dX10_areAlike_26 (lv_at hl 6 rfl) ?_
  refine lv_bipush (v := 8) C.1.1 C.1.2.1 dX10_areAlike_28 (by decide) ?_
  refine yy_icmp_ge (tgt := 82) C dX10_areAlike_30 (by decide) h (fun h => ?_) (fun h => ?_)
  · exact kR0 _ _ _ _ _ (yy_rt_of h) Z (lv_sub hl [5] rfl)
  · refine lv_iload C.1.1 C.1.2.1 dX10_areAlike_33 (lv_at hl 5 rfl) ?_
    refine yy_if_eq (tgt := 82) C dX10_areAlike_35 (by decide) h (fun h => ?_) (fun h => ?_)
    · exact kR0 _ _ _ _ _ (yy_rt_of h) Z (lv_sub hl [5] rfl)
    · refine lv_iload C.1.1 C.1.2.1 dX10_areAlike_38 (lv_at hl 6 rfl) ?_
      refine lv_aload_n C.1.1 C.1.2.1 dX10_areAlike_40 rfl (lv_at hl 0 rfl) ?_
      refine lv_iload_n C.1.1 C.1.2.1 dX10_areAlike_41 rfl (lv_at hl 1 rfl) ?_
      refine lv_iload_n C.1.1 C.1.2.1 dX10_areAlike_42 rfl (lv_at hl 2 rfl) ?_
      refine yy_cVi0 (As := [.int x1, .int x2]) (rest := [.int x6]) (id := 112) (ci := 10) (q := (RX10, TX10, 20)) C Z (ss_X10_wordsOf l D κ ext x1 x2) (by decide) (yy_ent_112 _) rfl tw_910 kw_X10_wordsOf ⟨⟨rfl, rfl⟩, ⟨Nat.le_of_ble_eq_true rfl, Nat.le_of_ble_eq_true rfl⟩, Nat.le_of_ble_eq_true rfl, Nat.le_of_ble_eq_true rfl⟩ hl.1 rfl (Nat.le_of_ble_eq_true rfl) dX10_areAlike_43 h (fun r3 τ H locs Z h => ?_)
      refine yy_icmp_ge (tgt := 69) C dX10_areAlike_46 (by decide) h (fun h => ?_) (fun h => ?_)
      · exact ww_X10_areAlike_69  C Z (lv_sub hl [0, 1, 2, 3, 4, 6] rfl) h kI
      · refine lv_aload_n C.1.1 C.1.2.1 dX10_areAlike_49 rfl (lv_at hl 0 rfl) ?_
        refine lv_iload_n C.1.1 C.1.2.1 dX10_areAlike_50 rfl (lv_at hl 1 rfl) ?_
        refine lv_iload_n C.1.1 C.1.2.1 dX10_areAlike_51 rfl (lv_at hl 2 rfl) ?_
        refine lv_iload C.1.1 C.1.2.1 dX10_areAlike_52 (lv_at hl 6 rfl) ?_
        refine yy_cVi0 (As := [.int x1, .int x2, .int x6]) (rest := []) (id := 112) (ci := 10) (q := (RX10, TX10, 20)) C Z (ss_X10_word l D κ ext x1 x2 x6) (by decide) (yy_ent_112 _) rfl tw_917 kw_X10_word ⟨⟨rfl, rfl⟩, ⟨Nat.le_of_ble_eq_true rfl, Nat.le_of_ble_eq_true rfl⟩, Nat.le_of_ble_eq_true rfl, Nat.le_of_ble_eq_true rfl⟩ hl.1 rfl (Nat.le_of_ble_eq_true rfl) dX10_areAlike_54 h (fun r4 τ H locs Z h => ?_)
        refine lv_aload_n C.1.1 C.1.2.1 dX10_areAlike_57 rfl (lv_at hl 0 rfl) ?_
        refine lv_iload_n C.1.1 C.1.2.1 dX10_areAlike_58 rfl (lv_at hl 3 rfl) ?_
        refine lv_iload C.1.1 C.1.2.1 dX10_areAlike_59 (lv_at hl 4 rfl) ?_
        refine lv_iload C.1.1 C.1.2.1 dX10_areAlike_61 (lv_at hl 6 rfl) ?_
        refine yy_cVi0 (As := [.int x3, .int x4, .int x6]) (rest := [.int r4]) (id := 112) (ci := 10) (q := (RX10, TX10, 20)) C Z (ss_X10_word l D κ ext x3 x4 x6) (by decide) (yy_ent_112 _) rfl tw_917 kw_X10_word ⟨⟨rfl, rfl⟩, ⟨Nat.le_of_ble_eq_true rfl, Nat.le_of_ble_eq_true rfl⟩, Nat.le_of_ble_eq_true rfl, Nat.le_of_ble_eq_true rfl⟩ hl.1 rfl (Nat.le_of_ble_eq_true rfl) dX10_areAlike_63 h (fun r5 τ H locs Z h => ?_)
        refine yy_icmp_ne (tgt := 73) C dX10_areAlike_66 (by decide) h (fun h => ?_) (fun h => ?_)
        · refine lv_iconst (v := 0) C.1.1 C.1.2.1 dX10_areAlike_73 (by decide) ?_
          exact ww_X10_areAlike_74  C Z (lv_sub hl [0, 1, 2, 3, 4, 6] rfl) h kI
        · exact ww_X10_areAlike_69  C Z (lv_sub hl [0, 1, 2, 3, 4, 6] rfl) h kI
set_option maxHeartbeats 4000000 in
set_option maxRecDepth 100000 in
theorem ww_X10_areAlike_82 {x5 : Int32} {res : Int32 × yy_T} (C : yy_C D κ p m c cX10_areAlike 7 s args RX10) (hr : meth.sig.returnType = (some .boolean)) (hlk : meth.locks = false) (Z : yy_Z D κ ext A s.heap τ H locs) (hl : lv_has ls 7 [(5, .int x5)]) (h : mm_X10_areAlike_82 x5 τ = some res) : W p l e rm_X10_areAlike s m args below meth c H locs 0 0 (MQ below (yy_Qi D κ ext A res) args s 0 0 A) (F0 m 82 ls []) := by
  unfold mm_X10_areAlike_82 at h
  refine lv_iload C.1.1 C.1.2.1 dX10_areAlike_82 (lv_at hl 0 rfl) ?_
  exact yy_zret C Z hr hlk dX10_areAlike_84 h
set_option maxHeartbeats 4000000 in
set_option maxRecDepth 100000 in
theorem ww_X10_areAlike_26 {x1 : Int32} {x2 : Int32} {x3 : Int32} {x4 : Int32} {x5 : Int32} {x6 : Int32} {res : Int32 × yy_T} (C : yy_C D κ p m c cX10_areAlike 7 s args RX10) (hr : meth.sig.returnType = (some .boolean)) (hlk : meth.locks = false) (Z : yy_Z D κ ext A s.heap τ H locs) (hl : lv_has ls 7 [(0, .ref (κ 4 + 112)), (1, .int x1), (2, .int x2), (3, .int x3), (4, .int x4), (5, .int x5), (6, .int x6)]) (h : mm_X10_areAlike_26 x1 x2 x3 x4 x5 x6 τ = some res) : W p l e rm_X10_areAlike s m args below meth c H locs 0 0 (MQ below (yy_Qi D κ ext A res) args s 0 0 A) (F0 m 26 ls []) := by
  unfold mm_X10_areAlike_26 at h
  refine yy_loop h (fun (w : Int32 × Int32) (τ : yy_T) => ∀ (H : Heap) (locs : List Loc) (ls : Array Slot), yy_Z D κ ext A s.heap τ H locs → lv_has ls 7 [(0, .ref (κ 4 + 112)), (1, .int x1), (2, .int x2), (3, .int x3), (4, .int x4), (5, .int w.1), (6, .int w.2)] → W p l e rm_X10_areAlike s m args below meth c H locs 0 0 (MQ below (yy_Qi D κ ext A res) args s 0 0 A) (F0 m 26 ls [])) ?_ H locs ls Z hl
  intro w τ y hy hI hX H locs ls Z hl
  refine ww_X10_areAlike_26b  C Z hl hy (fun w τ H locs ls ey Z hl => hI w τ ey H locs ls Z hl) (fun w τ H locs ls ey Z hl => ?_)
  · have h := hX _ _ ey
    exact ww_X10_areAlike_82  C hr hlk Z (lv_sub hl [0] rfl) h
set_option maxHeartbeats 4000000 in
set_option maxRecDepth 100000 in
theorem ww_X10_areAlike_21 {x1 : Int32} {x2 : Int32} {x3 : Int32} {x4 : Int32} {s0 : Int32} {res : Int32 × yy_T} (C : yy_C D κ p m c cX10_areAlike 7 s args RX10) (hr : meth.sig.returnType = (some .boolean)) (hlk : meth.locks = false) (Z : yy_Z D κ ext A s.heap τ H locs) (hl : lv_has ls 7 [(0, .ref (κ 4 + 112)), (1, .int x1), (2, .int x2), (3, .int x3), (4, .int x4)]) (h : mm_X10_areAlike_21 x1 x2 x3 x4 s0 τ = some res) : W p l e rm_X10_areAlike s m args below meth c H locs 0 0 (MQ below (yy_Qi D κ ext A res) args s 0 0 A) (F0 m 21 ls [.int s0]) := by
  unfold mm_X10_areAlike_21 at h
  refine lv_istore (lv' := [(5, .int s0), (0, .ref (κ 4 + 112)), (1, .int x1), (2, .int x2), (3, .int x3), (4, .int x4)]) C.1.1 C.1.2.1 dX10_areAlike_21 hl (by decide) rfl (fun ls hl => ?_)
  refine lv_iconst (v := 0) C.1.1 C.1.2.1 dX10_areAlike_23 (by decide) ?_
  refine lv_istore (lv' := [(6, .int 0), (5, .int s0), (0, .ref (κ 4 + 112)), (1, .int x1), (2, .int x2), (3, .int x3), (4, .int x4)]) C.1.1 C.1.2.1 dX10_areAlike_24 hl (by decide) rfl (fun ls hl => ?_)
  exact ww_X10_areAlike_26  C hr hlk Z (lv_sub hl [2, 3, 4, 5, 6, 1, 0] rfl) h
set_option maxHeartbeats 4000000 in
set_option maxRecDepth 100000 in
theorem ww_X10_areAlike_E {x1 : Int32} {x2 : Int32} {x3 : Int32} {x4 : Int32} {res : Int32 × yy_T} (C : yy_C D κ p m c cX10_areAlike 7 s args RX10) (hr : meth.sig.returnType = (some .boolean)) (hlk : meth.locks = false) (Z : yy_Z D κ ext A s.heap τ H locs) (hl : lv_has ls 7 [(0, .ref (κ 4 + 112)), (1, .int x1), (2, .int x2), (3, .int x3), (4, .int x4)]) (h : mm_X10_areAlike x1 x2 x3 x4 τ = some res) : W p l e rm_X10_areAlike s m args below meth c H locs 0 0 (MQ below (yy_Qi D κ ext A res) args s 0 0 A) (F0 m 0 ls []) := by
  unfold mm_X10_areAlike at h
  refine lv_aload_n C.1.1 C.1.2.1 dX10_areAlike_0 rfl (lv_at hl 0 rfl) ?_
  refine lv_iload_n C.1.1 C.1.2.1 dX10_areAlike_1 rfl (lv_at hl 1 rfl) ?_
  refine lv_iload_n C.1.1 C.1.2.1 dX10_areAlike_2 rfl (lv_at hl 2 rfl) ?_
  refine yy_cVi0 (As := [.int x1, .int x2]) (rest := []) (id := 112) (ci := 10) (q := (RX10, TX10, 20)) C Z (ss_X10_wordsOf l D κ ext x1 x2) (by decide) (yy_ent_112 _) rfl tw_910 kw_X10_wordsOf ⟨⟨rfl, rfl⟩, ⟨Nat.le_of_ble_eq_true rfl, Nat.le_of_ble_eq_true rfl⟩, Nat.le_of_ble_eq_true rfl, Nat.le_of_ble_eq_true rfl⟩ hl.1 rfl (Nat.le_of_ble_eq_true rfl) dX10_areAlike_3 h (fun r1 τ H locs Z h => ?_)
  refine lv_aload_n C.1.1 C.1.2.1 dX10_areAlike_6 rfl (lv_at hl 0 rfl) ?_
  refine lv_iload_n C.1.1 C.1.2.1 dX10_areAlike_7 rfl (lv_at hl 3 rfl) ?_
  refine lv_iload C.1.1 C.1.2.1 dX10_areAlike_8 (lv_at hl 4 rfl) ?_
  refine yy_cVi0 (As := [.int x3, .int x4]) (rest := [.int r1]) (id := 112) (ci := 10) (q := (RX10, TX10, 20)) C Z (ss_X10_wordsOf l D κ ext x3 x4) (by decide) (yy_ent_112 _) rfl tw_910 kw_X10_wordsOf ⟨⟨rfl, rfl⟩, ⟨Nat.le_of_ble_eq_true rfl, Nat.le_of_ble_eq_true rfl⟩, Nat.le_of_ble_eq_true rfl, Nat.le_of_ble_eq_true rfl⟩ hl.1 rfl (Nat.le_of_ble_eq_true rfl) dX10_areAlike_10 h (fun r2 τ H locs Z h => ?_)
  refine yy_icmp_ne (tgt := 20) C dX10_areAlike_13 (by decide) h (fun h => ?_) (fun h => ?_)
  · refine lv_iconst (v := 0) C.1.1 C.1.2.1 dX10_areAlike_20 (by decide) ?_
    exact ww_X10_areAlike_21  C hr hlk Z (lv_sub hl [0, 1, 2, 3, 4] rfl) h
  · refine lv_iconst (v := 1) C.1.1 C.1.2.1 dX10_areAlike_16 (by decide) ?_
    refine lv_goto (tgt := 21) C.1.1 C.1.2.1 dX10_areAlike_17 (by decide) ?_
    exact ww_X10_areAlike_21  C hr hlk Z (lv_sub hl [0, 1, 2, 3, 4] rfl) h
set_option maxHeartbeats 4000000 in
set_option maxRecDepth 100000 in
theorem ss_X10_areAlike (l : Launch) (D : va_G) (κ : Nat → Nat) (ext : va_W) (x1 : Int32) (x2 : Int32) (x3 : Int32) (x4 : Int32) : yy_Mi l D κ ext yX10_areAlike cX10_areAlike 7 (some .boolean) rm_X10_areAlike 0 0 [.ref (κ 4 + 112), .int x1, .int x2, .int x3, .int x4] (mm_X10_areAlike x1 x2 x3 x4) := by
  intro sz τ res h
  refine yy_ofW (by decide) (Nat.le_of_ble_eq_true rfl) ?_
  intro p e s m args below meth c ls hsz E
  obtain ⟨C, hr, hlk, Z, hl⟩ := E
  subst hsz
  exact ww_X10_areAlike_E  C hr hlk Z hl h
/-! MovedLinesModel.areAlike(II)Z -/
noncomputable def mm_X10_areAlike_ (x1 : Int32) (x2 : Int32) : yy_M Int32 :=
  yy_cl (mm_X10_areAlike 0 x1 1 x2) (fun r1 => yy_ck (r1 = 0 ∨ r1 = 1) (yy_rt r1))
theorem kw_X10_areAlike_ : yy_wV RX10 yX10_areAlike_ cX10_areAlike_ 3 (some .boolean) 2 := ⟨⟨tw_904, tw_30, tw_61, tw_905⟩, by decide +kernel⟩
abbrev rm_X10_areAlike_ : Room := { frames := 3, cells := 0, slots := 0, locals := 70 }
set_option maxHeartbeats 4000000 in
set_option maxRecDepth 100000 in
theorem ww_X10_areAlike__E {x1 : Int32} {x2 : Int32} {res : Int32 × yy_T} (C : yy_C D κ p m c cX10_areAlike_ 3 s args RX10) (hr : meth.sig.returnType = (some .boolean)) (hlk : meth.locks = false) (Z : yy_Z D κ ext A s.heap τ H locs) (hl : lv_has ls 3 [(0, .ref (κ 4 + 112)), (1, .int x1), (2, .int x2)]) (h : mm_X10_areAlike_ x1 x2 τ = some res) : W p l e rm_X10_areAlike_ s m args below meth c H locs 0 0 (MQ below (yy_Qi D κ ext A res) args s 0 0 A) (F0 m 0 ls []) := by
  unfold mm_X10_areAlike_ at h
  refine lv_aload_n C.1.1 C.1.2.1 dX10_areAlike__0 rfl (lv_at hl 0 rfl) ?_
  refine lv_iconst (v := 0) C.1.1 C.1.2.1 dX10_areAlike__1 (by decide) ?_
  refine lv_iload_n C.1.1 C.1.2.1 dX10_areAlike__2 rfl (lv_at hl 1 rfl) ?_
  refine lv_iconst (v := 1) C.1.1 C.1.2.1 dX10_areAlike__3 (by decide) ?_
  refine lv_iload_n C.1.1 C.1.2.1 dX10_areAlike__4 rfl (lv_at hl 2 rfl) ?_
  refine yy_cVi0 (As := [.int 0, .int x1, .int 1, .int x2]) (rest := []) (id := 112) (ci := 10) (q := (RX10, TX10, 20)) C Z (ss_X10_areAlike l D κ ext 0 x1 1 x2) (by decide) (yy_ent_112 _) rfl tw_906 kw_X10_areAlike ⟨⟨rfl, rfl⟩, ⟨Nat.le_of_ble_eq_true rfl, Nat.le_of_ble_eq_true rfl⟩, Nat.le_of_ble_eq_true rfl, Nat.le_of_ble_eq_true rfl⟩ hl.1 rfl (Nat.le_of_ble_eq_true rfl) dX10_areAlike__5 h (fun r1 τ H locs Z h => ?_)
  exact yy_zret C Z hr hlk dX10_areAlike__8 h
set_option maxHeartbeats 4000000 in
set_option maxRecDepth 100000 in
theorem ss_X10_areAlike_ (l : Launch) (D : va_G) (κ : Nat → Nat) (ext : va_W) (x1 : Int32) (x2 : Int32) : yy_Mi l D κ ext yX10_areAlike_ cX10_areAlike_ 3 (some .boolean) rm_X10_areAlike_ 0 0 [.ref (κ 4 + 112), .int x1, .int x2] (mm_X10_areAlike_ x1 x2) := by
  intro sz τ res h
  refine yy_ofW (by decide) (Nat.le_of_ble_eq_true rfl) ?_
  intro p e s m args below meth c ls hsz E
  obtain ⟨C, hr, hlk, Z, hl⟩ := E
  subst hsz
  exact ww_X10_areAlike__E  C hr hlk Z hl h
/-! MovedLinesModel.couples(III)V -/
noncomputable def mm_X10_couples (x1 : Int32) (x2 : Int32) (x3 : Int32) : yy_M Unit :=
  yy_wA 117 28 x1 x3 (yy_wA 117 28 (14 + x2) x3 (yy_wA 118 28 x1 x2 (yy_wA 118 28 (14 + x2) x1 (yy_rt ()))))
theorem kw_X10_couples : yy_wV RX10 yX10_couples cX10_couples 4 none 3 := ⟨⟨tw_923, tw_34, tw_61, tw_924⟩, by decide +kernel⟩
abbrev rm_X10_couples : Room := { frames := 0, cells := 0, slots := 0, locals := 0 }
set_option maxHeartbeats 4000000 in
set_option maxRecDepth 100000 in
theorem ww_X10_couples_E {x1 : Int32} {x2 : Int32} {x3 : Int32} {res : Unit × yy_T} (C : yy_C D κ p m c cX10_couples 4 s args RX10) (hr : meth.sig.returnType = none) (hlk : meth.locks = false) (Z : yy_Z D κ ext A s.heap τ H locs) (hl : lv_has ls 4 [(0, .ref (κ 4 + 112)), (1, .int x1), (2, .int x2), (3, .int x3)]) (h : mm_X10_couples x1 x2 x3 τ = some res) : W p l e rm_X10_couples s m args below meth c H locs 0 0 (MQ below (yy_Qv D κ ext A res) args s 0 0 A) (F0 m 0 ls []) := by
  unfold mm_X10_couples at h
  refine lv_aload_n C.1.1 C.1.2.1 dX10_couples_0 rfl (lv_at hl 0 rfl) ?_
  refine yg_X10_10 C Z tw_802 dX10_couples_1 ?_
  refine lv_iload_n C.1.1 C.1.2.1 dX10_couples_4 rfl (lv_at hl 1 rfl) ?_
  refine lv_iload_n C.1.1 C.1.2.1 dX10_couples_5 rfl (lv_at hl 3 rfl) ?_
  refine yy_iast C Z (by decide) rfl dX10_couples_6 h (fun H locs τ Z h => ?_)
  refine lv_aload_n C.1.1 C.1.2.1 dX10_couples_7 rfl (lv_at hl 0 rfl) ?_
  refine yg_X10_10 C Z tw_802 dX10_couples_8 ?_
  refine lv_bipush (v := 14) C.1.1 C.1.2.1 dX10_couples_11 (by decide) ?_
  refine lv_iload_n C.1.1 C.1.2.1 dX10_couples_13 rfl (lv_at hl 2 rfl) ?_
  refine lv_iadd C.1.1 C.1.2.1 dX10_couples_14 ?_
  refine lv_iload_n C.1.1 C.1.2.1 dX10_couples_15 rfl (lv_at hl 3 rfl) ?_
  refine yy_iast C Z (by decide) rfl dX10_couples_16 h (fun H locs τ Z h => ?_)
  refine lv_aload_n C.1.1 C.1.2.1 dX10_couples_17 rfl (lv_at hl 0 rfl) ?_
  refine yg_X10_11 C Z tw_803 dX10_couples_18 ?_
  refine lv_iload_n C.1.1 C.1.2.1 dX10_couples_21 rfl (lv_at hl 1 rfl) ?_
  refine lv_iload_n C.1.1 C.1.2.1 dX10_couples_22 rfl (lv_at hl 2 rfl) ?_
  refine yy_iast C Z (by decide) rfl dX10_couples_23 h (fun H locs τ Z h => ?_)
  refine lv_aload_n C.1.1 C.1.2.1 dX10_couples_24 rfl (lv_at hl 0 rfl) ?_
  refine yg_X10_11 C Z tw_803 dX10_couples_25 ?_
  refine lv_bipush (v := 14) C.1.1 C.1.2.1 dX10_couples_28 (by decide) ?_
  refine lv_iload_n C.1.1 C.1.2.1 dX10_couples_30 rfl (lv_at hl 2 rfl) ?_
  refine lv_iadd C.1.1 C.1.2.1 dX10_couples_31 ?_
  refine lv_iload_n C.1.1 C.1.2.1 dX10_couples_32 rfl (lv_at hl 1 rfl) ?_
  refine yy_iast C Z (by decide) rfl dX10_couples_33 h (fun H locs τ Z h => ?_)
  exact yy_vret C Z hr hlk dX10_couples_34 h
set_option maxHeartbeats 4000000 in
set_option maxRecDepth 100000 in
theorem ss_X10_couples (l : Launch) (D : va_G) (κ : Nat → Nat) (ext : va_W) (x1 : Int32) (x2 : Int32) (x3 : Int32) : yy_Mv l D κ ext yX10_couples cX10_couples 4 none rm_X10_couples 0 0 [.ref (κ 4 + 112), .int x1, .int x2, .int x3] (mm_X10_couples x1 x2 x3) := by
  intro sz τ res h
  refine yy_ofW (by decide) (Nat.le_of_ble_eq_true rfl) ?_
  intro p e s m args below meth c ls hsz E
  obtain ⟨C, hr, hlk, Z, hl⟩ := E
  subst hsz
  exact ww_X10_couples_E  C hr hlk Z hl h
/-! MovedLinesModel.anchorOf(IIIII)I -/
noncomputable def mm_X10_anchorOf_29 (x1 : Int32) (x3 : Int32) (x4 : Int32) (x5 : Int32) (x6 : Int32) : yy_M ((Int32) ⊕ ((Unit) ⊕ (Unit))) :=
  yy_rt (.inl (x6 + 1))
noncomputable def mm_X10_anchorOf_3b (x1 : Int32) (x3 : Int32) (x4 : Int32) (x5 : Int32) (x6 : Int32) : yy_M ((Int32) ⊕ ((Unit) ⊕ (Unit))) :=
  yy_br (x3 ≤ x6) (yy_rt (.inr (.inl ()))) (yy_br (x6 = x1) (mm_X10_anchorOf_29 x1 x3 x4 x5 x6) (yy_cl (mm_X10_areAlike 0 x1 0 x6) (fun r1 => yy_br (r1 = 0) (mm_X10_anchorOf_29 x1 x3 x4 x5 x6) (yy_rt (.inr (.inr ()))))))
noncomputable def mm_X10_anchorOf_74 (x1 : Int32) (x5 : Int32) (x6 : Int32) (x7 : Int32) : yy_M ((Int32 × Int32) ⊕ ((Int32) ⊕ (Unit))) :=
  yy_rt (.inl (x6, (x7 + 1)))
noncomputable def mm_X10_anchorOf_42b (x1 : Int32) (x5 : Int32) (x6 : Int32) (x7 : Int32) : yy_M ((Int32 × Int32) ⊕ ((Int32) ⊕ (Unit))) :=
  yy_br (x5 ≤ x7) (yy_rt (.inr (.inl x6))) (yy_cl (mm_X10_areAlike_ x1 x7) (fun r2 => yy_br (r2 = 0) (mm_X10_anchorOf_74 x1 x5 x6 x7) (yy_br (x6 = ((-1))) (mm_X10_anchorOf_74 x1 x5 x7 x7) (yy_rt (.inr (.inr ()))))))
noncomputable def mm_X10_anchorOf_80 (x6 : Int32) : yy_M Int32 :=
  yy_rt x6
noncomputable def mm_X10_anchorOf_68 : yy_M Int32 :=
  yy_rt ((-1))
noncomputable def mm_X10_anchorOf_42 (x1 : Int32) (x5 : Int32) (x6 : Int32) (x7 : Int32) : yy_M Int32 :=
  yy_cl (yy_lp (fun (w : Int32 × Int32) => mm_X10_anchorOf_42b x1 x5 w.1 w.2) (x6, x7)) (Sum.elim (fun w => mm_X10_anchorOf_80 w) (fun w => mm_X10_anchorOf_68 ))
noncomputable def mm_X10_anchorOf_35 (x1 : Int32) (x4 : Int32) (x5 : Int32) : yy_M Int32 :=
  mm_X10_anchorOf_42 x1 x5 ((-1)) x4
noncomputable def mm_X10_anchorOf_27 : yy_M Int32 :=
  yy_rt ((-1))
noncomputable def mm_X10_anchorOf_3 (x1 : Int32) (x3 : Int32) (x4 : Int32) (x5 : Int32) (x6 : Int32) : yy_M Int32 :=
  yy_cl (yy_lp (fun (w : Int32) => mm_X10_anchorOf_3b x1 x3 x4 x5 w) x6) (Sum.elim (fun w => mm_X10_anchorOf_35 x1 x4 x5) (fun w => mm_X10_anchorOf_27 ))
noncomputable def mm_X10_anchorOf (x1 : Int32) (x2 : Int32) (x3 : Int32) (x4 : Int32) (x5 : Int32) : yy_M Int32 :=
  mm_X10_anchorOf_3 x1 x3 x4 x5 x2
theorem kw_X10_anchorOf : yy_wV RX10 yX10_anchorOf cX10_anchorOf 8 (some .int) 5 := ⟨⟨tw_927, tw_35, tw_61, tw_928⟩, by decide +kernel⟩
abbrev rm_X10_anchorOf : Room := { frames := 4, cells := 0, slots := 0, locals := 92 }
set_option maxHeartbeats 4000000 in
set_option maxRecDepth 100000 in
theorem ww_X10_anchorOf_29 {x1 : Int32} {x3 : Int32} {x4 : Int32} {x5 : Int32} {x6 : Int32} {res : ((Int32) ⊕ ((Unit) ⊕ (Unit))) × yy_T} {Q : State → Prop} (C : yy_C D κ p m c cX10_anchorOf 8 s args RX10) (Z : yy_Z D κ ext A s.heap τ H locs) (hl : lv_has ls 8 [(0, .ref (κ 4 + 112)), (1, .int x1), (3, .int x3), (4, .int x4), (5, .int x5), (6, .int x6)]) (h : mm_X10_anchorOf_29 x1 x3 x4 x5 x6 τ = some res)
    (kI : ∀ (w : Int32) (τ1 : yy_T) (H1 : Heap) (locs1 : List Loc) (ls1 : Array Slot), res = (.inl w, τ1) → yy_Z D κ ext A s.heap τ1 H1 locs1 → lv_has ls1 8 [(0, .ref (κ 4 + 112)), (1, .int x1), (3, .int x3), (4, .int x4), (5, .int x5), (6, .int w)] → W p l e rm_X10_anchorOf s m args below meth c H1 locs1 0 0 Q (F0 m 3 ls1 [])) : W p l e rm_X10_anchorOf s m args below meth c H locs 0 0 Q (F0 m 29 ls []) := by
  unfold mm_X10_anchorOf_29 at h
  refine lv_iinc (v := x6 + 1) (lv' := [(6, .int (x6 + 1)), (0, .ref (κ 4 + 112)), (1, .int x1), (3, .int x3), (4, .int x4), (5, .int x5)]) C.1.1 C.1.2.1 dX10_anchorOf_29 hl (k := 5) rfl (by rfl) (by decide) rfl (fun ls hl => ?_)
  refine lv_goto (tgt := 3) C.1.1 C.1.2.1 dX10_anchorOf_32 (by decide) ?_
  exact kI _ _ _ _ _ (yy_rt_of h) Z (lv_sub hl [1, 2, 3, 4, 5, 0] rfl)
set_option maxHeartbeats 4000000 in
set_option maxRecDepth 100000 in
theorem ww_X10_anchorOf_3b {x1 : Int32} {x3 : Int32} {x4 : Int32} {x5 : Int32} {x6 : Int32} {res : ((Int32) ⊕ ((Unit) ⊕ (Unit))) × yy_T} {Q : State → Prop} (C : yy_C D κ p m c cX10_anchorOf 8 s args RX10) (Z : yy_Z D κ ext A s.heap τ H locs) (hl : lv_has ls 8 [(0, .ref (κ 4 + 112)), (1, .int x1), (3, .int x3), (4, .int x4), (5, .int x5), (6, .int x6)]) (h : mm_X10_anchorOf_3b x1 x3 x4 x5 x6 τ = some res)
    (kI : ∀ (w : Int32) (τ1 : yy_T) (H1 : Heap) (locs1 : List Loc) (ls1 : Array Slot), res = (.inl w, τ1) → yy_Z D κ ext A s.heap τ1 H1 locs1 → lv_has ls1 8 [(0, .ref (κ 4 + 112)), (1, .int x1), (3, .int x3), (4, .int x4), (5, .int x5), (6, .int w)] → W p l e rm_X10_anchorOf s m args below meth c H1 locs1 0 0 Q (F0 m 3 ls1 []))
    (kR0 : ∀ (w : Unit) (τ1 : yy_T) (H1 : Heap) (locs1 : List Loc) (ls1 : Array Slot), res = (.inr (.inl w), τ1) → yy_Z D κ ext A s.heap τ1 H1 locs1 → lv_has ls1 8 [(0, .ref (κ 4 + 112)), (1, .int x1), (4, .int x4), (5, .int x5)] → W p l e rm_X10_anchorOf s m args below meth c H1 locs1 0 0 Q (F0 m 35 ls1 []))
    (kR1 : ∀ (w : Unit) (τ1 : yy_T) (H1 : Heap) (locs1 : List Loc) (ls1 : Array Slot), res = (.inr (.inr w), τ1) → yy_Z D κ ext A s.heap τ1 H1 locs1 → lv_has ls1 8 [] → W p l e rm_X10_anchorOf s m args below meth c H1 locs1 0 0 Q (F0 m 27 ls1 [])) : W p l e rm_X10_anchorOf s m args below meth c H locs 0 0 Q (F0 m 3 ls []) := by
  unfold mm_X10_anchorOf_3b at h
  refine lv_iload C.1.1 C.1.2.1 dX10_anchorOf_3 (lv_at hl 5 rfl) ?_
  refine lv_iload_n C.1.1 C.1.2.1 dX10_anchorOf_5 rfl (lv_at hl 2 rfl) ?_
  refine yy_icmp_ge (tgt := 35) C dX10_anchorOf_6 (by decide) h (fun h => ?_) (fun h => ?_)
  · exact kR0 _ _ _ _ _ (yy_rt_of h) Z (lv_sub hl [0, 1, 3, 4] rfl)
  · refine lv_iload C.1.1 C.1.2.1 dX10_anchorOf_9 (lv_at hl 5 rfl) ?_
    refine lv_iload_n C.1.1 C.1.2.1 dX10_anchorOf_11 rfl (lv_at hl 1 rfl) ?_
    refine yy_icmp_eq (tgt := 29) C dX10_anchorOf_12 (by decide) h (fun h => ?_) (fun h => ?_)
    · exact ww_X10_anchorOf_29  C Z (lv_sub hl [0, 1, 2, 3, 4, 5] rfl) h kI
    · refine lv_aload_n C.1.1 C.1.2.1 dX10_anchorOf_15 rfl (lv_at hl 0 rfl) ?_
      refine lv_iconst (v := 0) C.1.1 C.1.2.1 dX10_anchorOf_16 (by decide) ?_
      refine lv_iload_n C.1.1 C.1.2.1 dX10_anchorOf_17 rfl (lv_at hl 1 rfl) ?_
      refine lv_iconst (v := 0) C.1.1 C.1.2.1 dX10_anchorOf_18 (by decide) ?_
      refine lv_iload C.1.1 C.1.2.1 dX10_anchorOf_19 (lv_at hl 5 rfl) ?_
      refine yy_cVi0 (As := [.int 0, .int x1, .int 0, .int x6]) (rest := []) (id := 112) (ci := 10) (q := (RX10, TX10, 20)) C Z (ss_X10_areAlike l D κ ext 0 x1 0 x6) (by decide) (yy_ent_112 _) rfl tw_906 kw_X10_areAlike ⟨⟨rfl, rfl⟩, ⟨Nat.le_of_ble_eq_true rfl, Nat.le_of_ble_eq_true rfl⟩, Nat.le_of_ble_eq_true rfl, Nat.le_of_ble_eq_true rfl⟩ hl.1 rfl (Nat.le_of_ble_eq_true rfl) dX10_anchorOf_21 h (fun r1 τ H locs Z h => ?_)
      refine yy_if_eq (tgt := 29) C dX10_anchorOf_24 (by decide) h (fun h => ?_) (fun h => ?_)
      · exact ww_X10_anchorOf_29  C Z (lv_sub hl [0, 1, 2, 3, 4, 5] rfl) h kI
      · exact kR1 _ _ _ _ _ (yy_rt_of h) Z (lv_sub hl [] rfl)
set_option maxHeartbeats 4000000 in
set_option maxRecDepth 100000 in
theorem ww_X10_anchorOf_74 {x1 : Int32} {x5 : Int32} {x6 : Int32} {x7 : Int32} {res : ((Int32 × Int32) ⊕ ((Int32) ⊕ (Unit))) × yy_T} {Q : State → Prop} (C : yy_C D κ p m c cX10_anchorOf 8 s args RX10) (Z : yy_Z D κ ext A s.heap τ H locs) (hl : lv_has ls 8 [(0, .ref (κ 4 + 112)), (1, .int x1), (5, .int x5), (6, .int x6), (7, .int x7)]) (h : mm_X10_anchorOf_74 x1 x5 x6 x7 τ = some res)
    (kI : ∀ (w : Int32 × Int32) (τ1 : yy_T) (H1 : Heap) (locs1 : List Loc) (ls1 : Array Slot), res = (.inl w, τ1) → yy_Z D κ ext A s.heap τ1 H1 locs1 → lv_has ls1 8 [(0, .ref (κ 4 + 112)), (1, .int x1), (5, .int x5), (6, .int w.1), (7, .int w.2)] → W p l e rm_X10_anchorOf s m args below meth c H1 locs1 0 0 Q (F0 m 42 ls1 [])) : W p l e rm_X10_anchorOf s m args below meth c H locs 0 0 Q (F0 m 74 ls []) := by
  unfold mm_X10_anchorOf_74 at h
  refine lv_iinc (v := x7 + 1) (lv' := [(7, .int (x7 + 1)), (0, .ref (κ 4 + 112)), (1, .int x1), (5, .int x5), (6, .int x6)]) C.1.1 C.1.2.1 dX10_anchorOf_74 hl (k := 4) rfl (by rfl) (by decide) rfl (fun ls hl => ?_)
  refine lv_goto (tgt := 42) C.1.1 C.1.2.1 dX10_anchorOf_77 (by decide) ?_
  exact kI _ _ _ _ _ (yy_rt_of h) Z (lv_sub hl [1, 2, 3, 4, 0] rfl)
set_option maxHeartbeats 4000000 in
set_option maxRecDepth 100000 in
theorem ww_X10_anchorOf_42b {x1 : Int32} {x5 : Int32} {x6 : Int32} {x7 : Int32} {res : ((Int32 × Int32) ⊕ ((Int32) ⊕ (Unit))) × yy_T} {Q : State → Prop} (C : yy_C D κ p m c cX10_anchorOf 8 s args RX10) (Z : yy_Z D κ ext A s.heap τ H locs) (hl : lv_has ls 8 [(0, .ref (κ 4 + 112)), (1, .int x1), (5, .int x5), (6, .int x6), (7, .int x7)]) (h : mm_X10_anchorOf_42b x1 x5 x6 x7 τ = some res)
    (kI : ∀ (w : Int32 × Int32) (τ1 : yy_T) (H1 : Heap) (locs1 : List Loc) (ls1 : Array Slot), res = (.inl w, τ1) → yy_Z D κ ext A s.heap τ1 H1 locs1 → lv_has ls1 8 [(0, .ref (κ 4 + 112)), (1, .int x1), (5, .int x5), (6, .int w.1), (7, .int w.2)] → W p l e rm_X10_anchorOf s m args below meth c H1 locs1 0 0 Q (F0 m 42 ls1 []))
    (kR0 : ∀ (w : Int32) (τ1 : yy_T) (H1 : Heap) (locs1 : List Loc) (ls1 : Array Slot), res = (.inr (.inl w), τ1) → yy_Z D κ ext A s.heap τ1 H1 locs1 → lv_has ls1 8 [(6, .int w)] → W p l e rm_X10_anchorOf s m args below meth c H1 locs1 0 0 Q (F0 m 80 ls1 []))
    (kR1 : ∀ (w : Unit) (τ1 : yy_T) (H1 : Heap) (locs1 : List Loc) (ls1 : Array Slot), res = (.inr (.inr w), τ1) → yy_Z D κ ext A s.heap τ1 H1 locs1 → lv_has ls1 8 [] → W p l e rm_X10_anchorOf s m args below meth c H1 locs1 0 0 Q (F0 m 68 ls1 [])) : W p l e rm_X10_anchorOf s m args below meth c H locs 0 0 Q (F0 m 42 ls []) := by
  unfold mm_X10_anchorOf_42b at h
  refine lv_iload C.1.1 C.1.2.1 dX10_anchorOf_42 (lv_at hl 4 rfl) ?_
  refine lv_iload C.1.1 C.1.2.1 dX10_anchorOf_44 (lv_at hl 2 rfl) ?_
  refine yy_icmp_ge (tgt := 80) C dX10_anchorOf_46 (by decide) h (fun h => ?_) (fun h => ?_)
  · exact kR0 _ _ _ _ _ (yy_rt_of h) Z (lv_sub hl [3] rfl)
  · refine lv_aload_n C.1.1 C.1.2.1 dX10_anchorOf_49 rfl (lv_at hl 0 rfl) ?_
    refine lv_iload_n C.1.1 C.1.2.1 dX10_anchorOf_50 rfl (lv_at hl 1 rfl) ?_
    refine lv_iload C.1.1 C.1.2.1 dX10_anchorOf_51 (lv_at hl 4 rfl) ?_
    refine yy_cVi0 (As := [.int x1, .int x7]) (rest := []) (id := 112) (ci := 10) (q := (RX10, TX10, 20)) C Z (ss_X10_areAlike_ l D κ ext x1 x7) (by decide) (yy_ent_112 _) rfl tw_902 kw_X10_areAlike_ ⟨⟨rfl, rfl⟩, ⟨Nat.le_of_ble_eq_true rfl, Nat.le_of_ble_eq_true rfl⟩, Nat.le_of_ble_eq_true rfl, Nat.le_of_ble_eq_true rfl⟩ hl.1 rfl (Nat.le_of_ble_eq_true rfl) dX10_anchorOf_53 h (fun r2 τ H locs Z h => ?_)
    refine yy_if_ne (tgt := 62) C dX10_anchorOf_56 (by decide) h (fun h => ?_) (fun h => ?_)
    · refine lv_iload C.1.1 C.1.2.1 dX10_anchorOf_62 (lv_at hl 3 rfl) ?_
      refine lv_iconst (v := (-1)) C.1.1 C.1.2.1 dX10_anchorOf_64 (by decide) ?_
      refine yy_icmp_eq (tgt := 70) C dX10_anchorOf_65 (by decide) h (fun h => ?_) (fun h => ?_)
      · refine lv_iload C.1.1 C.1.2.1 dX10_anchorOf_70 (lv_at hl 4 rfl) ?_
        refine lv_istore (lv' := [(6, .int x7), (0, .ref (κ 4 + 112)), (1, .int x1), (5, .int x5), (7, .int x7)]) C.1.1 C.1.2.1 dX10_anchorOf_72 hl (by decide) rfl (fun ls hl => ?_)
        exact ww_X10_anchorOf_74  C Z (lv_sub hl [1, 2, 3, 0, 4] rfl) h kI
      · exact kR1 _ _ _ _ _ (yy_rt_of h) Z (lv_sub hl [] rfl)
    · refine lv_goto (tgt := 74) C.1.1 C.1.2.1 dX10_anchorOf_59 (by decide) ?_
      exact ww_X10_anchorOf_74  C Z (lv_sub hl [0, 1, 2, 3, 4] rfl) h kI
set_option maxHeartbeats 4000000 in
set_option maxRecDepth 100000 in
theorem ww_X10_anchorOf_80 {x6 : Int32} {res : Int32 × yy_T} (C : yy_C D κ p m c cX10_anchorOf 8 s args RX10) (hr : meth.sig.returnType = (some .int)) (hlk : meth.locks = false) (Z : yy_Z D κ ext A s.heap τ H locs) (hl : lv_has ls 8 [(6, .int x6)]) (h : mm_X10_anchorOf_80 x6 τ = some res) : W p l e rm_X10_anchorOf s m args below meth c H locs 0 0 (MQ below (yy_Qi D κ ext A res) args s 0 0 A) (F0 m 80 ls []) := by
  unfold mm_X10_anchorOf_80 at h
  refine lv_iload C.1.1 C.1.2.1 dX10_anchorOf_80 (lv_at hl 0 rfl) ?_
  exact yy_iret C Z hr hlk rfl dX10_anchorOf_82 h
set_option maxHeartbeats 4000000 in
set_option maxRecDepth 100000 in
theorem ww_X10_anchorOf_68 {res : Int32 × yy_T} (C : yy_C D κ p m c cX10_anchorOf 8 s args RX10) (hr : meth.sig.returnType = (some .int)) (hlk : meth.locks = false) (Z : yy_Z D κ ext A s.heap τ H locs) (hl : lv_has ls 8 []) (h : mm_X10_anchorOf_68  τ = some res) : W p l e rm_X10_anchorOf s m args below meth c H locs 0 0 (MQ below (yy_Qi D κ ext A res) args s 0 0 A) (F0 m 68 ls []) := by
  unfold mm_X10_anchorOf_68 at h
  refine lv_iconst (v := (-1)) C.1.1 C.1.2.1 dX10_anchorOf_68 (by decide) ?_
  exact yy_iret C Z hr hlk rfl dX10_anchorOf_69 h
set_option maxHeartbeats 4000000 in
set_option maxRecDepth 100000 in
theorem ww_X10_anchorOf_42 {x1 : Int32} {x5 : Int32} {x6 : Int32} {x7 : Int32} {res : Int32 × yy_T} (C : yy_C D κ p m c cX10_anchorOf 8 s args RX10) (hr : meth.sig.returnType = (some .int)) (hlk : meth.locks = false) (Z : yy_Z D κ ext A s.heap τ H locs) (hl : lv_has ls 8 [(0, .ref (κ 4 + 112)), (1, .int x1), (5, .int x5), (6, .int x6), (7, .int x7)]) (h : mm_X10_anchorOf_42 x1 x5 x6 x7 τ = some res) : W p l e rm_X10_anchorOf s m args below meth c H locs 0 0 (MQ below (yy_Qi D κ ext A res) args s 0 0 A) (F0 m 42 ls []) := by
  unfold mm_X10_anchorOf_42 at h
  refine yy_loop h (fun (w : Int32 × Int32) (τ : yy_T) => ∀ (H : Heap) (locs : List Loc) (ls : Array Slot), yy_Z D κ ext A s.heap τ H locs → lv_has ls 8 [(0, .ref (κ 4 + 112)), (1, .int x1), (5, .int x5), (6, .int w.1), (7, .int w.2)] → W p l e rm_X10_anchorOf s m args below meth c H locs 0 0 (MQ below (yy_Qi D κ ext A res) args s 0 0 A) (F0 m 42 ls [])) ?_ H locs ls Z hl
  intro w τ y hy hI hX H locs ls Z hl
  refine ww_X10_anchorOf_42b  C Z hl hy (fun w τ H locs ls ey Z hl => hI w τ ey H locs ls Z hl) (fun w τ H locs ls ey Z hl => ?_) (fun w τ H locs ls ey Z hl => ?_)
  · have h := hX _ _ ey
    exact ww_X10_anchorOf_80  C hr hlk Z (lv_sub hl [0] rfl) h
  · have h := hX _ _ ey
    exact ww_X10_anchorOf_68  C hr hlk Z (lv_sub hl [] rfl) h
set_option maxHeartbeats 4000000 in
set_option maxRecDepth 100000 in
theorem ww_X10_anchorOf_35 {x1 : Int32} {x4 : Int32} {x5 : Int32} {res : Int32 × yy_T} (C : yy_C D κ p m c cX10_anchorOf 8 s args RX10) (hr : meth.sig.returnType = (some .int)) (hlk : meth.locks = false) (Z : yy_Z D κ ext A s.heap τ H locs) (hl : lv_has ls 8 [(0, .ref (κ 4 + 112)), (1, .int x1), (4, .int x4), (5, .int x5)]) (h : mm_X10_anchorOf_35 x1 x4 x5 τ = some res) : W p l e rm_X10_anchorOf s m args below meth c H locs 0 0 (MQ below (yy_Qi D κ ext A res) args s 0 0 A) (F0 m 35 ls []) := by
  unfold mm_X10_anchorOf_35 at h
  refine lv_iconst (v := (-1)) C.1.1 C.1.2.1 dX10_anchorOf_35 (by decide) ?_
  refine lv_istore (lv' := [(6, .int (-1)), (0, .ref (κ 4 + 112)), (1, .int x1), (4, .int x4), (5, .int x5)]) C.1.1 C.1.2.1 dX10_anchorOf_36 hl (by decide) rfl (fun ls hl => ?_)
  refine lv_iload C.1.1 C.1.2.1 dX10_anchorOf_38 (lv_at hl 3 rfl) ?_
  refine lv_istore (lv' := [(7, .int x4), (6, .int (-1)), (0, .ref (κ 4 + 112)), (1, .int x1), (4, .int x4), (5, .int x5)]) C.1.1 C.1.2.1 dX10_anchorOf_40 hl (by decide) rfl (fun ls hl => ?_)
  exact ww_X10_anchorOf_42  C hr hlk Z (lv_sub hl [2, 3, 5, 1, 0] rfl) h
set_option maxHeartbeats 4000000 in
set_option maxRecDepth 100000 in
theorem ww_X10_anchorOf_27 {res : Int32 × yy_T} (C : yy_C D κ p m c cX10_anchorOf 8 s args RX10) (hr : meth.sig.returnType = (some .int)) (hlk : meth.locks = false) (Z : yy_Z D κ ext A s.heap τ H locs) (hl : lv_has ls 8 []) (h : mm_X10_anchorOf_27  τ = some res) : W p l e rm_X10_anchorOf s m args below meth c H locs 0 0 (MQ below (yy_Qi D κ ext A res) args s 0 0 A) (F0 m 27 ls []) := by
  unfold mm_X10_anchorOf_27 at h
  refine lv_iconst (v := (-1)) C.1.1 C.1.2.1 dX10_anchorOf_27 (by decide) ?_
  exact yy_iret C Z hr hlk rfl dX10_anchorOf_28 h
set_option maxHeartbeats 4000000 in
set_option maxRecDepth 100000 in
theorem ww_X10_anchorOf_3 {x1 : Int32} {x3 : Int32} {x4 : Int32} {x5 : Int32} {x6 : Int32} {res : Int32 × yy_T} (C : yy_C D κ p m c cX10_anchorOf 8 s args RX10) (hr : meth.sig.returnType = (some .int)) (hlk : meth.locks = false) (Z : yy_Z D κ ext A s.heap τ H locs) (hl : lv_has ls 8 [(0, .ref (κ 4 + 112)), (1, .int x1), (3, .int x3), (4, .int x4), (5, .int x5), (6, .int x6)]) (h : mm_X10_anchorOf_3 x1 x3 x4 x5 x6 τ = some res) : W p l e rm_X10_anchorOf s m args below meth c H locs 0 0 (MQ below (yy_Qi D κ ext A res) args s 0 0 A) (F0 m 3 ls []) := by
  unfold mm_X10_anchorOf_3 at h
  refine yy_loop h (fun (w : Int32) (τ : yy_T) => ∀ (H : Heap) (locs : List Loc) (ls : Array Slot), yy_Z D κ ext A s.heap τ H locs → lv_has ls 8 [(0, .ref (κ 4 + 112)), (1, .int x1), (3, .int x3), (4, .int x4), (5, .int x5), (6, .int w)] → W p l e rm_X10_anchorOf s m args below meth c H locs 0 0 (MQ below (yy_Qi D κ ext A res) args s 0 0 A) (F0 m 3 ls [])) ?_ H locs ls Z hl
  intro w τ y hy hI hX H locs ls Z hl
  refine ww_X10_anchorOf_3b  C Z hl hy (fun w τ H locs ls ey Z hl => hI w τ ey H locs ls Z hl) (fun w τ H locs ls ey Z hl => ?_) (fun w τ H locs ls ey Z hl => ?_)
  · have h := hX _ _ ey
    exact ww_X10_anchorOf_35  C hr hlk Z (lv_sub hl [0, 1, 2, 3] rfl) h
  · have h := hX _ _ ey
    exact ww_X10_anchorOf_27  C hr hlk Z (lv_sub hl [] rfl) h
set_option maxHeartbeats 4000000 in
set_option maxRecDepth 100000 in
theorem ww_X10_anchorOf_E {x1 : Int32} {x2 : Int32} {x3 : Int32} {x4 : Int32} {x5 : Int32} {res : Int32 × yy_T} (C : yy_C D κ p m c cX10_anchorOf 8 s args RX10) (hr : meth.sig.returnType = (some .int)) (hlk : meth.locks = false) (Z : yy_Z D κ ext A s.heap τ H locs) (hl : lv_has ls 8 [(0, .ref (κ 4 + 112)), (1, .int x1), (2, .int x2), (3, .int x3), (4, .int x4), (5, .int x5)]) (h : mm_X10_anchorOf x1 x2 x3 x4 x5 τ = some res) : W p l e rm_X10_anchorOf s m args below meth c H locs 0 0 (MQ below (yy_Qi D κ ext A res) args s 0 0 A) (F0 m 0 ls []) := by
  unfold mm_X10_anchorOf at h
  refine lv_iload_n C.1.1 C.1.2.1 dX10_anchorOf_0 rfl (lv_at hl 2 rfl) ?_
  refine lv_istore (lv' := [(6, .int x2), (0, .ref (κ 4 + 112)), (1, .int x1), (2, .int x2), (3, .int x3), (4, .int x4), (5, .int x5)]) C.1.1 C.1.2.1 dX10_anchorOf_1 hl (by decide) rfl (fun ls hl => ?_)
  exact ww_X10_anchorOf_3  C hr hlk Z (lv_sub hl [1, 2, 4, 5, 6, 0] rfl) h
set_option maxHeartbeats 4000000 in
set_option maxRecDepth 100000 in
theorem ss_X10_anchorOf (l : Launch) (D : va_G) (κ : Nat → Nat) (ext : va_W) (x1 : Int32) (x2 : Int32) (x3 : Int32) (x4 : Int32) (x5 : Int32) : yy_Mi l D κ ext yX10_anchorOf cX10_anchorOf 8 (some .int) rm_X10_anchorOf 0 0 [.ref (κ 4 + 112), .int x1, .int x2, .int x3, .int x4, .int x5] (mm_X10_anchorOf x1 x2 x3 x4 x5) := by
  intro sz τ res h
  refine yy_ofW (by decide) (Nat.le_of_ble_eq_true rfl) ?_
  intro p e s m args below meth c ls hsz E
  obtain ⟨C, hr, hlk, Z, hl⟩ := E
  subst hsz
  exact ww_X10_anchorOf_E  C hr hlk Z hl h
end
