section
variable {p : Program} {l : Launch} {e : Env} {s : State} {m : MethodId} {args : Array Value} {below : List Frame} {meth : Method} {c : Code} {H : Heap} {locs : List Loc} {ls : Array Slot} {D : va_G} {κ : Nat → Nat} {ext : va_W} {A : Nat → Prop} {τ : yy_T}
/-! MovedLines$Comparer.looseWords(ILMovedLines$Edition;LMovedLines$Told;)I -/
noncomputable def mm_X1_looseWords_35 (x0 : Int32) (k1 : Nat) (k2 : Nat) (x4 : Int32) (s0 : Int32) (s1 : Int32) : yy_M ((Int32 × Int32) ⊕ ((Int32))) :=
  yy_rt (.inl ((s1 + s0), (x4 + 1)))
noncomputable def mm_X1_looseWords_5b (x0 : Int32) (k1 : Nat) (k2 : Nat) (x3 : Int32) (x4 : Int32) : yy_M ((Int32 × Int32) ⊕ ((Int32))) :=
  yy_rF k1 2 fun v1 => yy_br (v1 ≤ x4) (yy_rt (.inr x3)) (yy_cl (mm_X8_isLoose k2 x0 x4) (fun r2 => yy_br (r2 = 0) (mm_X1_looseWords_35 x0 k1 k2 x4 0 x3) (yy_cl (mm_X2_sizeOf k1 x4) (fun r3 => mm_X1_looseWords_35 x0 k1 k2 x4 r3 x3))))
noncomputable def mm_X1_looseWords_43 (x3 : Int32) : yy_M Int32 :=
  yy_rt x3
noncomputable def mm_X1_looseWords_5 (x0 : Int32) (k1 : Nat) (k2 : Nat) (x3 : Int32) (x4 : Int32) : yy_M Int32 :=
  yy_cl (yy_lp (fun (w : Int32 × Int32) => mm_X1_looseWords_5b x0 k1 k2 w.1 w.2) (x3, x4)) (fun w => mm_X1_looseWords_43 w)
noncomputable def mm_X1_looseWords (x0 : Int32) (k1 : Nat) (k2 : Nat) : yy_M Int32 :=
  mm_X1_looseWords_5 x0 k1 k2 0 0
theorem kw_X1_looseWords : yy_wS RX1 yX1_looseWords cX1_looseWords 5 (some .int) 3 := ⟨⟨tw_557, tw_56, tw_558⟩, by decide +kernel⟩
abbrev rm_X1_looseWords : Room := { frames := 2, cells := 0, slots := 0, locals := 42 }
set_option maxHeartbeats 4000000 in
set_option maxRecDepth 100000 in
theorem ww_X1_looseWords_35 {x0 : Int32} {k1 : Nat} {k2 : Nat} {x4 : Int32} {s0 : Int32} {s1 : Int32} (hk1 : k1 ∈ yy_Eds) (hk2 : k2 ∈ yy_Tds) {res : ((Int32 × Int32) ⊕ ((Int32))) × yy_T} {Q : State → Prop} (C : yy_C D κ p m c cX1_looseWords 5 s args RX1) (Z : yy_Z D κ ext A s.heap τ H locs) (hl : lv_has ls 5 [(0, .int x0), (1, .ref (κ 4 + k1)), (2, .ref (κ 4 + k2)), (4, .int x4)]) (h : mm_X1_looseWords_35 x0 k1 k2 x4 s0 s1 τ = some res)
    (kI : ∀ (w : Int32 × Int32) (τ1 : yy_T) (H1 : Heap) (locs1 : List Loc) (ls1 : Array Slot), res = (.inl w, τ1) → yy_Z D κ ext A s.heap τ1 H1 locs1 → lv_has ls1 5 [(0, .int x0), (1, .ref (κ 4 + k1)), (2, .ref (κ 4 + k2)), (3, .int w.1), (4, .int w.2)] → W p l e rm_X1_looseWords s m args below meth c H1 locs1 0 0 Q (F0 m 5 ls1 [])) : W p l e rm_X1_looseWords s m args below meth c H locs 0 0 Q (F0 m 35 ls [.int s0, .int s1]) := by
  unfold mm_X1_looseWords_35 at h
  refine lv_iadd C.1.1 C.1.2.1 dX1_looseWords_35 ?_
  refine lv_istore_n (lv' := [(3, .int (s1 + s0)), (0, .int x0), (1, .ref (κ 4 + k1)), (2, .ref (κ 4 + k2)), (4, .int x4)]) C.1.1 C.1.2.1 dX1_looseWords_36 rfl hl (by decide) rfl (fun ls hl => ?_)
  refine lv_iinc (v := x4 + 1) (lv' := [(4, .int (x4 + 1)), (3, .int (s1 + s0)), (0, .int x0), (1, .ref (κ 4 + k1)), (2, .ref (κ 4 + k2))]) C.1.1 C.1.2.1 dX1_looseWords_37 hl (k := 4) rfl (by rfl) (by decide) rfl (fun ls hl => ?_)
  refine lv_goto (tgt := 5) C.1.1 C.1.2.1 dX1_looseWords_40 (by decide) ?_
  exact kI _ _ _ _ _ (yy_rt_of h) Z (lv_sub hl [2, 3, 4, 1, 0] rfl)
set_option maxHeartbeats 4000000 in
set_option maxRecDepth 100000 in
theorem ww_X1_looseWords_5b {x0 : Int32} {k1 : Nat} {k2 : Nat} {x3 : Int32} {x4 : Int32} (hk1 : k1 ∈ yy_Eds) (hk2 : k2 ∈ yy_Tds) {res : ((Int32 × Int32) ⊕ ((Int32))) × yy_T} {Q : State → Prop} (C : yy_C D κ p m c cX1_looseWords 5 s args RX1) (Z : yy_Z D κ ext A s.heap τ H locs) (hl : lv_has ls 5 [(0, .int x0), (1, .ref (κ 4 + k1)), (2, .ref (κ 4 + k2)), (3, .int x3), (4, .int x4)]) (h : mm_X1_looseWords_5b x0 k1 k2 x3 x4 τ = some res)
    (kI : ∀ (w : Int32 × Int32) (τ1 : yy_T) (H1 : Heap) (locs1 : List Loc) (ls1 : Array Slot), res = (.inl w, τ1) → yy_Z D κ ext A s.heap τ1 H1 locs1 → lv_has ls1 5 [(0, .int x0), (1, .ref (κ 4 + k1)), (2, .ref (κ 4 + k2)), (3, .int w.1), (4, .int w.2)] → W p l e rm_X1_looseWords s m args below meth c H1 locs1 0 0 Q (F0 m 5 ls1 []))
    (kR0 : ∀ (w : Int32) (τ1 : yy_T) (H1 : Heap) (locs1 : List Loc) (ls1 : Array Slot), res = (.inr w, τ1) → yy_Z D κ ext A s.heap τ1 H1 locs1 → lv_has ls1 5 [(3, .int w)] → W p l e rm_X1_looseWords s m args below meth c H1 locs1 0 0 Q (F0 m 43 ls1 [])) : W p l e rm_X1_looseWords s m args below meth c H locs 0 0 Q (F0 m 5 ls []) := by
  unfold mm_X1_looseWords_5b at h
  refine lv_iload C.1.1 C.1.2.1 dX1_looseWords_5 (lv_at hl 4 rfl) ?_
  refine lv_aload_n C.1.1 C.1.2.1 dX1_looseWords_7 rfl (lv_at hl 1 rfl) ?_
  refine yg_X2_2 C Z hk1 tw_115 dX1_looseWords_8 h (fun v1 h => ?_)
  refine yy_icmp_ge (tgt := 43) C dX1_looseWords_11 (by decide) h (fun h => ?_) (fun h => ?_)
  · exact kR0 _ _ _ _ _ (yy_rt_of h) Z (lv_sub hl [3] rfl)
  · refine lv_iload_n C.1.1 C.1.2.1 dX1_looseWords_14 rfl (lv_at hl 3 rfl) ?_
    refine lv_aload_n C.1.1 C.1.2.1 dX1_looseWords_15 rfl (lv_at hl 2 rfl) ?_
    refine lv_iload_n C.1.1 C.1.2.1 dX1_looseWords_16 rfl (lv_at hl 0 rfl) ?_
    refine lv_iload C.1.1 C.1.2.1 dX1_looseWords_17 (lv_at hl 4 rfl) ?_
    refine yy_cVi0 (As := [.int x0, .int x4]) (rest := [.int x3]) (id := k2) (ci := 8) (q := (RX8, TX8, 11)) C Z (ss_X8_isLoose l D κ ext k2 x0 x4 hk2) (yy_Tds_lt _ hk2) (yy_ent_Tds hk2 _) rfl tw_513 kw_X8_isLoose ⟨⟨rfl, rfl⟩, ⟨Nat.le_of_ble_eq_true rfl, Nat.le_of_ble_eq_true rfl⟩, Nat.le_of_ble_eq_true rfl, Nat.le_of_ble_eq_true rfl⟩ hl.1 rfl (Nat.le_of_ble_eq_true rfl) dX1_looseWords_19 h (fun r2 τ H locs Z h => ?_)
    refine yy_if_eq (tgt := 34) C dX1_looseWords_22 (by decide) h (fun h => ?_) (fun h => ?_)
    · refine lv_iconst (v := 0) C.1.1 C.1.2.1 dX1_looseWords_34 (by decide) ?_
      exact ww_X1_looseWords_35 hk1 hk2 C Z (lv_sub hl [0, 1, 2, 4] rfl) h kI
    · refine lv_aload_n C.1.1 C.1.2.1 dX1_looseWords_25 rfl (lv_at hl 1 rfl) ?_
      refine lv_iload C.1.1 C.1.2.1 dX1_looseWords_26 (lv_at hl 4 rfl) ?_
      refine yy_cVi0 (As := [.int x4]) (rest := [.int x3]) (id := k1) (ci := 2) (q := (RX2, TX2, 3)) C Z (ss_X2_sizeOf l D κ ext k1 x4 hk1) (yy_Eds_lt _ hk1) (yy_ent_Eds hk1 _) rfl tw_523 kw_X2_sizeOf ⟨⟨rfl, rfl⟩, ⟨Nat.le_of_ble_eq_true rfl, Nat.le_of_ble_eq_true rfl⟩, Nat.le_of_ble_eq_true rfl, Nat.le_of_ble_eq_true rfl⟩ hl.1 rfl (Nat.le_of_ble_eq_true rfl) dX1_looseWords_28 h (fun r3 τ H locs Z h => ?_)
      refine lv_goto (tgt := 35) C.1.1 C.1.2.1 dX1_looseWords_31 (by decide) ?_
      exact ww_X1_looseWords_35 hk1 hk2 C Z (lv_sub hl [0, 1, 2, 4] rfl) h kI
set_option maxHeartbeats 4000000 in
set_option maxRecDepth 100000 in
theorem ww_X1_looseWords_43 {x3 : Int32} {res : Int32 × yy_T} (C : yy_C D κ p m c cX1_looseWords 5 s args RX1) (hr : meth.sig.returnType = (some .int)) (hlk : meth.locks = false) (Z : yy_Z D κ ext A s.heap τ H locs) (hl : lv_has ls 5 [(3, .int x3)]) (h : mm_X1_looseWords_43 x3 τ = some res) : W p l e rm_X1_looseWords s m args below meth c H locs 0 0 (MQ below (yy_Qi D κ ext A res) args s 0 0 A) (F0 m 43 ls []) := by
  unfold mm_X1_looseWords_43 at h
  refine lv_iload_n C.1.1 C.1.2.1 dX1_looseWords_43 rfl (lv_at hl 0 rfl) ?_
  exact yy_iret C Z hr hlk rfl dX1_looseWords_44 h
set_option maxHeartbeats 4000000 in
set_option maxRecDepth 100000 in
theorem ww_X1_looseWords_5 {x0 : Int32} {k1 : Nat} {k2 : Nat} {x3 : Int32} {x4 : Int32} (hk1 : k1 ∈ yy_Eds) (hk2 : k2 ∈ yy_Tds) {res : Int32 × yy_T} (C : yy_C D κ p m c cX1_looseWords 5 s args RX1) (hr : meth.sig.returnType = (some .int)) (hlk : meth.locks = false) (Z : yy_Z D κ ext A s.heap τ H locs) (hl : lv_has ls 5 [(0, .int x0), (1, .ref (κ 4 + k1)), (2, .ref (κ 4 + k2)), (3, .int x3), (4, .int x4)]) (h : mm_X1_looseWords_5 x0 k1 k2 x3 x4 τ = some res) : W p l e rm_X1_looseWords s m args below meth c H locs 0 0 (MQ below (yy_Qi D κ ext A res) args s 0 0 A) (F0 m 5 ls []) := by
  unfold mm_X1_looseWords_5 at h
  refine yy_loop h (fun (w : Int32 × Int32) (τ : yy_T) => ∀ (H : Heap) (locs : List Loc) (ls : Array Slot), yy_Z D κ ext A s.heap τ H locs → lv_has ls 5 [(0, .int x0), (1, .ref (κ 4 + k1)), (2, .ref (κ 4 + k2)), (3, .int w.1), (4, .int w.2)] → W p l e rm_X1_looseWords s m args below meth c H locs 0 0 (MQ below (yy_Qi D κ ext A res) args s 0 0 A) (F0 m 5 ls [])) ?_ H locs ls Z hl
  intro w τ y hy hI hX H locs ls Z hl
  refine ww_X1_looseWords_5b hk1 hk2 C Z hl hy (fun w τ H locs ls ey Z hl => hI w τ ey H locs ls Z hl) (fun w τ H locs ls ey Z hl => ?_)
  · have h := hX _ _ ey
    exact ww_X1_looseWords_43  C hr hlk Z (lv_sub hl [0] rfl) h
set_option maxHeartbeats 4000000 in
set_option maxRecDepth 100000 in
theorem ww_X1_looseWords_E {x0 : Int32} {k1 : Nat} {k2 : Nat} (hk1 : k1 ∈ yy_Eds) (hk2 : k2 ∈ yy_Tds) {res : Int32 × yy_T} (C : yy_C D κ p m c cX1_looseWords 5 s args RX1) (hr : meth.sig.returnType = (some .int)) (hlk : meth.locks = false) (Z : yy_Z D κ ext A s.heap τ H locs) (hl : lv_has ls 5 [(0, .int x0), (1, .ref (κ 4 + k1)), (2, .ref (κ 4 + k2))]) (h : mm_X1_looseWords x0 k1 k2 τ = some res) : W p l e rm_X1_looseWords s m args below meth c H locs 0 0 (MQ below (yy_Qi D κ ext A res) args s 0 0 A) (F0 m 0 ls []) := by
  unfold mm_X1_looseWords at h
  refine lv_iconst (v := 0) C.1.1 C.1.2.1 dX1_looseWords_0 (by decide) ?_
  refine lv_istore_n (lv' := [(3, .int 0), (0, .int x0), (1, .ref (κ 4 + k1)), (2, .ref (κ 4 + k2))]) C.1.1 C.1.2.1 dX1_looseWords_1 rfl hl (by decide) rfl (fun ls hl => ?_)
  refine lv_iconst (v := 0) C.1.1 C.1.2.1 dX1_looseWords_2 (by decide) ?_
  refine lv_istore (lv' := [(4, .int 0), (3, .int 0), (0, .int x0), (1, .ref (κ 4 + k1)), (2, .ref (κ 4 + k2))]) C.1.1 C.1.2.1 dX1_looseWords_3 hl (by decide) rfl (fun ls hl => ?_)
  exact ww_X1_looseWords_5 hk1 hk2 C hr hlk Z (lv_sub hl [2, 3, 4, 1, 0] rfl) h
set_option maxHeartbeats 4000000 in
set_option maxRecDepth 100000 in
theorem ss_X1_looseWords (l : Launch) (D : va_G) (κ : Nat → Nat) (ext : va_W) (x0 : Int32) (k1 : Nat) (k2 : Nat) (hk1 : k1 ∈ yy_Eds) (hk2 : k2 ∈ yy_Tds) : yy_Mi l D κ ext yX1_looseWords cX1_looseWords 5 (some .int) rm_X1_looseWords 0 0 [.int x0, .ref (κ 4 + k1), .ref (κ 4 + k2)] (mm_X1_looseWords x0 k1 k2) := by
  intro sz τ res h
  refine yy_ofW (by decide) (Nat.le_of_ble_eq_true rfl) ?_
  intro p e s m args below meth c ls hsz E
  obtain ⟨C, hr, hlk, Z, hl⟩ := E
  subst hsz
  exact ww_X1_looseWords_E hk1 hk2 C hr hlk Z hl h
/-! MovedLines$Comparer.likenessTo(LMovedLines$Edition;II)I -/
noncomputable def mm_X1_likenessTo (k1 : Nat) (x2 : Int32) (x3 : Int32) : yy_M Int32 :=
  yy_cl (mm_X2_sizeOf k1 x2) (fun r1 => yy_br ((if x3 < r1 then r1 else x3) ≤ (2 * (if r1 < x3 then r1 else x3))) (yy_cl (mm_X0_setSecond 61 (k1 + 2) (x2 * 8) r1) (fun _ => yy_cl (mm_X0_measure 61) (fun r2 => yy_br ((2 * r2) < (if x3 < r1 then r1 else x3)) (yy_rt 0) (yy_rt r2)))) (yy_rt 0))
theorem kw_X1_likenessTo : yy_wV RX1 yX1_likenessTo cX1_likenessTo 7 (some .int) 3 := ⟨⟨tw_537, tw_15, tw_56, tw_538⟩, by decide +kernel⟩
abbrev rm_X1_likenessTo : Room := { frames := 3, cells := 0, slots := 0, locals := 94 }
set_option maxHeartbeats 4000000 in
set_option maxRecDepth 100000 in
theorem ww_X1_likenessTo_E {k1 : Nat} {x2 : Int32} {x3 : Int32} (hk1 : k1 ∈ yy_Eds) {res : Int32 × yy_T} (C : yy_C D κ p m c cX1_likenessTo 7 s args RX1) (hr : meth.sig.returnType = (some .int)) (hlk : meth.locks = false) (Z : yy_Z D κ ext A s.heap τ H locs) (hl : lv_has ls 7 [(0, .ref (κ 4 + 49)), (1, .ref (κ 4 + k1)), (2, .int x2), (3, .int x3)]) (h : mm_X1_likenessTo k1 x2 x3 τ = some res) : W p l e rm_X1_likenessTo s m args below meth c H locs 0 0 (MQ below (yy_Qi D κ ext A res) args s 0 0 A) (F0 m 0 ls []) := by
  unfold mm_X1_likenessTo at h
  refine lv_aload_n C.1.1 C.1.2.1 dX1_likenessTo_0 rfl (lv_at hl 1 rfl) ?_
  refine lv_iload_n C.1.1 C.1.2.1 dX1_likenessTo_1 rfl (lv_at hl 2 rfl) ?_
  refine yy_cVi0 (As := [.int x2]) (rest := []) (id := k1) (ci := 2) (q := (RX2, TX2, 3)) C Z (ss_X2_sizeOf l D κ ext k1 x2 hk1) (yy_Eds_lt _ hk1) (yy_ent_Eds hk1 _) rfl tw_523 kw_X2_sizeOf ⟨⟨rfl, rfl⟩, ⟨Nat.le_of_ble_eq_true rfl, Nat.le_of_ble_eq_true rfl⟩, Nat.le_of_ble_eq_true rfl, Nat.le_of_ble_eq_true rfl⟩ hl.1 rfl (Nat.le_of_ble_eq_true rfl) dX1_likenessTo_2 h (fun r1 τ H locs Z h => ?_)
  refine lv_istore (lv' := [(4, .int r1), (0, .ref (κ 4 + 49)), (1, .ref (κ 4 + k1)), (2, .int x2), (3, .int x3)]) C.1.1 C.1.2.1 dX1_likenessTo_5 hl (by decide) rfl (fun ls hl => ?_)
  refine lv_iload_n C.1.1 C.1.2.1 dX1_likenessTo_7 rfl (lv_at hl 4 rfl) ?_
  refine lv_iload C.1.1 C.1.2.1 dX1_likenessTo_8 (lv_at hl 0 rfl) ?_
  refine va_mmax C.1.1 C.1.2.1 (by rw [C.1.2.2.1]; exact hl.1.symm) C.1.2.2.2.1 (C.1.2.2.2.2 _ tw_539) (C.1.2.2.2.2 _ yy_mmax.1) (C.1.2.2.2.2 _ yy_mmax.2.1) (C.1.2.2.2.2 _ yy_mmax.2.2) (Nat.le_of_ble_eq_true rfl) (Nat.le_of_ble_eq_true rfl) (Nat.zero_le _) (Nat.zero_le _) dX1_likenessTo_10 ?_
  refine lv_istore (lv' := [(5, .int (if x3 < r1 then r1 else x3)), (4, .int r1), (0, .ref (κ 4 + 49)), (1, .ref (κ 4 + k1)), (2, .int x2), (3, .int x3)]) C.1.1 C.1.2.1 dX1_likenessTo_13 hl (by decide) rfl (fun ls hl => ?_)
  refine lv_iconst (v := 2) C.1.1 C.1.2.1 dX1_likenessTo_15 (by decide) ?_
  refine lv_iload_n C.1.1 C.1.2.1 dX1_likenessTo_16 rfl (lv_at hl 5 rfl) ?_
  refine lv_iload C.1.1 C.1.2.1 dX1_likenessTo_17 (lv_at hl 1 rfl) ?_
  refine va_mmin C.1.1 C.1.2.1 (by rw [C.1.2.2.1]; exact hl.1.symm) C.1.2.2.2.1 (C.1.2.2.2.2 _ tw_540) (C.1.2.2.2.2 _ yy_mmin.1) (C.1.2.2.2.2 _ yy_mmin.2.1) (C.1.2.2.2.2 _ yy_mmin.2.2) (Nat.le_of_ble_eq_true rfl) (Nat.le_of_ble_eq_true rfl) (Nat.zero_le _) (Nat.zero_le _) dX1_likenessTo_19 ?_
  refine lv_imul C.1.1 C.1.2.1 dX1_likenessTo_22 ?_
  refine lv_iload C.1.1 C.1.2.1 dX1_likenessTo_23 (lv_at hl 0 rfl) ?_
  refine yy_icmp_ge (tgt := 30) C dX1_likenessTo_25 (by decide) h (fun h => ?_) (fun h => ?_)
  · refine lv_aload_n C.1.1 C.1.2.1 dX1_likenessTo_30 rfl (lv_at hl 2 rfl) ?_
    refine yg_X1_2 C Z tw_263 dX1_likenessTo_31 ?_
    refine lv_aload_n C.1.1 C.1.2.1 dX1_likenessTo_34 rfl (lv_at hl 3 rfl) ?_
    refine yg_X2_1 C Z hk1 tw_109 dX1_likenessTo_35 ?_
    refine lv_iload_n C.1.1 C.1.2.1 dX1_likenessTo_38 rfl (lv_at hl 4 rfl) ?_
    refine lv_bipush (v := 8) C.1.1 C.1.2.1 dX1_likenessTo_39 (by decide) ?_
    refine lv_imul C.1.1 C.1.2.1 dX1_likenessTo_41 ?_
    refine lv_iload C.1.1 C.1.2.1 dX1_likenessTo_42 (lv_at hl 1 rfl) ?_
    refine yy_cVv0 (As := [.ref (κ 4 + (k1 + 2)), .int (x2 * 8), .int r1]) (rest := []) (id := 61) (ci := 0) (q := (RX0, TX0, 5)) C Z (ss_X0_setSecond l D κ ext 61 (k1 + 2) (x2 * 8) r1 (by decide) (yy_E2 _ hk1)) (yy_Crs_lt _ (by decide)) (yy_ent_Crs (by decide) _) rfl tw_543 kw_X0_setSecond ⟨⟨rfl, rfl⟩, ⟨Nat.le_of_ble_eq_true rfl, Nat.le_of_ble_eq_true rfl⟩, Nat.le_of_ble_eq_true rfl, Nat.le_of_ble_eq_true rfl⟩ hl.1 rfl (Nat.le_of_ble_eq_true rfl) dX1_likenessTo_44 h (fun τ H locs Z h => ?_)
    refine lv_aload_n C.1.1 C.1.2.1 dX1_likenessTo_47 rfl (lv_at hl 2 rfl) ?_
    refine yg_X1_2 C Z tw_263 dX1_likenessTo_48 ?_
    refine yy_cVi0 (As := []) (rest := []) (id := 61) (ci := 0) (q := (RX0, TX0, 5)) C Z (ss_X0_measure l D κ ext 61 (by decide)) (yy_Crs_lt _ (by decide)) (yy_ent_Crs (by decide) _) rfl tw_547 kw_X0_measure ⟨⟨rfl, rfl⟩, ⟨Nat.le_of_ble_eq_true rfl, Nat.le_of_ble_eq_true rfl⟩, Nat.le_of_ble_eq_true rfl, Nat.le_of_ble_eq_true rfl⟩ hl.1 rfl (Nat.le_of_ble_eq_true rfl) dX1_likenessTo_51 h (fun r2 τ H locs Z h => ?_)
    refine lv_istore (lv' := [(6, .int r2), (5, .int (if x3 < r1 then r1 else x3)), (4, .int r1), (0, .ref (κ 4 + 49)), (1, .ref (κ 4 + k1)), (2, .int x2), (3, .int x3)]) C.1.1 C.1.2.1 dX1_likenessTo_54 hl (by decide) rfl (fun ls hl => ?_)
    refine lv_iconst (v := 2) C.1.1 C.1.2.1 dX1_likenessTo_56 (by decide) ?_
    refine lv_iload C.1.1 C.1.2.1 dX1_likenessTo_57 (lv_at hl 0 rfl) ?_
    refine lv_imul C.1.1 C.1.2.1 dX1_likenessTo_59 ?_
    refine lv_iload C.1.1 C.1.2.1 dX1_likenessTo_60 (lv_at hl 1 rfl) ?_
    refine yy_icmp_lt (tgt := 70) C dX1_likenessTo_62 (by decide) h (fun h => ?_) (fun h => ?_)
    · refine lv_iconst (v := 0) C.1.1 C.1.2.1 dX1_likenessTo_70 (by decide) ?_
      exact yy_iret C Z hr hlk rfl dX1_likenessTo_71 h
    · refine lv_iload C.1.1 C.1.2.1 dX1_likenessTo_65 (lv_at hl 0 rfl) ?_
      refine lv_goto (tgt := 71) C.1.1 C.1.2.1 dX1_likenessTo_67 (by decide) ?_
      exact yy_iret C Z hr hlk rfl dX1_likenessTo_71 h
  · refine lv_iconst (v := 0) C.1.1 C.1.2.1 dX1_likenessTo_28 (by decide) ?_
    exact yy_iret C Z hr hlk rfl dX1_likenessTo_29 h
set_option maxHeartbeats 4000000 in
set_option maxRecDepth 100000 in
theorem ss_X1_likenessTo (l : Launch) (D : va_G) (κ : Nat → Nat) (ext : va_W) (k1 : Nat) (x2 : Int32) (x3 : Int32) (hk1 : k1 ∈ yy_Eds) : yy_Mi l D κ ext yX1_likenessTo cX1_likenessTo 7 (some .int) rm_X1_likenessTo 0 0 [.ref (κ 4 + 49), .ref (κ 4 + k1), .int x2, .int x3] (mm_X1_likenessTo k1 x2 x3) := by
  intro sz τ res h
  refine yy_ofW (by decide) (Nat.le_of_ble_eq_true rfl) ?_
  intro p e s m args below meth c ls hsz E
  obtain ⟨C, hr, hlk, Z, hl⟩ := E
  subst hsz
  exact ww_X1_likenessTo_E hk1 C hr hlk Z hl h
/-! MovedLines$Comparer.measureLikeness(LMovedLines$Edition;LMovedLines$Edition;LMovedLines$Told;)V -/
noncomputable def mm_X1_measureLikeness_99 (k1 : Nat) (k2 : Nat) (k3 : Nat) (x4 : Int32) : yy_M ((Int32) ⊕ ((Unit))) :=
  yy_rt (.inl (x4 + 1))
noncomputable def mm_X1_measureLikeness_92 (k1 : Nat) (k2 : Nat) (k3 : Nat) (x4 : Int32) (x5 : Int32) (s0 : Int32) (s1 : Int32) (t2 : Nat) : yy_M ((Int32) ⊕ ((Unit))) :=
  yy_wA t2 14 s1 s0 (yy_rt (.inl (x5 + 1)))
noncomputable def mm_X1_measureLikeness_47b (k1 : Nat) (k2 : Nat) (k3 : Nat) (x4 : Int32) (x5 : Int32) : yy_M ((Int32) ⊕ ((Unit))) :=
  yy_rF k2 2 fun v4 => yy_br (v4 ≤ x5) (yy_rt (.inr ())) (yy_ck (yy_in x4 14 = true) (yy_cl (mm_X8_isLoose k3 1 x5) (fun r6 => yy_br (r6 = 0) (mm_X1_measureLikeness_92 k1 k2 k3 x4 x5 0 x5 (66 + Int32.toNatClampNeg x4)) (yy_cl (mm_X2_sizeOf k1 x4) (fun r7 => yy_cl (mm_X1_likenessTo k2 x5 r7) (fun r8 => mm_X1_measureLikeness_92 k1 k2 k3 x4 x5 r8 x5 (66 + Int32.toNatClampNeg x4)))))))
noncomputable def mm_X1_measureLikeness_47 (k1 : Nat) (k2 : Nat) (k3 : Nat) (x4 : Int32) (x5 : Int32) : yy_M ((Int32) ⊕ ((Unit))) :=
  yy_cl (yy_lp (fun (w : Int32) => mm_X1_measureLikeness_47b k1 k2 k3 x4 w) x5) (fun w => mm_X1_measureLikeness_99 k1 k2 k3 x4)
noncomputable def mm_X1_measureLikeness_3b (k1 : Nat) (k2 : Nat) (k3 : Nat) (x4 : Int32) : yy_M ((Int32) ⊕ ((Unit))) :=
  yy_rF k1 2 fun v1 => yy_br (v1 ≤ x4) (yy_rt (.inr ())) (yy_cl (mm_X8_isLoose k3 0 x4) (fun r2 => yy_br (r2 = 0) (mm_X1_measureLikeness_99 k1 k2 k3 x4) (yy_cl (mm_X2_sizeOf k1 x4) (fun r3 => yy_cl (mm_X0_setFirst 61 (k1 + 2) (x4 * 8) r3) (fun _ => mm_X1_measureLikeness_47 k1 k2 k3 x4 0)))))
noncomputable def mm_X1_measureLikeness_105 : yy_M Unit :=
  yy_rt ()
noncomputable def mm_X1_measureLikeness_3 (k1 : Nat) (k2 : Nat) (k3 : Nat) (x4 : Int32) : yy_M Unit :=
  yy_cl (yy_lp (fun (w : Int32) => mm_X1_measureLikeness_3b k1 k2 k3 w) x4) (fun w => mm_X1_measureLikeness_105 )
noncomputable def mm_X1_measureLikeness (k1 : Nat) (k2 : Nat) (k3 : Nat) : yy_M Unit :=
  mm_X1_measureLikeness_3 k1 k2 k3 0
theorem kw_X1_measureLikeness : yy_wV RX1 yX1_measureLikeness cX1_measureLikeness 6 none 3 := ⟨⟨tw_521, tw_14, tw_56, tw_522⟩, by decide +kernel⟩
abbrev rm_X1_measureLikeness : Room := { frames := 4, cells := 0, slots := 0, locals := 120 }
set_option maxHeartbeats 4000000 in
set_option maxRecDepth 100000 in
theorem ww_X1_measureLikeness_99 {k1 : Nat} {k2 : Nat} {k3 : Nat} {x4 : Int32} (hk1 : k1 ∈ yy_Eds) (hk2 : k2 ∈ yy_Eds) (hk3 : k3 ∈ yy_Tds) {res : ((Int32) ⊕ ((Unit))) × yy_T} {Q : State → Prop} (C : yy_C D κ p m c cX1_measureLikeness 6 s args RX1) (Z : yy_Z D κ ext A s.heap τ H locs) (hl : lv_has ls 6 [(0, .ref (κ 4 + 49)), (1, .ref (κ 4 + k1)), (2, .ref (κ 4 + k2)), (3, .ref (κ 4 + k3)), (4, .int x4)]) (h : mm_X1_measureLikeness_99 k1 k2 k3 x4 τ = some res)
    (kI : ∀ (w : Int32) (τ1 : yy_T) (H1 : Heap) (locs1 : List Loc) (ls1 : Array Slot), res = (.inl w, τ1) → yy_Z D κ ext A s.heap τ1 H1 locs1 → lv_has ls1 6 [(0, .ref (κ 4 + 49)), (1, .ref (κ 4 + k1)), (2, .ref (κ 4 + k2)), (3, .ref (κ 4 + k3)), (4, .int w)] → W p l e rm_X1_measureLikeness s m args below meth c H1 locs1 0 0 Q (F0 m 3 ls1 [])) : W p l e rm_X1_measureLikeness s m args below meth c H locs 0 0 Q (F0 m 99 ls []) := by
  unfold mm_X1_measureLikeness_99 at h
  refine lv_iinc (v := x4 + 1) (lv' := [(4, .int (x4 + 1)), (0, .ref (κ 4 + 49)), (1, .ref (κ 4 + k1)), (2, .ref (κ 4 + k2)), (3, .ref (κ 4 + k3))]) C.1.1 C.1.2.1 dX1_measureLikeness_99 hl (k := 4) rfl (by rfl) (by decide) rfl (fun ls hl => ?_)
  refine lv_goto (tgt := 3) C.1.1 C.1.2.1 dX1_measureLikeness_102 (by decide) ?_
  exact kI _ _ _ _ _ (yy_rt_of h) Z (lv_sub hl [1, 2, 3, 4, 0] rfl)
set_option maxHeartbeats 4000000 in
set_option maxRecDepth 100000 in
theorem ww_X1_measureLikeness_92 {k1 : Nat} {k2 : Nat} {k3 : Nat} {x4 : Int32} {x5 : Int32} {s0 : Int32} {s1 : Int32} {t2 : Nat} (hk1 : k1 ∈ yy_Eds) (hk2 : k2 ∈ yy_Eds) (hk3 : k3 ∈ yy_Tds) (ht2 : t2 ∈ yy_Ints) (hn2 : yy_len t2 = 14) {res : ((Int32) ⊕ ((Unit))) × yy_T} {Q : State → Prop} (C : yy_C D κ p m c cX1_measureLikeness 6 s args RX1) (Z : yy_Z D κ ext A s.heap τ H locs) (hl : lv_has ls 6 [(0, .ref (κ 4 + 49)), (1, .ref (κ 4 + k1)), (2, .ref (κ 4 + k2)), (3, .ref (κ 4 + k3)), (4, .int x4), (5, .int x5)]) (h : mm_X1_measureLikeness_92 k1 k2 k3 x4 x5 s0 s1 t2 τ = some res)
    (kI : ∀ (w : Int32) (τ1 : yy_T) (H1 : Heap) (locs1 : List Loc) (ls1 : Array Slot), res = (.inl w, τ1) → yy_Z D κ ext A s.heap τ1 H1 locs1 → lv_has ls1 6 [(0, .ref (κ 4 + 49)), (1, .ref (κ 4 + k1)), (2, .ref (κ 4 + k2)), (3, .ref (κ 4 + k3)), (4, .int x4), (5, .int w)] → W p l e rm_X1_measureLikeness s m args below meth c H1 locs1 0 0 Q (F0 m 47 ls1 [])) : W p l e rm_X1_measureLikeness s m args below meth c H locs 0 0 Q (F0 m 92 ls [.int s0, .int s1, .ref (κ 4 + t2)]) := by
  unfold mm_X1_measureLikeness_92 at h
  refine yy_iast C Z ht2 hn2 dX1_measureLikeness_92 h (fun H locs τ Z h => ?_)
  refine lv_iinc (v := x5 + 1) (lv' := [(5, .int (x5 + 1)), (0, .ref (κ 4 + 49)), (1, .ref (κ 4 + k1)), (2, .ref (κ 4 + k2)), (3, .ref (κ 4 + k3)), (4, .int x4)]) C.1.1 C.1.2.1 dX1_measureLikeness_93 hl (k := 5) rfl (by rfl) (by decide) rfl (fun ls hl => ?_)
  refine lv_goto (tgt := 47) C.1.1 C.1.2.1 dX1_measureLikeness_96 (by decide) ?_
  exact kI _ _ _ _ _ (yy_rt_of h) Z (lv_sub hl [1, 2, 3, 4, 5, 0] rfl)
set_option maxHeartbeats 4000000 in
set_option maxRecDepth 100000 in
theorem ww_X1_measureLikeness_47b {k1 : Nat} {k2 : Nat} {k3 : Nat} {x4 : Int32} {x5 : Int32} (hk1 : k1 ∈ yy_Eds) (hk2 : k2 ∈ yy_Eds) (hk3 : k3 ∈ yy_Tds) {res : ((Int32) ⊕ ((Unit))) × yy_T} {Q : State → Prop} (C : yy_C D κ p m c cX1_measureLikeness 6 s args RX1) (Z : yy_Z D κ ext A s.heap τ H locs) (hl : lv_has ls 6 [(0, .ref (κ 4 + 49)), (1, .ref (κ 4 + k1)), (2, .ref (κ 4 + k2)), (3, .ref (κ 4 + k3)), (4, .int x4), (5, .int x5)]) (h : mm_X1_measureLikeness_47b k1 k2 k3 x4 x5 τ = some res)
    (kI : ∀ (w : Int32) (τ1 : yy_T) (H1 : Heap) (locs1 : List Loc) (ls1 : Array Slot), res = (.inl w, τ1) → yy_Z D κ ext A s.heap τ1 H1 locs1 → lv_has ls1 6 [(0, .ref (κ 4 + 49)), (1, .ref (κ 4 + k1)), (2, .ref (κ 4 + k2)), (3, .ref (κ 4 + k3)), (4, .int x4), (5, .int w)] → W p l e rm_X1_measureLikeness s m args below meth c H1 locs1 0 0 Q (F0 m 47 ls1 []))
    (kR0 : ∀ (w : Unit) (τ1 : yy_T) (H1 : Heap) (locs1 : List Loc) (ls1 : Array Slot), res = (.inr w, τ1) → yy_Z D κ ext A s.heap τ1 H1 locs1 → lv_has ls1 6 [(0, .ref (κ 4 + 49)), (1, .ref (κ 4 + k1)), (2, .ref (κ 4 + k2)), (3, .ref (κ 4 + k3)), (4, .int x4)] → W p l e rm_X1_measureLikeness s m args below meth c H1 locs1 0 0 Q (F0 m 99 ls1 [])) : W p l e rm_X1_measureLikeness s m args below meth c H locs 0 0 Q (F0 m 47 ls []) := by
  unfold mm_X1_measureLikeness_47b at h
  refine lv_iload C.1.1 C.1.2.1 dX1_measureLikeness_47 (lv_at hl 5 rfl) ?_
  refine lv_aload_n C.1.1 C.1.2.1 dX1_measureLikeness_49 rfl (lv_at hl 2 rfl) ?_
  refine yg_X2_2 C Z hk2 tw_115 dX1_measureLikeness_50 h (fun v4 h => ?_)
  refine yy_icmp_ge (tgt := 99) C dX1_measureLikeness_53 (by decide) h (fun h => ?_) (fun h => ?_)
  · exact kR0 _ _ _ _ _ (yy_rt_of h) Z (lv_sub hl [0, 1, 2, 3, 4] rfl)
  · refine lv_aload_n C.1.1 C.1.2.1 dX1_measureLikeness_56 rfl (lv_at hl 0 rfl) ?_
    refine yg_X1_3 C Z tw_264 dX1_measureLikeness_57 ?_
    refine lv_iload C.1.1 C.1.2.1 dX1_measureLikeness_60 (lv_at hl 4 rfl) ?_
    refine yy_aaldL C Z dX1_measureLikeness_62 h (fun hn5 h => ?_)
    refine lv_iload C.1.1 C.1.2.1 dX1_measureLikeness_63 (lv_at hl 5 rfl) ?_
    refine lv_aload_n C.1.1 C.1.2.1 dX1_measureLikeness_65 rfl (lv_at hl 3 rfl) ?_
    refine lv_iconst (v := 1) C.1.1 C.1.2.1 dX1_measureLikeness_66 (by decide) ?_
    refine lv_iload C.1.1 C.1.2.1 dX1_measureLikeness_67 (lv_at hl 5 rfl) ?_
    refine yy_cVi0 (As := [.int 1, .int x5]) (rest := [.int x5, .ref (κ 4 + (66 + Int32.toNatClampNeg x4))]) (id := k3) (ci := 8) (q := (RX8, TX8, 11)) C Z (ss_X8_isLoose l D κ ext k3 1 x5 hk3) (yy_Tds_lt _ hk3) (yy_ent_Tds hk3 _) rfl tw_513 kw_X8_isLoose ⟨⟨rfl, rfl⟩, ⟨Nat.le_of_ble_eq_true rfl, Nat.le_of_ble_eq_true rfl⟩, Nat.le_of_ble_eq_true rfl, Nat.le_of_ble_eq_true rfl⟩ hl.1 rfl (Nat.le_of_ble_eq_true rfl) dX1_measureLikeness_69 h (fun r6 τ H locs Z h => ?_)
    refine yy_if_eq (tgt := 91) C dX1_measureLikeness_72 (by decide) h (fun h => ?_) (fun h => ?_)
    · refine lv_iconst (v := 0) C.1.1 C.1.2.1 dX1_measureLikeness_91 (by decide) ?_
      exact ww_X1_measureLikeness_92 hk1 hk2 hk3 (yy_L0 _ hn5) (yy_lenL0 _ hn5) C Z (lv_sub hl [0, 1, 2, 3, 4, 5] rfl) h kI
    · refine lv_aload_n C.1.1 C.1.2.1 dX1_measureLikeness_75 rfl (lv_at hl 0 rfl) ?_
      refine lv_aload_n C.1.1 C.1.2.1 dX1_measureLikeness_76 rfl (lv_at hl 2 rfl) ?_
      refine lv_iload C.1.1 C.1.2.1 dX1_measureLikeness_77 (lv_at hl 5 rfl) ?_
      refine lv_aload_n C.1.1 C.1.2.1 dX1_measureLikeness_79 rfl (lv_at hl 1 rfl) ?_
      refine lv_iload C.1.1 C.1.2.1 dX1_measureLikeness_80 (lv_at hl 4 rfl) ?_
      refine yy_cVi0 (As := [.int x4]) (rest := [.int x5, .ref (κ 4 + k2), .ref (κ 4 + 49), .int x5, .ref (κ 4 + (66 + Int32.toNatClampNeg x4))]) (id := k1) (ci := 2) (q := (RX2, TX2, 3)) C Z (ss_X2_sizeOf l D κ ext k1 x4 hk1) (yy_Eds_lt _ hk1) (yy_ent_Eds hk1 _) rfl tw_523 kw_X2_sizeOf ⟨⟨rfl, rfl⟩, ⟨Nat.le_of_ble_eq_true rfl, Nat.le_of_ble_eq_true rfl⟩, Nat.le_of_ble_eq_true rfl, Nat.le_of_ble_eq_true rfl⟩ hl.1 rfl (Nat.le_of_ble_eq_true rfl) dX1_measureLikeness_82 h (fun r7 τ H locs Z h => ?_)
      refine yy_cVi0 (As := [.ref (κ 4 + k2), .int x5, .int r7]) (rest := [.int x5, .ref (κ 4 + (66 + Int32.toNatClampNeg x4))]) (id := 49) (ci := 1) (q := (RX1, TX1, 4)) C Z (ss_X1_likenessTo l D κ ext k2 x5 r7 hk2) (by decide) (yy_ent_49 _) rfl tw_535 kw_X1_likenessTo ⟨⟨rfl, rfl⟩, ⟨Nat.le_of_ble_eq_true rfl, Nat.le_of_ble_eq_true rfl⟩, Nat.le_of_ble_eq_true rfl, Nat.le_of_ble_eq_true rfl⟩ hl.1 rfl (Nat.le_of_ble_eq_true rfl) dX1_measureLikeness_85 h (fun r8 τ H locs Z h => ?_)
      refine lv_goto (tgt := 92) C.1.1 C.1.2.1 dX1_measureLikeness_88 (by decide) ?_
      exact ww_X1_measureLikeness_92 hk1 hk2 hk3 (yy_L0 _ hn5) (yy_lenL0 _ hn5) C Z (lv_sub hl [0, 1, 2, 3, 4, 5] rfl) h kI
set_option maxHeartbeats 4000000 in
set_option maxRecDepth 100000 in
theorem ww_X1_measureLikeness_47 {k1 : Nat} {k2 : Nat} {k3 : Nat} {x4 : Int32} {x5 : Int32} (hk1 : k1 ∈ yy_Eds) (hk2 : k2 ∈ yy_Eds) (hk3 : k3 ∈ yy_Tds) {res : ((Int32) ⊕ ((Unit))) × yy_T} {Q : State → Prop} (C : yy_C D κ p m c cX1_measureLikeness 6 s args RX1) (Z : yy_Z D κ ext A s.heap τ H locs) (hl : lv_has ls 6 [(0, .ref (κ 4 + 49)), (1, .ref (κ 4 + k1)), (2, .ref (κ 4 + k2)), (3, .ref (κ 4 + k3)), (4, .int x4), (5, .int x5)]) (h : mm_X1_measureLikeness_47 k1 k2 k3 x4 x5 τ = some res)
    (kI : ∀ (w : Int32) (τ1 : yy_T) (H1 : Heap) (locs1 : List Loc) (ls1 : Array Slot), res = (.inl w, τ1) → yy_Z D κ ext A s.heap τ1 H1 locs1 → lv_has ls1 6 [(0, .ref (κ 4 + 49)), (1, .ref (κ 4 + k1)), (2, .ref (κ 4 + k2)), (3, .ref (κ 4 + k3)), (4, .int w)] → W p l e rm_X1_measureLikeness s m args below meth c H1 locs1 0 0 Q (F0 m 3 ls1 [])) : W p l e rm_X1_measureLikeness s m args below meth c H locs 0 0 Q (F0 m 47 ls []) := by
  unfold mm_X1_measureLikeness_47 at h
  refine yy_loop h (fun (w : Int32) (τ : yy_T) => ∀ (H : Heap) (locs : List Loc) (ls : Array Slot), yy_Z D κ ext A s.heap τ H locs → lv_has ls 6 [(0, .ref (κ 4 + 49)), (1, .ref (κ 4 + k1)), (2, .ref (κ 4 + k2)), (3, .ref (κ 4 + k3)), (4, .int x4), (5, .int w)] → W p l e rm_X1_measureLikeness s m args below meth c H locs 0 0 Q (F0 m 47 ls [])) ?_ H locs ls Z hl
  intro w τ y hy hI hX H locs ls Z hl
  refine ww_X1_measureLikeness_47b hk1 hk2 hk3 C Z hl hy (fun w τ H locs ls ey Z hl => hI w τ ey H locs ls Z hl) (fun w τ H locs ls ey Z hl => ?_)
  · have h := hX _ _ ey
    exact ww_X1_measureLikeness_99 hk1 hk2 hk3 C Z (lv_sub hl [0, 1, 2, 3, 4] rfl) h kI
set_option maxHeartbeats 4000000 in
set_option maxRecDepth 100000 in
theorem ww_X1_measureLikeness_3b {k1 : Nat} {k2 : Nat} {k3 : Nat} {x4 : Int32} (hk1 : k1 ∈ yy_Eds) (hk2 : k2 ∈ yy_Eds) (hk3 : k3 ∈ yy_Tds) {res : ((Int32) ⊕ ((Unit))) × yy_T} {Q : State → Prop} (C : yy_C D κ p m c cX1_measureLikeness 6 s args RX1) (Z : yy_Z D κ ext A s.heap τ H locs) (hl : lv_has ls 6 [(0, .ref (κ 4 + 49)), (1, .ref (κ 4 + k1)), (2, .ref (κ 4 + k2)), (3, .ref (κ 4 + k3)), (4, .int x4)]) (h : mm_X1_measureLikeness_3b k1 k2 k3 x4 τ = some res)
    (kI : ∀ (w : Int32) (τ1 : yy_T) (H1 : Heap) (locs1 : List Loc) (ls1 : Array Slot), res = (.inl w, τ1) → yy_Z D κ ext A s.heap τ1 H1 locs1 → lv_has ls1 6 [(0, .ref (κ 4 + 49)), (1, .ref (κ 4 + k1)), (2, .ref (κ 4 + k2)), (3, .ref (κ 4 + k3)), (4, .int w)] → W p l e rm_X1_measureLikeness s m args below meth c H1 locs1 0 0 Q (F0 m 3 ls1 []))
    (kR0 : ∀ (w : Unit) (τ1 : yy_T) (H1 : Heap) (locs1 : List Loc) (ls1 : Array Slot), res = (.inr w, τ1) → yy_Z D κ ext A s.heap τ1 H1 locs1 → lv_has ls1 6 [] → W p l e rm_X1_measureLikeness s m args below meth c H1 locs1 0 0 Q (F0 m 105 ls1 [])) : W p l e rm_X1_measureLikeness s m args below meth c H locs 0 0 Q (F0 m 3 ls []) := by
  unfold mm_X1_measureLikeness_3b at h
  refine lv_iload C.1.1 C.1.2.1 dX1_measureLikeness_3 (lv_at hl 4 rfl) ?_
  refine lv_aload_n C.1.1 C.1.2.1 dX1_measureLikeness_5 rfl (lv_at hl 1 rfl) ?_
  refine yg_X2_2 C Z hk1 tw_115 dX1_measureLikeness_6 h (fun v1 h => ?_)
  refine yy_icmp_ge (tgt := 105) C dX1_measureLikeness_9 (by decide) h (fun h => ?_) (fun h => ?_)
  · exact kR0 _ _ _ _ _ (yy_rt_of h) Z (lv_sub hl [] rfl)
  · refine lv_aload_n C.1.1 C.1.2.1 dX1_measureLikeness_12 rfl (lv_at hl 3 rfl) ?_
    refine lv_iconst (v := 0) C.1.1 C.1.2.1 dX1_measureLikeness_13 (by decide) ?_
    refine lv_iload C.1.1 C.1.2.1 dX1_measureLikeness_14 (lv_at hl 4 rfl) ?_
    refine yy_cVi0 (As := [.int 0, .int x4]) (rest := []) (id := k3) (ci := 8) (q := (RX8, TX8, 11)) C Z (ss_X8_isLoose l D κ ext k3 0 x4 hk3) (yy_Tds_lt _ hk3) (yy_ent_Tds hk3 _) rfl tw_513 kw_X8_isLoose ⟨⟨rfl, rfl⟩, ⟨Nat.le_of_ble_eq_true rfl, Nat.le_of_ble_eq_true rfl⟩, Nat.le_of_ble_eq_true rfl, Nat.le_of_ble_eq_true rfl⟩ hl.1 rfl (Nat.le_of_ble_eq_true rfl) dX1_measureLikeness_16 h (fun r2 τ H locs Z h => ?_)
    refine yy_if_eq (tgt := 99) C dX1_measureLikeness_19 (by decide) h (fun h => ?_) (fun h => ?_)
    · exact ww_X1_measureLikeness_99 hk1 hk2 hk3 C Z (lv_sub hl [0, 1, 2, 3, 4] rfl) h kI
    · refine lv_aload_n C.1.1 C.1.2.1 dX1_measureLikeness_22 rfl (lv_at hl 0 rfl) ?_
      refine yg_X1_2 C Z tw_263 dX1_measureLikeness_23 ?_
      refine lv_aload_n C.1.1 C.1.2.1 dX1_measureLikeness_26 rfl (lv_at hl 1 rfl) ?_
      refine yg_X2_1 C Z hk1 tw_109 dX1_measureLikeness_27 ?_
      refine lv_iload C.1.1 C.1.2.1 dX1_measureLikeness_30 (lv_at hl 4 rfl) ?_
      refine lv_bipush (v := 8) C.1.1 C.1.2.1 dX1_measureLikeness_32 (by decide) ?_
      refine lv_imul C.1.1 C.1.2.1 dX1_measureLikeness_34 ?_
      refine lv_aload_n C.1.1 C.1.2.1 dX1_measureLikeness_35 rfl (lv_at hl 1 rfl) ?_
      refine lv_iload C.1.1 C.1.2.1 dX1_measureLikeness_36 (lv_at hl 4 rfl) ?_
      refine yy_cVi0 (As := [.int x4]) (rest := [.int (x4 * 8), .ref (κ 4 + (k1 + 2)), .ref (κ 4 + 61)]) (id := k1) (ci := 2) (q := (RX2, TX2, 3)) C Z (ss_X2_sizeOf l D κ ext k1 x4 hk1) (yy_Eds_lt _ hk1) (yy_ent_Eds hk1 _) rfl tw_523 kw_X2_sizeOf ⟨⟨rfl, rfl⟩, ⟨Nat.le_of_ble_eq_true rfl, Nat.le_of_ble_eq_true rfl⟩, Nat.le_of_ble_eq_true rfl, Nat.le_of_ble_eq_true rfl⟩ hl.1 rfl (Nat.le_of_ble_eq_true rfl) dX1_measureLikeness_38 h (fun r3 τ H locs Z h => ?_)
      refine yy_cVv0 (As := [.ref (κ 4 + (k1 + 2)), .int (x4 * 8), .int r3]) (rest := []) (id := 61) (ci := 0) (q := (RX0, TX0, 5)) C Z (ss_X0_setFirst l D κ ext 61 (k1 + 2) (x4 * 8) r3 (by decide) (yy_E2 _ hk1)) (yy_Crs_lt _ (by decide)) (yy_ent_Crs (by decide) _) rfl tw_527 kw_X0_setFirst ⟨⟨rfl, rfl⟩, ⟨Nat.le_of_ble_eq_true rfl, Nat.le_of_ble_eq_true rfl⟩, Nat.le_of_ble_eq_true rfl, Nat.le_of_ble_eq_true rfl⟩ hl.1 rfl (Nat.le_of_ble_eq_true rfl) dX1_measureLikeness_41 h (fun τ H locs Z h => ?_)
      refine lv_iconst (v := 0) C.1.1 C.1.2.1 dX1_measureLikeness_44 (by decide) ?_
      refine lv_istore (lv' := [(5, .int 0), (0, .ref (κ 4 + 49)), (1, .ref (κ 4 + k1)), (2, .ref (κ 4 + k2)), (3, .ref (κ 4 + k3)), (4, .int x4)]) C.1.1 C.1.2.1 dX1_measureLikeness_45 hl (by decide) rfl (fun ls hl => ?_)
      exact ww_X1_measureLikeness_47 hk1 hk2 hk3 C Z (lv_sub hl [1, 2, 3, 4, 5, 0] rfl) h kI
set_option maxHeartbeats 4000000 in
set_option maxRecDepth 100000 in
theorem ww_X1_measureLikeness_105 {res : Unit × yy_T} (C : yy_C D κ p m c cX1_measureLikeness 6 s args RX1) (hr : meth.sig.returnType = none) (hlk : meth.locks = false) (Z : yy_Z D κ ext A s.heap τ H locs) (hl : lv_has ls 6 []) (h : mm_X1_measureLikeness_105  τ = some res) : W p l e rm_X1_measureLikeness s m args below meth c H locs 0 0 (MQ below (yy_Qv D κ ext A res) args s 0 0 A) (F0 m 105 ls []) := by
  unfold mm_X1_measureLikeness_105 at h
  exact yy_vret C Z hr hlk dX1_measureLikeness_105 h
set_option maxHeartbeats 4000000 in
set_option maxRecDepth 100000 in
theorem ww_X1_measureLikeness_3 {k1 : Nat} {k2 : Nat} {k3 : Nat} {x4 : Int32} (hk1 : k1 ∈ yy_Eds) (hk2 : k2 ∈ yy_Eds) (hk3 : k3 ∈ yy_Tds) {res : Unit × yy_T} (C : yy_C D κ p m c cX1_measureLikeness 6 s args RX1) (hr : meth.sig.returnType = none) (hlk : meth.locks = false) (Z : yy_Z D κ ext A s.heap τ H locs) (hl : lv_has ls 6 [(0, .ref (κ 4 + 49)), (1, .ref (κ 4 + k1)), (2, .ref (κ 4 + k2)), (3, .ref (κ 4 + k3)), (4, .int x4)]) (h : mm_X1_measureLikeness_3 k1 k2 k3 x4 τ = some res) : W p l e rm_X1_measureLikeness s m args below meth c H locs 0 0 (MQ below (yy_Qv D κ ext A res) args s 0 0 A) (F0 m 3 ls []) := by
  unfold mm_X1_measureLikeness_3 at h
  refine yy_loop h (fun (w : Int32) (τ : yy_T) => ∀ (H : Heap) (locs : List Loc) (ls : Array Slot), yy_Z D κ ext A s.heap τ H locs → lv_has ls 6 [(0, .ref (κ 4 + 49)), (1, .ref (κ 4 + k1)), (2, .ref (κ 4 + k2)), (3, .ref (κ 4 + k3)), (4, .int w)] → W p l e rm_X1_measureLikeness s m args below meth c H locs 0 0 (MQ below (yy_Qv D κ ext A res) args s 0 0 A) (F0 m 3 ls [])) ?_ H locs ls Z hl
  intro w τ y hy hI hX H locs ls Z hl
  refine ww_X1_measureLikeness_3b hk1 hk2 hk3 C Z hl hy (fun w τ H locs ls ey Z hl => hI w τ ey H locs ls Z hl) (fun w τ H locs ls ey Z hl => ?_)
  · have h := hX _ _ ey
    exact ww_X1_measureLikeness_105  C hr hlk Z (lv_sub hl [] rfl) h
set_option maxHeartbeats 4000000 in
set_option maxRecDepth 100000 in
theorem ww_X1_measureLikeness_E {k1 : Nat} {k2 : Nat} {k3 : Nat} (hk1 : k1 ∈ yy_Eds) (hk2 : k2 ∈ yy_Eds) (hk3 : k3 ∈ yy_Tds) {res : Unit × yy_T} (C : yy_C D κ p m c cX1_measureLikeness 6 s args RX1) (hr : meth.sig.returnType = none) (hlk : meth.locks = false) (Z : yy_Z D κ ext A s.heap τ H locs) (hl : lv_has ls 6 [(0, .ref (κ 4 + 49)), (1, .ref (κ 4 + k1)), (2, .ref (κ 4 + k2)), (3, .ref (κ 4 + k3))]) (h : mm_X1_measureLikeness k1 k2 k3 τ = some res) : W p l e rm_X1_measureLikeness s m args below meth c H locs 0 0 (MQ below (yy_Qv D κ ext A res) args s 0 0 A) (F0 m 0 ls []) := by
  unfold mm_X1_measureLikeness at h
  refine lv_iconst (v := 0) C.1.1 C.1.2.1 dX1_measureLikeness_0 (by decide) ?_
  refine lv_istore (lv' := [(4, .int 0), (0, .ref (κ 4 + 49)), (1, .ref (κ 4 + k1)), (2, .ref (κ 4 + k2)), (3, .ref (κ 4 + k3))]) C.1.1 C.1.2.1 dX1_measureLikeness_1 hl (by decide) rfl (fun ls hl => ?_)
  exact ww_X1_measureLikeness_3 hk1 hk2 hk3 C hr hlk Z (lv_sub hl [1, 2, 3, 4, 0] rfl) h
set_option maxHeartbeats 4000000 in
set_option maxRecDepth 100000 in
theorem ss_X1_measureLikeness (l : Launch) (D : va_G) (κ : Nat → Nat) (ext : va_W) (k1 : Nat) (k2 : Nat) (k3 : Nat) (hk1 : k1 ∈ yy_Eds) (hk2 : k2 ∈ yy_Eds) (hk3 : k3 ∈ yy_Tds) : yy_Mv l D κ ext yX1_measureLikeness cX1_measureLikeness 6 none rm_X1_measureLikeness 0 0 [.ref (κ 4 + 49), .ref (κ 4 + k1), .ref (κ 4 + k2), .ref (κ 4 + k3)] (mm_X1_measureLikeness k1 k2 k3) := by
  intro sz τ res h
  refine yy_ofW (by decide) (Nat.le_of_ble_eq_true rfl) ?_
  intro p e s m args below meth c ls hsz E
  obtain ⟨C, hr, hlk, Z, hl⟩ := E
  subst hsz
  exact ww_X1_measureLikeness_E hk1 hk2 hk3 C hr hlk Z hl h
/-! MovedLines$Kinds.areAlike(II)Z -/
noncomputable def mm_X4_areAlike (x1 : Int32) (x2 : Int32) : yy_M Int32 :=
  yy_br (x1 < 0) (yy_rt 0) (yy_rF 50 2 fun v1 => yy_br (v1 ≤ x1) (yy_rt 0) (yy_br (x2 < 0) (yy_rt 0) (yy_rF 50 3 fun v2 => yy_br (v2 ≤ x2) (yy_rt 0) (yy_rA 51 14 x1 fun v3 => yy_rA 52 14 x2 fun v4 => yy_br (v3 = v4) (yy_rt 1) (yy_rt 0)))))
theorem kw_X4_areAlike : yy_wV RX4 yX4_areAlike cX4_areAlike 3 (some .boolean) 2 := ⟨⟨tw_475, tw_476, tw_57, tw_477⟩, by decide +kernel⟩
abbrev rm_X4_areAlike : Room := { frames := 0, cells := 0, slots := 0, locals := 0 }
set_option maxHeartbeats 4000000 in
set_option maxRecDepth 100000 in
theorem ww_X4_areAlike_E {x1 : Int32} {x2 : Int32} {res : Int32 × yy_T} (C : yy_C D κ p m c cX4_areAlike 3 s args RX4) (hr : meth.sig.returnType = (some .boolean)) (hlk : meth.locks = false) (Z : yy_Z D κ ext A s.heap τ H locs) (hl : lv_has ls 3 [(0, .ref (κ 4 + 50)), (1, .int x1), (2, .int x2)]) (h : mm_X4_areAlike x1 x2 τ = some res) : W p l e rm_X4_areAlike s m args below meth c H locs 0 0 (MQ below (yy_Qi D κ ext A res) args s 0 0 A) (F0 m 0 ls []) := by
  unfold mm_X4_areAlike at h
  refine lv_iload_n C.1.1 C.1.2.1 dX4_areAlike_0 rfl (lv_at hl 1 rfl) ?_
  refine yy_if_lt (tgt := 43) C dX4_areAlike_1 (by decide) h (fun h => ?_) (fun h => ?_)
  · refine lv_iconst (v := 0) C.1.1 C.1.2.1 dX4_areAlike_43 (by decide) ?_
    exact yy_iret C Z hr hlk rfl dX4_areAlike_44 h
  · refine lv_iload_n C.1.1 C.1.2.1 dX4_areAlike_4 rfl (lv_at hl 1 rfl) ?_
    refine lv_aload_n C.1.1 C.1.2.1 dX4_areAlike_5 rfl (lv_at hl 0 rfl) ?_
    refine yg_X4_2 C Z tw_188 dX4_areAlike_6 h (fun v1 h => ?_)
    refine yy_icmp_ge (tgt := 43) C dX4_areAlike_9 (by decide) h (fun h => ?_) (fun h => ?_)
    · refine lv_iconst (v := 0) C.1.1 C.1.2.1 dX4_areAlike_43 (by decide) ?_
      exact yy_iret C Z hr hlk rfl dX4_areAlike_44 h
    · refine lv_iload_n C.1.1 C.1.2.1 dX4_areAlike_12 rfl (lv_at hl 2 rfl) ?_
      refine yy_if_lt (tgt := 43) C dX4_areAlike_13 (by decide) h (fun h => ?_) (fun h => ?_)
      · refine lv_iconst (v := 0) C.1.1 C.1.2.1 dX4_areAlike_43 (by decide) ?_
        exact yy_iret C Z hr hlk rfl dX4_areAlike_44 h
      · refine lv_iload_n C.1.1 C.1.2.1 dX4_areAlike_16 rfl (lv_at hl 2 rfl) ?_
        refine lv_aload_n C.1.1 C.1.2.1 dX4_areAlike_17 rfl (lv_at hl 0 rfl) ?_
        refine yg_X4_3 C Z tw_191 dX4_areAlike_18 h (fun v2 h => ?_)
        refine yy_icmp_ge (tgt := 43) C dX4_areAlike_21 (by decide) h (fun h => ?_) (fun h => ?_)
        · refine lv_iconst (v := 0) C.1.1 C.1.2.1 dX4_areAlike_43 (by decide) ?_
          exact yy_iret C Z hr hlk rfl dX4_areAlike_44 h
        · refine lv_aload_n C.1.1 C.1.2.1 dX4_areAlike_24 rfl (lv_at hl 0 rfl) ?_
          refine yg_X4_0 C Z tw_182 dX4_areAlike_25 ?_
          refine lv_iload_n C.1.1 C.1.2.1 dX4_areAlike_28 rfl (lv_at hl 1 rfl) ?_
          refine yy_iald C Z (by decide) rfl dX4_areAlike_29 h (fun v3 h => ?_)
          refine lv_aload_n C.1.1 C.1.2.1 dX4_areAlike_30 rfl (lv_at hl 0 rfl) ?_
          refine yg_X4_1 C Z tw_185 dX4_areAlike_31 ?_
          refine lv_iload_n C.1.1 C.1.2.1 dX4_areAlike_34 rfl (lv_at hl 2 rfl) ?_
          refine yy_iald C Z (by decide) rfl dX4_areAlike_35 h (fun v4 h => ?_)
          refine yy_icmp_ne (tgt := 43) C dX4_areAlike_36 (by decide) h (fun h => ?_) (fun h => ?_)
          · refine lv_iconst (v := 0) C.1.1 C.1.2.1 dX4_areAlike_43 (by decide) ?_
            exact yy_iret C Z hr hlk rfl dX4_areAlike_44 h
          · refine lv_iconst (v := 1) C.1.1 C.1.2.1 dX4_areAlike_39 (by decide) ?_
            refine lv_goto (tgt := 44) C.1.1 C.1.2.1 dX4_areAlike_40 (by decide) ?_
            exact yy_iret C Z hr hlk rfl dX4_areAlike_44 h
set_option maxHeartbeats 4000000 in
set_option maxRecDepth 100000 in
theorem ss_X4_areAlike (l : Launch) (D : va_G) (κ : Nat → Nat) (ext : va_W) (x1 : Int32) (x2 : Int32) : yy_Mi l D κ ext yX4_areAlike cX4_areAlike 3 (some .boolean) rm_X4_areAlike 0 0 [.ref (κ 4 + 50), .int x1, .int x2] (mm_X4_areAlike x1 x2) := by
  intro sz τ res h
  refine yy_ofW (by decide) (Nat.le_of_ble_eq_true rfl) ?_
  intro p e s m args below meth c ls hsz E
  obtain ⟨C, hr, hlk, Z, hl⟩ := E
  subst hsz
  exact ww_X4_areAlike_E  C hr hlk Z hl h
/-! MovedLines$Comparer.looseRow(IILMovedLines$Told;)I -/
noncomputable def mm_X1_looseRow_3b (x1 : Int32) (x2 : Int32) (k3 : Nat) (x4 : Int32) : yy_M ((Int32) ⊕ ((Int32))) :=
  yy_br (14 ≤ x4) (yy_rt (.inr x4)) (yy_cl (mm_X4_areAlike (x1 + x4) (x2 + x4)) (fun r1 => yy_br (r1 = 0) (yy_rt (.inr x4)) (yy_cl (mm_X8_isLoose k3 0 (x1 + x4)) (fun r2 => yy_br (r2 = 0) (yy_rt (.inr x4)) (yy_cl (mm_X8_isLoose k3 1 (x2 + x4)) (fun r3 => yy_br (r3 = 0) (yy_rt (.inr x4)) (yy_rt (.inl (x4 + 1)))))))))
noncomputable def mm_X1_looseRow_58 (x4 : Int32) : yy_M Int32 :=
  yy_rt x4
noncomputable def mm_X1_looseRow_3 (x1 : Int32) (x2 : Int32) (k3 : Nat) (x4 : Int32) : yy_M Int32 :=
  yy_cl (yy_lp (fun (w : Int32) => mm_X1_looseRow_3b x1 x2 k3 w) x4) (fun w => mm_X1_looseRow_58 w)
noncomputable def mm_X1_looseRow (x1 : Int32) (x2 : Int32) (k3 : Nat) : yy_M Int32 :=
  mm_X1_looseRow_3 x1 x2 k3 0
theorem kw_X1_looseRow : yy_wV RX1 yX1_looseRow cX1_looseRow 5 (some .int) 3 := ⟨⟨tw_510, tw_13, tw_56, tw_511⟩, by decide +kernel⟩
abbrev rm_X1_looseRow : Room := { frames := 1, cells := 0, slots := 0, locals := 22 }
set_option maxHeartbeats 4000000 in
set_option maxRecDepth 100000 in
theorem ww_X1_looseRow_3b {x1 : Int32} {x2 : Int32} {k3 : Nat} {x4 : Int32} (hk3 : k3 ∈ yy_Tds) {res : ((Int32) ⊕ ((Int32))) × yy_T} {Q : State → Prop} (C : yy_C D κ p m c cX1_looseRow 5 s args RX1) (Z : yy_Z D κ ext A s.heap τ H locs) (hl : lv_has ls 5 [(0, .ref (κ 4 + 49)), (1, .int x1), (2, .int x2), (3, .ref (κ 4 + k3)), (4, .int x4)]) (h : mm_X1_looseRow_3b x1 x2 k3 x4 τ = some res)
    (kI : ∀ (w : Int32) (τ1 : yy_T) (H1 : Heap) (locs1 : List Loc) (ls1 : Array Slot), res = (.inl w, τ1) → yy_Z D κ ext A s.heap τ1 H1 locs1 → lv_has ls1 5 [(0, .ref (κ 4 + 49)), (1, .int x1), (2, .int x2), (3, .ref (κ 4 + k3)), (4, .int w)] → W p l e rm_X1_looseRow s m args below meth c H1 locs1 0 0 Q (F0 m 3 ls1 []))
    (kR0 : ∀ (w : Int32) (τ1 : yy_T) (H1 : Heap) (locs1 : List Loc) (ls1 : Array Slot), res = (.inr w, τ1) → yy_Z D κ ext A s.heap τ1 H1 locs1 → lv_has ls1 5 [(4, .int w)] → W p l e rm_X1_looseRow s m args below meth c H1 locs1 0 0 Q (F0 m 58 ls1 [])) : W p l e rm_X1_looseRow s m args below meth c H locs 0 0 Q (F0 m 3 ls []) := by
  unfold mm_X1_looseRow_3b at h
  refine lv_iload C.1.1 C.1.2.1 dX1_looseRow_3 (lv_at hl 4 rfl) ?_
  refine lv_bipush (v := 14) C.1.1 C.1.2.1 dX1_looseRow_5 (by decide) ?_
  refine yy_icmp_ge (tgt := 58) C dX1_looseRow_7 (by decide) h (fun h => ?_) (fun h => ?_)
  · exact kR0 _ _ _ _ _ (yy_rt_of h) Z (lv_sub hl [4] rfl)
  · refine lv_aload_n C.1.1 C.1.2.1 dX1_looseRow_10 rfl (lv_at hl 0 rfl) ?_
    refine yg_X1_0 C Z tw_261 dX1_looseRow_11 ?_
    refine lv_iload_n C.1.1 C.1.2.1 dX1_looseRow_14 rfl (lv_at hl 1 rfl) ?_
    refine lv_iload C.1.1 C.1.2.1 dX1_looseRow_15 (lv_at hl 4 rfl) ?_
    refine lv_iadd C.1.1 C.1.2.1 dX1_looseRow_17 ?_
    refine lv_iload_n C.1.1 C.1.2.1 dX1_looseRow_18 rfl (lv_at hl 2 rfl) ?_
    refine lv_iload C.1.1 C.1.2.1 dX1_looseRow_19 (lv_at hl 4 rfl) ?_
    refine lv_iadd C.1.1 C.1.2.1 dX1_looseRow_21 ?_
    refine yy_cVi0 (As := [.int (x1 + x4), .int (x2 + x4)]) (rest := []) (id := 50) (ci := 4) (q := (RX4, TX4, 4)) C Z (ss_X4_areAlike l D κ ext (x1 + x4) (x2 + x4)) (by decide) (yy_ent_50 _) rfl tw_512 kw_X4_areAlike ⟨⟨rfl, rfl⟩, ⟨Nat.le_of_ble_eq_true rfl, Nat.le_of_ble_eq_true rfl⟩, Nat.le_of_ble_eq_true rfl, Nat.le_of_ble_eq_true rfl⟩ hl.1 rfl (Nat.le_of_ble_eq_true rfl) dX1_looseRow_22 h (fun r1 τ H locs Z h => ?_)
    refine yy_if_eq (tgt := 58) C dX1_looseRow_25 (by decide) h (fun h => ?_) (fun h => ?_)
    · exact kR0 _ _ _ _ _ (yy_rt_of h) Z (lv_sub hl [4] rfl)
    · refine lv_aload_n C.1.1 C.1.2.1 dX1_looseRow_28 rfl (lv_at hl 3 rfl) ?_
      refine lv_iconst (v := 0) C.1.1 C.1.2.1 dX1_looseRow_29 (by decide) ?_
      refine lv_iload_n C.1.1 C.1.2.1 dX1_looseRow_30 rfl (lv_at hl 1 rfl) ?_
      refine lv_iload C.1.1 C.1.2.1 dX1_looseRow_31 (lv_at hl 4 rfl) ?_
      refine lv_iadd C.1.1 C.1.2.1 dX1_looseRow_33 ?_
      refine yy_cVi0 (As := [.int 0, .int (x1 + x4)]) (rest := []) (id := k3) (ci := 8) (q := (RX8, TX8, 11)) C Z (ss_X8_isLoose l D κ ext k3 0 (x1 + x4) hk3) (yy_Tds_lt _ hk3) (yy_ent_Tds hk3 _) rfl tw_513 kw_X8_isLoose ⟨⟨rfl, rfl⟩, ⟨Nat.le_of_ble_eq_true rfl, Nat.le_of_ble_eq_true rfl⟩, Nat.le_of_ble_eq_true rfl, Nat.le_of_ble_eq_true rfl⟩ hl.1 rfl (Nat.le_of_ble_eq_true rfl) dX1_looseRow_34 h (fun r2 τ H locs Z h => ?_)
      refine yy_if_eq (tgt := 58) C dX1_looseRow_37 (by decide) h (fun h => ?_) (fun h => ?_)
      · exact kR0 _ _ _ _ _ (yy_rt_of h) Z (lv_sub hl [4] rfl)
      · refine lv_aload_n C.1.1 C.1.2.1 dX1_looseRow_40 rfl (lv_at hl 3 rfl) ?_
        refine lv_iconst (v := 1) C.1.1 C.1.2.1 dX1_looseRow_41 (by decide) ?_
        refine lv_iload_n C.1.1 C.1.2.1 dX1_looseRow_42 rfl (lv_at hl 2 rfl) ?_
        refine lv_iload C.1.1 C.1.2.1 dX1_looseRow_43 (lv_at hl 4 rfl) ?_
        refine lv_iadd C.1.1 C.1.2.1 dX1_looseRow_45 ?_
        refine yy_cVi0 (As := [.int 1, .int (x2 + x4)]) (rest := []) (id := k3) (ci := 8) (q := (RX8, TX8, 11)) C Z (ss_X8_isLoose l D κ ext k3 1 (x2 + x4) hk3) (yy_Tds_lt _ hk3) (yy_ent_Tds hk3 _) rfl tw_513 kw_X8_isLoose ⟨⟨rfl, rfl⟩, ⟨Nat.le_of_ble_eq_true rfl, Nat.le_of_ble_eq_true rfl⟩, Nat.le_of_ble_eq_true rfl, Nat.le_of_ble_eq_true rfl⟩ hl.1 rfl (Nat.le_of_ble_eq_true rfl) dX1_looseRow_46 h (fun r3 τ H locs Z h => ?_)
        refine yy_if_eq (tgt := 58) C dX1_looseRow_49 (by decide) h (fun h => ?_) (fun h => ?_)
        · exact kR0 _ _ _ _ _ (yy_rt_of h) Z (lv_sub hl [4] rfl)
        · refine lv_iinc (v := x4 + 1) (lv' := [(4, .int (x4 + 1)), (0, .ref (κ 4 + 49)), (1, .int x1), (2, .int x2), (3, .ref (κ 4 + k3))]) C.1.1 C.1.2.1 dX1_looseRow_52 hl (k := 4) rfl (by rfl) (by decide) rfl (fun ls hl => ?_)
          refine lv_goto (tgt := 3) C.1.1 C.1.2.1 dX1_looseRow_55 (by decide) ?_
          exact kI _ _ _ _ _ (yy_rt_of h) Z (lv_sub hl [1, 2, 3, 4, 0] rfl)
set_option maxHeartbeats 4000000 in
set_option maxRecDepth 100000 in
theorem ww_X1_looseRow_58 {x4 : Int32} {res : Int32 × yy_T} (C : yy_C D κ p m c cX1_looseRow 5 s args RX1) (hr : meth.sig.returnType = (some .int)) (hlk : meth.locks = false) (Z : yy_Z D κ ext A s.heap τ H locs) (hl : lv_has ls 5 [(4, .int x4)]) (h : mm_X1_looseRow_58 x4 τ = some res) : W p l e rm_X1_looseRow s m args below meth c H locs 0 0 (MQ below (yy_Qi D κ ext A res) args s 0 0 A) (F0 m 58 ls []) := by
  unfold mm_X1_looseRow_58 at h
  refine lv_iload C.1.1 C.1.2.1 dX1_looseRow_58 (lv_at hl 0 rfl) ?_
  exact yy_iret C Z hr hlk rfl dX1_looseRow_60 h
set_option maxHeartbeats 4000000 in
set_option maxRecDepth 100000 in
theorem ww_X1_looseRow_3 {x1 : Int32} {x2 : Int32} {k3 : Nat} {x4 : Int32} (hk3 : k3 ∈ yy_Tds) {res : Int32 × yy_T} (C : yy_C D κ p m c cX1_looseRow 5 s args RX1) (hr : meth.sig.returnType = (some .int)) (hlk : meth.locks = false) (Z : yy_Z D κ ext A s.heap τ H locs) (hl : lv_has ls 5 [(0, .ref (κ 4 + 49)), (1, .int x1), (2, .int x2), (3, .ref (κ 4 + k3)), (4, .int x4)]) (h : mm_X1_looseRow_3 x1 x2 k3 x4 τ = some res) : W p l e rm_X1_looseRow s m args below meth c H locs 0 0 (MQ below (yy_Qi D κ ext A res) args s 0 0 A) (F0 m 3 ls []) := by
  unfold mm_X1_looseRow_3 at h
  refine yy_loop h (fun (w : Int32) (τ : yy_T) => ∀ (H : Heap) (locs : List Loc) (ls : Array Slot), yy_Z D κ ext A s.heap τ H locs → lv_has ls 5 [(0, .ref (κ 4 + 49)), (1, .int x1), (2, .int x2), (3, .ref (κ 4 + k3)), (4, .int w)] → W p l e rm_X1_looseRow s m args below meth c H locs 0 0 (MQ below (yy_Qi D κ ext A res) args s 0 0 A) (F0 m 3 ls [])) ?_ H locs ls Z hl
  intro w τ y hy hI hX H locs ls Z hl
  refine ww_X1_looseRow_3b hk3 C Z hl hy (fun w τ H locs ls ey Z hl => hI w τ ey H locs ls Z hl) (fun w τ H locs ls ey Z hl => ?_)
  · have h := hX _ _ ey
    exact ww_X1_looseRow_58  C hr hlk Z (lv_sub hl [0] rfl) h
set_option maxHeartbeats 4000000 in
set_option maxRecDepth 100000 in
theorem ww_X1_looseRow_E {x1 : Int32} {x2 : Int32} {k3 : Nat} (hk3 : k3 ∈ yy_Tds) {res : Int32 × yy_T} (C : yy_C D κ p m c cX1_looseRow 5 s args RX1) (hr : meth.sig.returnType = (some .int)) (hlk : meth.locks = false) (Z : yy_Z D κ ext A s.heap τ H locs) (hl : lv_has ls 5 [(0, .ref (κ 4 + 49)), (1, .int x1), (2, .int x2), (3, .ref (κ 4 + k3))]) (h : mm_X1_looseRow x1 x2 k3 τ = some res) : W p l e rm_X1_looseRow s m args below meth c H locs 0 0 (MQ below (yy_Qi D κ ext A res) args s 0 0 A) (F0 m 0 ls []) := by
  unfold mm_X1_looseRow at h
  refine lv_iconst (v := 0) C.1.1 C.1.2.1 dX1_looseRow_0 (by decide) ?_
  refine lv_istore (lv' := [(4, .int 0), (0, .ref (κ 4 + 49)), (1, .int x1), (2, .int x2), (3, .ref (κ 4 + k3))]) C.1.1 C.1.2.1 dX1_looseRow_1 hl (by decide) rfl (fun ls hl => ?_)
  exact ww_X1_looseRow_3 hk3 C hr hlk Z (lv_sub hl [1, 2, 3, 4, 0] rfl) h
set_option maxHeartbeats 4000000 in
set_option maxRecDepth 100000 in
theorem ss_X1_looseRow (l : Launch) (D : va_G) (κ : Nat → Nat) (ext : va_W) (x1 : Int32) (x2 : Int32) (k3 : Nat) (hk3 : k3 ∈ yy_Tds) : yy_Mi l D κ ext yX1_looseRow cX1_looseRow 5 (some .int) rm_X1_looseRow 0 0 [.ref (κ 4 + 49), .int x1, .int x2, .ref (κ 4 + k3)] (mm_X1_looseRow x1 x2 k3) := by
  intro sz τ res h
  refine yy_ofW (by decide) (Nat.le_of_ble_eq_true rfl) ?_
  intro p e s m args below meth c ls hsz E
  obtain ⟨C, hr, hlk, Z, hl⟩ := E
  subst hsz
  exact ww_X1_looseRow_E hk3 C hr hlk Z hl h
/-! MovedLines$Told.moveBlock(III)V -/
noncomputable def mm_X8_moveBlock_43b (k0 : Nat) (x1 : Int32) (x2 : Int32) (x3 : Int32) (x4 : Int32) : yy_M ((Int32) ⊕ ((Unit))) :=
  yy_br (x3 ≤ x4) (yy_rt (.inr ())) (yy_rF k0 7 fun v5 => yy_cl (mm_X8_join k0 1 (x1 + x4) (x2 + x4) v5) (fun _ => yy_rt (.inl (x4 + 1))))
noncomputable def mm_X8_moveBlock_72 (k0 : Nat) : yy_M Unit :=
  yy_rF k0 7 fun v6 => yy_wF k0 7 (v6 + 1) (yy_rt ())
noncomputable def mm_X8_moveBlock_43 (k0 : Nat) (x1 : Int32) (x2 : Int32) (x3 : Int32) (x4 : Int32) : yy_M Unit :=
  yy_cl (yy_lp (fun (w : Int32) => mm_X8_moveBlock_43b k0 x1 x2 x3 w) x4) (fun w => mm_X8_moveBlock_72 k0)
noncomputable def mm_X8_moveBlock (k0 : Nat) (x1 : Int32) (x2 : Int32) (x3 : Int32) : yy_M Unit :=
  yy_rF k0 7 fun v1 => yy_br (v1 < 14) (yy_rF k0 7 fun v2 => yy_wA (k0 + 11) 14 v2 x1 (yy_rF k0 7 fun v3 => yy_wA (k0 + 12) 14 v3 x2 (yy_rF k0 7 fun v4 => yy_wA (k0 + 13) 14 v4 x3 (mm_X8_moveBlock_43 k0 x1 x2 x3 0)))) (yy_rt ())
theorem kw_X8_moveBlock : yy_wV RX8 yX8_moveBlock cX8_moveBlock 5 none 3 := ⟨⟨tw_515, tw_516, tw_60, tw_517⟩, by decide +kernel⟩
abbrev rm_X8_moveBlock : Room := { frames := 2, cells := 0, slots := 0, locals := 46 }
set_option maxHeartbeats 4000000 in
set_option maxRecDepth 100000 in
theorem ww_X8_moveBlock_43b {k0 : Nat} {x1 : Int32} {x2 : Int32} {x3 : Int32} {x4 : Int32} (hk0 : k0 ∈ yy_Tds) {res : ((Int32) ⊕ ((Unit))) × yy_T} {Q : State → Prop} (C : yy_C D κ p m c cX8_moveBlock 5 s args RX8) (Z : yy_Z D κ ext A s.heap τ H locs) (hl : lv_has ls 5 [(0, .ref (κ 4 + k0)), (1, .int x1), (2, .int x2), (3, .int x3), (4, .int x4)]) (h : mm_X8_moveBlock_43b k0 x1 x2 x3 x4 τ = some res)
    (kI : ∀ (w : Int32) (τ1 : yy_T) (H1 : Heap) (locs1 : List Loc) (ls1 : Array Slot), res = (.inl w, τ1) → yy_Z D κ ext A s.heap τ1 H1 locs1 → lv_has ls1 5 [(0, .ref (κ 4 + k0)), (1, .int x1), (2, .int x2), (3, .int x3), (4, .int w)] → W p l e rm_X8_moveBlock s m args below meth c H1 locs1 0 0 Q (F0 m 43 ls1 []))
    (kR0 : ∀ (w : Unit) (τ1 : yy_T) (H1 : Heap) (locs1 : List Loc) (ls1 : Array Slot), res = (.inr w, τ1) → yy_Z D κ ext A s.heap τ1 H1 locs1 → lv_has ls1 5 [(0, .ref (κ 4 + k0))] → W p l e rm_X8_moveBlock s m args below meth c H1 locs1 0 0 Q (F0 m 72 ls1 [])) : W p l e rm_X8_moveBlock s m args below meth c H locs 0 0 Q (F0 m 43 ls []) := by
  unfold mm_X8_moveBlock_43b at h
  refine lv_iload C.1.1 C.1.2.1 dX8_moveBlock_43 (lv_at hl 4 rfl) ?_
  refine lv_iload_n C.1.1 C.1.2.1 dX8_moveBlock_45 rfl (lv_at hl 3 rfl) ?_
  refine yy_icmp_ge (tgt := 72) C dX8_moveBlock_46 (by decide) h (fun h => ?_) (fun h => ?_)
  · exact kR0 _ _ _ _ _ (yy_rt_of h) Z (lv_sub hl [0] rfl)
  · refine lv_aload_n C.1.1 C.1.2.1 dX8_moveBlock_49 rfl (lv_at hl 0 rfl) ?_
    refine lv_iconst (v := 1) C.1.1 C.1.2.1 dX8_moveBlock_50 (by decide) ?_
    refine lv_iload_n C.1.1 C.1.2.1 dX8_moveBlock_51 rfl (lv_at hl 1 rfl) ?_
    refine lv_iload C.1.1 C.1.2.1 dX8_moveBlock_52 (lv_at hl 4 rfl) ?_
    refine lv_iadd C.1.1 C.1.2.1 dX8_moveBlock_54 ?_
    refine lv_iload_n C.1.1 C.1.2.1 dX8_moveBlock_55 rfl (lv_at hl 2 rfl) ?_
    refine lv_iload C.1.1 C.1.2.1 dX8_moveBlock_56 (lv_at hl 4 rfl) ?_
    refine lv_iadd C.1.1 C.1.2.1 dX8_moveBlock_58 ?_
    refine lv_aload_n C.1.1 C.1.2.1 dX8_moveBlock_59 rfl (lv_at hl 0 rfl) ?_
    refine yg_X8_7 C Z hk0 tw_297 dX8_moveBlock_60 h (fun v5 h => ?_)
    refine yy_cVv0 (As := [.int 1, .int (x1 + x4), .int (x2 + x4), .int v5]) (rest := []) (id := k0) (ci := 8) (q := (RX8, TX8, 11)) C Z (ss_X8_join l D κ ext k0 1 (x1 + x4) (x2 + x4) v5 hk0) (yy_Tds_lt _ hk0) (yy_ent_Tds hk0 _) rfl tw_518 kw_X8_join ⟨⟨rfl, rfl⟩, ⟨Nat.le_of_ble_eq_true rfl, Nat.le_of_ble_eq_true rfl⟩, Nat.le_of_ble_eq_true rfl, Nat.le_of_ble_eq_true rfl⟩ hl.1 rfl (Nat.le_of_ble_eq_true rfl) dX8_moveBlock_63 h (fun τ H locs Z h => ?_)
    refine lv_iinc (v := x4 + 1) (lv' := [(4, .int (x4 + 1)), (0, .ref (κ 4 + k0)), (1, .int x1), (2, .int x2), (3, .int x3)]) C.1.1 C.1.2.1 dX8_moveBlock_66 hl (k := 4) rfl (by rfl) (by decide) rfl (fun ls hl => ?_)
    refine lv_goto (tgt := 43) C.1.1 C.1.2.1 dX8_moveBlock_69 (by decide) ?_
    exact kI _ _ _ _ _ (yy_rt_of h) Z (lv_sub hl [1, 2, 3, 4, 0] rfl)
set_option maxHeartbeats 4000000 in
set_option maxRecDepth 100000 in
theorem ww_X8_moveBlock_72 {k0 : Nat} (hk0 : k0 ∈ yy_Tds) {res : Unit × yy_T} (C : yy_C D κ p m c cX8_moveBlock 5 s args RX8) (hr : meth.sig.returnType = none) (hlk : meth.locks = false) (Z : yy_Z D κ ext A s.heap τ H locs) (hl : lv_has ls 5 [(0, .ref (κ 4 + k0))]) (h : mm_X8_moveBlock_72 k0 τ = some res) : W p l e rm_X8_moveBlock s m args below meth c H locs 0 0 (MQ below (yy_Qv D κ ext A res) args s 0 0 A) (F0 m 72 ls []) := by
  unfold mm_X8_moveBlock_72 at h
  refine lv_aload_n C.1.1 C.1.2.1 dX8_moveBlock_72 rfl (lv_at hl 0 rfl) ?_
  refine lv_dup C.1.1 C.1.2.1 dX8_moveBlock_73 rfl ?_
  refine yg_X8_7 C Z hk0 tw_297 dX8_moveBlock_74 h (fun v6 h => ?_)
  refine lv_iconst (v := 1) C.1.1 C.1.2.1 dX8_moveBlock_77 (by decide) ?_
  refine lv_iadd C.1.1 C.1.2.1 dX8_moveBlock_78 ?_
  refine yp_X8_7 C Z hk0 tw_297 dX8_moveBlock_79 h (fun H locs τ Z h => ?_)
  exact yy_vret C Z hr hlk dX8_moveBlock_82 h
set_option maxHeartbeats 4000000 in
set_option maxRecDepth 100000 in
theorem ww_X8_moveBlock_43 {k0 : Nat} {x1 : Int32} {x2 : Int32} {x3 : Int32} {x4 : Int32} (hk0 : k0 ∈ yy_Tds) {res : Unit × yy_T} (C : yy_C D κ p m c cX8_moveBlock 5 s args RX8) (hr : meth.sig.returnType = none) (hlk : meth.locks = false) (Z : yy_Z D κ ext A s.heap τ H locs) (hl : lv_has ls 5 [(0, .ref (κ 4 + k0)), (1, .int x1), (2, .int x2), (3, .int x3), (4, .int x4)]) (h : mm_X8_moveBlock_43 k0 x1 x2 x3 x4 τ = some res) : W p l e rm_X8_moveBlock s m args below meth c H locs 0 0 (MQ below (yy_Qv D κ ext A res) args s 0 0 A) (F0 m 43 ls []) := by
  unfold mm_X8_moveBlock_43 at h
  refine yy_loop h (fun (w : Int32) (τ : yy_T) => ∀ (H : Heap) (locs : List Loc) (ls : Array Slot), yy_Z D κ ext A s.heap τ H locs → lv_has ls 5 [(0, .ref (κ 4 + k0)), (1, .int x1), (2, .int x2), (3, .int x3), (4, .int w)] → W p l e rm_X8_moveBlock s m args below meth c H locs 0 0 (MQ below (yy_Qv D κ ext A res) args s 0 0 A) (F0 m 43 ls [])) ?_ H locs ls Z hl
  intro w τ y hy hI hX H locs ls Z hl
  refine ww_X8_moveBlock_43b hk0 C Z hl hy (fun w τ H locs ls ey Z hl => hI w τ ey H locs ls Z hl) (fun w τ H locs ls ey Z hl => ?_)
  · have h := hX _ _ ey
    exact ww_X8_moveBlock_72 hk0 C hr hlk Z (lv_sub hl [0] rfl) h
set_option maxHeartbeats 4000000 in
set_option maxRecDepth 100000 in
theorem ww_X8_moveBlock_E {k0 : Nat} {x1 : Int32} {x2 : Int32} {x3 : Int32} (hk0 : k0 ∈ yy_Tds) {res : Unit × yy_T} (C : yy_C D κ p m c cX8_moveBlock 5 s args RX8) (hr : meth.sig.returnType = none) (hlk : meth.locks = false) (Z : yy_Z D κ ext A s.heap τ H locs) (hl : lv_has ls 5 [(0, .ref (κ 4 + k0)), (1, .int x1), (2, .int x2), (3, .int x3)]) (h : mm_X8_moveBlock k0 x1 x2 x3 τ = some res) : W p l e rm_X8_moveBlock s m args below meth c H locs 0 0 (MQ below (yy_Qv D κ ext A res) args s 0 0 A) (F0 m 0 ls []) := by
  unfold mm_X8_moveBlock at h
  refine lv_aload_n C.1.1 C.1.2.1 dX8_moveBlock_0 rfl (lv_at hl 0 rfl) ?_
  refine yg_X8_7 C Z hk0 tw_297 dX8_moveBlock_1 h (fun v1 h => ?_)
  refine lv_bipush (v := 14) C.1.1 C.1.2.1 dX8_moveBlock_4 (by decide) ?_
  refine yy_icmp_lt (tgt := 10) C dX8_moveBlock_6 (by decide) h (fun h => ?_) (fun h => ?_)
  · refine lv_aload_n C.1.1 C.1.2.1 dX8_moveBlock_10 rfl (lv_at hl 0 rfl) ?_
    refine yg_X8_4 C Z hk0 tw_291 dX8_moveBlock_11 ?_
    refine lv_aload_n C.1.1 C.1.2.1 dX8_moveBlock_14 rfl (lv_at hl 0 rfl) ?_
    refine yg_X8_7 C Z hk0 tw_297 dX8_moveBlock_15 h (fun v2 h => ?_)
    refine lv_iload_n C.1.1 C.1.2.1 dX8_moveBlock_18 rfl (lv_at hl 1 rfl) ?_
    refine yy_iast C Z (yy_D11 _ hk0) (yy_lenD11 _ hk0) dX8_moveBlock_19 h (fun H locs τ Z h => ?_)
    refine lv_aload_n C.1.1 C.1.2.1 dX8_moveBlock_20 rfl (lv_at hl 0 rfl) ?_
    refine yg_X8_5 C Z hk0 tw_293 dX8_moveBlock_21 ?_
    refine lv_aload_n C.1.1 C.1.2.1 dX8_moveBlock_24 rfl (lv_at hl 0 rfl) ?_
    refine yg_X8_7 C Z hk0 tw_297 dX8_moveBlock_25 h (fun v3 h => ?_)
    refine lv_iload_n C.1.1 C.1.2.1 dX8_moveBlock_28 rfl (lv_at hl 2 rfl) ?_
    refine yy_iast C Z (yy_D12 _ hk0) (yy_lenD12 _ hk0) dX8_moveBlock_29 h (fun H locs τ Z h => ?_)
    refine lv_aload_n C.1.1 C.1.2.1 dX8_moveBlock_30 rfl (lv_at hl 0 rfl) ?_
    refine yg_X8_6 C Z hk0 tw_295 dX8_moveBlock_31 ?_
    refine lv_aload_n C.1.1 C.1.2.1 dX8_moveBlock_34 rfl (lv_at hl 0 rfl) ?_
    refine yg_X8_7 C Z hk0 tw_297 dX8_moveBlock_35 h (fun v4 h => ?_)
    refine lv_iload_n C.1.1 C.1.2.1 dX8_moveBlock_38 rfl (lv_at hl 3 rfl) ?_
    refine yy_iast C Z (yy_D13 _ hk0) (yy_lenD13 _ hk0) dX8_moveBlock_39 h (fun H locs τ Z h => ?_)
    refine lv_iconst (v := 0) C.1.1 C.1.2.1 dX8_moveBlock_40 (by decide) ?_
    refine lv_istore (lv' := [(4, .int 0), (0, .ref (κ 4 + k0)), (1, .int x1), (2, .int x2), (3, .int x3)]) C.1.1 C.1.2.1 dX8_moveBlock_41 hl (by decide) rfl (fun ls hl => ?_)
    exact ww_X8_moveBlock_43 hk0 C hr hlk Z (lv_sub hl [1, 2, 3, 4, 0] rfl) h
  · exact yy_vret C Z hr hlk dX8_moveBlock_9 h
set_option maxHeartbeats 4000000 in
set_option maxRecDepth 100000 in
theorem ss_X8_moveBlock (l : Launch) (D : va_G) (κ : Nat → Nat) (ext : va_W) (k0 : Nat) (x1 : Int32) (x2 : Int32) (x3 : Int32) (hk0 : k0 ∈ yy_Tds) : yy_Mv l D κ ext yX8_moveBlock cX8_moveBlock 5 none rm_X8_moveBlock 0 0 [.ref (κ 4 + k0), .int x1, .int x2, .int x3] (mm_X8_moveBlock k0 x1 x2 x3) := by
  intro sz τ res h
  refine yy_ofW (by decide) (Nat.le_of_ble_eq_true rfl) ?_
  intro p e s m args below meth c ls hsz E
  obtain ⟨C, hr, hlk, Z, hl⟩ := E
  subst hsz
  exact ww_X8_moveBlock_E hk0 C hr hlk Z hl h
/-! MovedLines$Comparer.moveLongest(LMovedLines$Told;)Z -/
noncomputable def mm_X1_moveLongest_64 (k1 : Nat) (x2 : Int32) (x3 : Int32) (x4 : Int32) (x5 : Int32) (x6 : Int32) : yy_M ((Int32 × Int32 × Int32 × Int32) ⊕ ((Int32 × Int32 × Int32))) :=
  yy_rt (.inl (x2, x3, x4, (x6 + 1)))
noncomputable def mm_X1_moveLongest_25b (k1 : Nat) (x2 : Int32) (x3 : Int32) (x4 : Int32) (x5 : Int32) (x6 : Int32) : yy_M ((Int32 × Int32 × Int32 × Int32) ⊕ ((Int32 × Int32 × Int32))) :=
  yy_rF 50 3 fun v2 => yy_br (v2 ≤ x6) (yy_rt (.inr (x2, x3, x4))) (yy_cl (mm_X1_looseRow x5 x6 k1) (fun r3 => yy_br (r3 ≤ x2) (mm_X1_moveLongest_64 k1 x2 x3 x4 x5 x6) (mm_X1_moveLongest_64 k1 r3 x5 x6 x5 x6)))
noncomputable def mm_X1_moveLongest_70 (k1 : Nat) (x2 : Int32) (x3 : Int32) (x4 : Int32) (x5 : Int32) : yy_M ((Int32 × Int32 × Int32 × Int32) ⊕ ((Int32 × Int32 × Int32))) :=
  yy_rt (.inl (x2, x3, x4, (x5 + 1)))
noncomputable def mm_X1_moveLongest_25 (k1 : Nat) (x2 : Int32) (x3 : Int32) (x4 : Int32) (x5 : Int32) (x6 : Int32) : yy_M ((Int32 × Int32 × Int32 × Int32) ⊕ ((Int32 × Int32 × Int32))) :=
  yy_cl (yy_lp (fun (w : Int32 × Int32 × Int32 × Int32) => mm_X1_moveLongest_25b k1 w.1 w.2.1 w.2.2.1 x5 w.2.2.2) (x2, x3, x4, x6)) (fun w => mm_X1_moveLongest_70 k1 w.1 w.2.1 w.2.2 x5)
noncomputable def mm_X1_moveLongest_10b (k1 : Nat) (x2 : Int32) (x3 : Int32) (x4 : Int32) (x5 : Int32) : yy_M ((Int32 × Int32 × Int32 × Int32) ⊕ ((Int32 × Int32 × Int32))) :=
  yy_rF 50 2 fun v1 => yy_br (v1 ≤ x5) (yy_rt (.inr (x2, x3, x4))) (mm_X1_moveLongest_25 k1 x2 x3 x4 x5 0)
noncomputable def mm_X1_moveLongest_88 (x2 : Int32) : yy_M Int32 :=
  yy_br (x2 ≤ 0) (yy_rt 0) (yy_rt 1)
noncomputable def mm_X1_moveLongest_76 (k1 : Nat) (x2 : Int32) (x3 : Int32) (x4 : Int32) : yy_M Int32 :=
  yy_br (x2 ≤ 0) (mm_X1_moveLongest_88 x2) (yy_cl (mm_X8_moveBlock k1 x3 x4 x2) (fun _ => mm_X1_moveLongest_88 x2))
noncomputable def mm_X1_moveLongest_10 (k1 : Nat) (x2 : Int32) (x3 : Int32) (x4 : Int32) (x5 : Int32) : yy_M Int32 :=
  yy_cl (yy_lp (fun (w : Int32 × Int32 × Int32 × Int32) => mm_X1_moveLongest_10b k1 w.1 w.2.1 w.2.2.1 w.2.2.2) (x2, x3, x4, x5)) (fun w => mm_X1_moveLongest_76 k1 w.1 w.2.1 w.2.2)
noncomputable def mm_X1_moveLongest (k1 : Nat) : yy_M Int32 :=
  mm_X1_moveLongest_10 k1 0 0 0 0
theorem kw_X1_moveLongest : yy_wV RX1 yX1_moveLongest cX1_moveLongest 8 (some .boolean) 1 := ⟨⟨tw_506, tw_12, tw_56, tw_507⟩, by decide +kernel⟩
abbrev rm_X1_moveLongest : Room := { frames := 3, cells := 0, slots := 0, locals := 70 }
set_option maxHeartbeats 4000000 in
set_option maxRecDepth 100000 in
theorem ww_X1_moveLongest_64 {k1 : Nat} {x2 : Int32} {x3 : Int32} {x4 : Int32} {x5 : Int32} {x6 : Int32} (hk1 : k1 ∈ yy_Tds) {res : ((Int32 × Int32 × Int32 × Int32) ⊕ ((Int32 × Int32 × Int32))) × yy_T} {Q : State → Prop} (C : yy_C D κ p m c cX1_moveLongest 8 s args RX1) (Z : yy_Z D κ ext A s.heap τ H locs) (hl : lv_has ls 8 [(0, .ref (κ 4 + 49)), (1, .ref (κ 4 + k1)), (2, .int x2), (3, .int x3), (4, .int x4), (5, .int x5), (6, .int x6)]) (h : mm_X1_moveLongest_64 k1 x2 x3 x4 x5 x6 τ = some res)
    (kI : ∀ (w : Int32 × Int32 × Int32 × Int32) (τ1 : yy_T) (H1 : Heap) (locs1 : List Loc) (ls1 : Array Slot), res = (.inl w, τ1) → yy_Z D κ ext A s.heap τ1 H1 locs1 → lv_has ls1 8 [(0, .ref (κ 4 + 49)), (1, .ref (κ 4 + k1)), (2, .int w.1), (3, .int w.2.1), (4, .int w.2.2.1), (5, .int x5), (6, .int w.2.2.2)] → W p l e rm_X1_moveLongest s m args below meth c H1 locs1 0 0 Q (F0 m 25 ls1 [])) : W p l e rm_X1_moveLongest s m args below meth c H locs 0 0 Q (F0 m 64 ls []) := by
  unfold mm_X1_moveLongest_64 at h
  refine lv_iinc (v := x6 + 1) (lv' := [(6, .int (x6 + 1)), (0, .ref (κ 4 + 49)), (1, .ref (κ 4 + k1)), (2, .int x2), (3, .int x3), (4, .int x4), (5, .int x5)]) C.1.1 C.1.2.1 dX1_moveLongest_64 hl (k := 6) rfl (by rfl) (by decide) rfl (fun ls hl => ?_)
  refine lv_goto (tgt := 25) C.1.1 C.1.2.1 dX1_moveLongest_67 (by decide) ?_
  exact kI _ _ _ _ _ (yy_rt_of h) Z (lv_sub hl [1, 2, 3, 4, 5, 6, 0] rfl)
set_option maxHeartbeats 4000000 in
set_option maxRecDepth 100000 in
theorem ww_X1_moveLongest_25b {k1 : Nat} {x2 : Int32} {x3 : Int32} {x4 : Int32} {x5 : Int32} {x6 : Int32} (hk1 : k1 ∈ yy_Tds) {res : ((Int32 × Int32 × Int32 × Int32) ⊕ ((Int32 × Int32 × Int32))) × yy_T} {Q : State → Prop} (C : yy_C D κ p m c cX1_moveLongest 8 s args RX1) (Z : yy_Z D κ ext A s.heap τ H locs) (hl : lv_has ls 8 [(0, .ref (κ 4 + 49)), (1, .ref (κ 4 + k1)), (2, .int x2), (3, .int x3), (4, .int x4), (5, .int x5), (6, .int x6)]) (h : mm_X1_moveLongest_25b k1 x2 x3 x4 x5 x6 τ = some res)
    (kI : ∀ (w : Int32 × Int32 × Int32 × Int32) (τ1 : yy_T) (H1 : Heap) (locs1 : List Loc) (ls1 : Array Slot), res = (.inl w, τ1) → yy_Z D κ ext A s.heap τ1 H1 locs1 → lv_has ls1 8 [(0, .ref (κ 4 + 49)), (1, .ref (κ 4 + k1)), (2, .int w.1), (3, .int w.2.1), (4, .int w.2.2.1), (5, .int x5), (6, .int w.2.2.2)] → W p l e rm_X1_moveLongest s m args below meth c H1 locs1 0 0 Q (F0 m 25 ls1 []))
    (kR0 : ∀ (w : Int32 × Int32 × Int32) (τ1 : yy_T) (H1 : Heap) (locs1 : List Loc) (ls1 : Array Slot), res = (.inr w, τ1) → yy_Z D κ ext A s.heap τ1 H1 locs1 → lv_has ls1 8 [(0, .ref (κ 4 + 49)), (1, .ref (κ 4 + k1)), (2, .int w.1), (3, .int w.2.1), (4, .int w.2.2), (5, .int x5)] → W p l e rm_X1_moveLongest s m args below meth c H1 locs1 0 0 Q (F0 m 70 ls1 [])) : W p l e rm_X1_moveLongest s m args below meth c H locs 0 0 Q (F0 m 25 ls []) := by
  unfold mm_X1_moveLongest_25b at h
  refine lv_iload C.1.1 C.1.2.1 dX1_moveLongest_25 (lv_at hl 6 rfl) ?_
  refine lv_aload_n C.1.1 C.1.2.1 dX1_moveLongest_27 rfl (lv_at hl 0 rfl) ?_
  refine yg_X1_0 C Z tw_261 dX1_moveLongest_28 ?_
  refine yg_X4_3 C Z tw_193 dX1_moveLongest_31 h (fun v2 h => ?_)
  refine yy_icmp_ge (tgt := 70) C dX1_moveLongest_34 (by decide) h (fun h => ?_) (fun h => ?_)
  · exact kR0 _ _ _ _ _ (yy_rt_of h) Z (lv_sub hl [0, 1, 2, 3, 4, 5] rfl)
  · refine lv_aload_n C.1.1 C.1.2.1 dX1_moveLongest_37 rfl (lv_at hl 0 rfl) ?_
    refine lv_iload C.1.1 C.1.2.1 dX1_moveLongest_38 (lv_at hl 5 rfl) ?_
    refine lv_iload C.1.1 C.1.2.1 dX1_moveLongest_40 (lv_at hl 6 rfl) ?_
    refine lv_aload_n C.1.1 C.1.2.1 dX1_moveLongest_42 rfl (lv_at hl 1 rfl) ?_
    refine yy_cVi0 (As := [.int x5, .int x6, .ref (κ 4 + k1)]) (rest := []) (id := 49) (ci := 1) (q := (RX1, TX1, 4)) C Z (ss_X1_looseRow l D κ ext x5 x6 k1 hk1) (by decide) (yy_ent_49 _) rfl tw_508 kw_X1_looseRow ⟨⟨rfl, rfl⟩, ⟨Nat.le_of_ble_eq_true rfl, Nat.le_of_ble_eq_true rfl⟩, Nat.le_of_ble_eq_true rfl, Nat.le_of_ble_eq_true rfl⟩ hl.1 rfl (Nat.le_of_ble_eq_true rfl) dX1_moveLongest_43 h (fun r3 τ H locs Z h => ?_)
    refine lv_istore (lv' := [(7, .int r3), (0, .ref (κ 4 + 49)), (1, .ref (κ 4 + k1)), (2, .int x2), (3, .int x3), (4, .int x4), (5, .int x5), (6, .int x6)]) C.1.1 C.1.2.1 dX1_moveLongest_46 hl (by decide) rfl (fun ls hl => ?_)
    refine lv_iload C.1.1 C.1.2.1 dX1_moveLongest_48 (lv_at hl 0 rfl) ?_
    refine lv_iload_n C.1.1 C.1.2.1 dX1_moveLongest_50 rfl (lv_at hl 3 rfl) ?_
    refine yy_icmp_le (tgt := 64) C dX1_moveLongest_51 (by decide) h (fun h => ?_) (fun h => ?_)
    · exact ww_X1_moveLongest_64 hk1 C Z (lv_sub hl [1, 2, 3, 4, 5, 6, 7] rfl) h kI
    · refine lv_iload C.1.1 C.1.2.1 dX1_moveLongest_54 (lv_at hl 0 rfl) ?_
      refine lv_istore_n (lv' := [(2, .int r3), (7, .int r3), (0, .ref (κ 4 + 49)), (1, .ref (κ 4 + k1)), (3, .int x3), (4, .int x4), (5, .int x5), (6, .int x6)]) C.1.1 C.1.2.1 dX1_moveLongest_56 rfl hl (by decide) rfl (fun ls hl => ?_)
      refine lv_iload C.1.1 C.1.2.1 dX1_moveLongest_57 (lv_at hl 6 rfl) ?_
      refine lv_istore_n (lv' := [(3, .int x5), (2, .int r3), (7, .int r3), (0, .ref (κ 4 + 49)), (1, .ref (κ 4 + k1)), (4, .int x4), (5, .int x5), (6, .int x6)]) C.1.1 C.1.2.1 dX1_moveLongest_59 rfl hl (by decide) rfl (fun ls hl => ?_)
      refine lv_iload C.1.1 C.1.2.1 dX1_moveLongest_60 (lv_at hl 7 rfl) ?_
      refine lv_istore (lv' := [(4, .int x6), (3, .int x5), (2, .int r3), (7, .int r3), (0, .ref (κ 4 + 49)), (1, .ref (κ 4 + k1)), (5, .int x5), (6, .int x6)]) C.1.1 C.1.2.1 dX1_moveLongest_62 hl (by decide) rfl (fun ls hl => ?_)
      exact ww_X1_moveLongest_64 hk1 C Z (lv_sub hl [4, 5, 2, 1, 0, 6, 7] rfl) h kI
set_option maxHeartbeats 4000000 in
set_option maxRecDepth 100000 in
theorem ww_X1_moveLongest_70 {k1 : Nat} {x2 : Int32} {x3 : Int32} {x4 : Int32} {x5 : Int32} (hk1 : k1 ∈ yy_Tds) {res : ((Int32 × Int32 × Int32 × Int32) ⊕ ((Int32 × Int32 × Int32))) × yy_T} {Q : State → Prop} (C : yy_C D κ p m c cX1_moveLongest 8 s args RX1) (Z : yy_Z D κ ext A s.heap τ H locs) (hl : lv_has ls 8 [(0, .ref (κ 4 + 49)), (1, .ref (κ 4 + k1)), (2, .int x2), (3, .int x3), (4, .int x4), (5, .int x5)]) (h : mm_X1_moveLongest_70 k1 x2 x3 x4 x5 τ = some res)
    (kI : ∀ (w : Int32 × Int32 × Int32 × Int32) (τ1 : yy_T) (H1 : Heap) (locs1 : List Loc) (ls1 : Array Slot), res = (.inl w, τ1) → yy_Z D κ ext A s.heap τ1 H1 locs1 → lv_has ls1 8 [(0, .ref (κ 4 + 49)), (1, .ref (κ 4 + k1)), (2, .int w.1), (3, .int w.2.1), (4, .int w.2.2.1), (5, .int w.2.2.2)] → W p l e rm_X1_moveLongest s m args below meth c H1 locs1 0 0 Q (F0 m 10 ls1 [])) : W p l e rm_X1_moveLongest s m args below meth c H locs 0 0 Q (F0 m 70 ls []) := by
  unfold mm_X1_moveLongest_70 at h
  refine lv_iinc (v := x5 + 1) (lv' := [(5, .int (x5 + 1)), (0, .ref (κ 4 + 49)), (1, .ref (κ 4 + k1)), (2, .int x2), (3, .int x3), (4, .int x4)]) C.1.1 C.1.2.1 dX1_moveLongest_70 hl (k := 5) rfl (by rfl) (by decide) rfl (fun ls hl => ?_)
  refine lv_goto (tgt := 10) C.1.1 C.1.2.1 dX1_moveLongest_73 (by decide) ?_
  exact kI _ _ _ _ _ (yy_rt_of h) Z (lv_sub hl [1, 2, 3, 4, 5, 0] rfl)
set_option maxHeartbeats 4000000 in
set_option maxRecDepth 100000 in
theorem ww_X1_moveLongest_25 {k1 : Nat} {x2 : Int32} {x3 : Int32} {x4 : Int32} {x5 : Int32} {x6 : Int32} (hk1 : k1 ∈ yy_Tds) {res : ((Int32 × Int32 × Int32 × Int32) ⊕ ((Int32 × Int32 × Int32))) × yy_T} {Q : State → Prop} (C : yy_C D κ p m c cX1_moveLongest 8 s args RX1) (Z : yy_Z D κ ext A s.heap τ H locs) (hl : lv_has ls 8 [(0, .ref (κ 4 + 49)), (1, .ref (κ 4 + k1)), (2, .int x2), (3, .int x3), (4, .int x4), (5, .int x5), (6, .int x6)]) (h : mm_X1_moveLongest_25 k1 x2 x3 x4 x5 x6 τ = some res)
    (kI : ∀ (w : Int32 × Int32 × Int32 × Int32) (τ1 : yy_T) (H1 : Heap) (locs1 : List Loc) (ls1 : Array Slot), res = (.inl w, τ1) → yy_Z D κ ext A s.heap τ1 H1 locs1 → lv_has ls1 8 [(0, .ref (κ 4 + 49)), (1, .ref (κ 4 + k1)), (2, .int w.1), (3, .int w.2.1), (4, .int w.2.2.1), (5, .int w.2.2.2)] → W p l e rm_X1_moveLongest s m args below meth c H1 locs1 0 0 Q (F0 m 10 ls1 [])) : W p l e rm_X1_moveLongest s m args below meth c H locs 0 0 Q (F0 m 25 ls []) := by
  unfold mm_X1_moveLongest_25 at h
  refine yy_loop h (fun (w : Int32 × Int32 × Int32 × Int32) (τ : yy_T) => ∀ (H : Heap) (locs : List Loc) (ls : Array Slot), yy_Z D κ ext A s.heap τ H locs → lv_has ls 8 [(0, .ref (κ 4 + 49)), (1, .ref (κ 4 + k1)), (2, .int w.1), (3, .int w.2.1), (4, .int w.2.2.1), (5, .int x5), (6, .int w.2.2.2)] → W p l e rm_X1_moveLongest s m args below meth c H locs 0 0 Q (F0 m 25 ls [])) ?_ H locs ls Z hl
  intro w τ y hy hI hX H locs ls Z hl
  refine ww_X1_moveLongest_25b hk1 C Z hl hy (fun w τ H locs ls ey Z hl => hI w τ ey H locs ls Z hl) (fun w τ H locs ls ey Z hl => ?_)
  · have h := hX _ _ ey
    exact ww_X1_moveLongest_70 hk1 C Z (lv_sub hl [0, 1, 2, 3, 4, 5] rfl) h kI
set_option maxHeartbeats 4000000 in
set_option maxRecDepth 100000 in
theorem ww_X1_moveLongest_10b {k1 : Nat} {x2 : Int32} {x3 : Int32} {x4 : Int32} {x5 : Int32} (hk1 : k1 ∈ yy_Tds) {res : ((Int32 × Int32 × Int32 × Int32) ⊕ ((Int32 × Int32 × Int32))) × yy_T} {Q : State → Prop} (C : yy_C D κ p m c cX1_moveLongest 8 s args RX1) (Z : yy_Z D κ ext A s.heap τ H locs) (hl : lv_has ls 8 [(0, .ref (κ 4 + 49)), (1, .ref (κ 4 + k1)), (2, .int x2), (3, .int x3), (4, .int x4), (5, .int x5)]) (h : mm_X1_moveLongest_10b k1 x2 x3 x4 x5 τ = some res)
    (kI : ∀ (w : Int32 × Int32 × Int32 × Int32) (τ1 : yy_T) (H1 : Heap) (locs1 : List Loc) (ls1 : Array Slot), res = (.inl w, τ1) → yy_Z D κ ext A s.heap τ1 H1 locs1 → lv_has ls1 8 [(0, .ref (κ 4 + 49)), (1, .ref (κ 4 + k1)), (2, .int w.1), (3, .int w.2.1), (4, .int w.2.2.1), (5, .int w.2.2.2)] → W p l e rm_X1_moveLongest s m args below meth c H1 locs1 0 0 Q (F0 m 10 ls1 []))
    (kR0 : ∀ (w : Int32 × Int32 × Int32) (τ1 : yy_T) (H1 : Heap) (locs1 : List Loc) (ls1 : Array Slot), res = (.inr w, τ1) → yy_Z D κ ext A s.heap τ1 H1 locs1 → lv_has ls1 8 [(1, .ref (κ 4 + k1)), (2, .int w.1), (3, .int w.2.1), (4, .int w.2.2)] → W p l e rm_X1_moveLongest s m args below meth c H1 locs1 0 0 Q (F0 m 76 ls1 [])) : W p l e rm_X1_moveLongest s m args below meth c H locs 0 0 Q (F0 m 10 ls []) := by
  unfold mm_X1_moveLongest_10b at h
  refine lv_iload C.1.1 C.1.2.1 dX1_moveLongest_10 (lv_at hl 5 rfl) ?_
  refine lv_aload_n C.1.1 C.1.2.1 dX1_moveLongest_12 rfl (lv_at hl 0 rfl) ?_
  refine yg_X1_0 C Z tw_261 dX1_moveLongest_13 ?_
  refine yg_X4_2 C Z tw_190 dX1_moveLongest_16 h (fun v1 h => ?_)
  refine yy_icmp_ge (tgt := 76) C dX1_moveLongest_19 (by decide) h (fun h => ?_) (fun h => ?_)
  · exact kR0 _ _ _ _ _ (yy_rt_of h) Z (lv_sub hl [1, 2, 3, 4] rfl)
  · refine lv_iconst (v := 0) C.1.1 C.1.2.1 dX1_moveLongest_22 (by decide) ?_
    refine lv_istore (lv' := [(6, .int 0), (0, .ref (κ 4 + 49)), (1, .ref (κ 4 + k1)), (2, .int x2), (3, .int x3), (4, .int x4), (5, .int x5)]) C.1.1 C.1.2.1 dX1_moveLongest_23 hl (by decide) rfl (fun ls hl => ?_)
    exact ww_X1_moveLongest_25 hk1 C Z (lv_sub hl [1, 2, 3, 4, 5, 6, 0] rfl) h kI
set_option maxHeartbeats 4000000 in
set_option maxRecDepth 100000 in
theorem ww_X1_moveLongest_88 {x2 : Int32} {res : Int32 × yy_T} (C : yy_C D κ p m c cX1_moveLongest 8 s args RX1) (hr : meth.sig.returnType = (some .boolean)) (hlk : meth.locks = false) (Z : yy_Z D κ ext A s.heap τ H locs) (hl : lv_has ls 8 [(2, .int x2)]) (h : mm_X1_moveLongest_88 x2 τ = some res) : W p l e rm_X1_moveLongest s m args below meth c H locs 0 0 (MQ below (yy_Qi D κ ext A res) args s 0 0 A) (F0 m 88 ls []) := by
  unfold mm_X1_moveLongest_88 at h
  refine lv_iload_n C.1.1 C.1.2.1 dX1_moveLongest_88 rfl (lv_at hl 0 rfl) ?_
  refine yy_if_le (tgt := 96) C dX1_moveLongest_89 (by decide) h (fun h => ?_) (fun h => ?_)
  · refine lv_iconst (v := 0) C.1.1 C.1.2.1 dX1_moveLongest_96 (by decide) ?_
    exact yy_iret C Z hr hlk rfl dX1_moveLongest_97 h
  · refine lv_iconst (v := 1) C.1.1 C.1.2.1 dX1_moveLongest_92 (by decide) ?_
    refine lv_goto (tgt := 97) C.1.1 C.1.2.1 dX1_moveLongest_93 (by decide) ?_
    exact yy_iret C Z hr hlk rfl dX1_moveLongest_97 h
set_option maxHeartbeats 4000000 in
set_option maxRecDepth 100000 in
theorem ww_X1_moveLongest_76 {k1 : Nat} {x2 : Int32} {x3 : Int32} {x4 : Int32} (hk1 : k1 ∈ yy_Tds) {res : Int32 × yy_T} (C : yy_C D κ p m c cX1_moveLongest 8 s args RX1) (hr : meth.sig.returnType = (some .boolean)) (hlk : meth.locks = false) (Z : yy_Z D κ ext A s.heap τ H locs) (hl : lv_has ls 8 [(1, .ref (κ 4 + k1)), (2, .int x2), (3, .int x3), (4, .int x4)]) (h : mm_X1_moveLongest_76 k1 x2 x3 x4 τ = some res) : W p l e rm_X1_moveLongest s m args below meth c H locs 0 0 (MQ below (yy_Qi D κ ext A res) args s 0 0 A) (F0 m 76 ls []) := by
  unfold mm_X1_moveLongest_76 at h
  refine lv_iload_n C.1.1 C.1.2.1 dX1_moveLongest_76 rfl (lv_at hl 1 rfl) ?_
  refine yy_if_le (tgt := 88) C dX1_moveLongest_77 (by decide) h (fun h => ?_) (fun h => ?_)
  · exact ww_X1_moveLongest_88  C hr hlk Z (lv_sub hl [1] rfl) h
  · refine lv_aload_n C.1.1 C.1.2.1 dX1_moveLongest_80 rfl (lv_at hl 0 rfl) ?_
    refine lv_iload_n C.1.1 C.1.2.1 dX1_moveLongest_81 rfl (lv_at hl 2 rfl) ?_
    refine lv_iload C.1.1 C.1.2.1 dX1_moveLongest_82 (lv_at hl 3 rfl) ?_
    refine lv_iload_n C.1.1 C.1.2.1 dX1_moveLongest_84 rfl (lv_at hl 1 rfl) ?_
    refine yy_cVv0 (As := [.int x3, .int x4, .int x2]) (rest := []) (id := k1) (ci := 8) (q := (RX8, TX8, 11)) C Z (ss_X8_moveBlock l D κ ext k1 x3 x4 x2 hk1) (yy_Tds_lt _ hk1) (yy_ent_Tds hk1 _) rfl tw_514 kw_X8_moveBlock ⟨⟨rfl, rfl⟩, ⟨Nat.le_of_ble_eq_true rfl, Nat.le_of_ble_eq_true rfl⟩, Nat.le_of_ble_eq_true rfl, Nat.le_of_ble_eq_true rfl⟩ hl.1 rfl (Nat.le_of_ble_eq_true rfl) dX1_moveLongest_85 h (fun τ H locs Z h => ?_)
    exact ww_X1_moveLongest_88  C hr hlk Z (lv_sub hl [1] rfl) h
set_option maxHeartbeats 4000000 in
set_option maxRecDepth 100000 in
theorem ww_X1_moveLongest_10 {k1 : Nat} {x2 : Int32} {x3 : Int32} {x4 : Int32} {x5 : Int32} (hk1 : k1 ∈ yy_Tds) {res : Int32 × yy_T} (C : yy_C D κ p m c cX1_moveLongest 8 s args RX1) (hr : meth.sig.returnType = (some .boolean)) (hlk : meth.locks = false) (Z : yy_Z D κ ext A s.heap τ H locs) (hl : lv_has ls 8 [(0, .ref (κ 4 + 49)), (1, .ref (κ 4 + k1)), (2, .int x2), (3, .int x3), (4, .int x4), (5, .int x5)]) (h : mm_X1_moveLongest_10 k1 x2 x3 x4 x5 τ = some res) : W p l e rm_X1_moveLongest s m args below meth c H locs 0 0 (MQ below (yy_Qi D κ ext A res) args s 0 0 A) (F0 m 10 ls []) := by
  unfold mm_X1_moveLongest_10 at h
  refine yy_loop h (fun (w : Int32 × Int32 × Int32 × Int32) (τ : yy_T) => ∀ (H : Heap) (locs : List Loc) (ls : Array Slot), yy_Z D κ ext A s.heap τ H locs → lv_has ls 8 [(0, .ref (κ 4 + 49)), (1, .ref (κ 4 + k1)), (2, .int w.1), (3, .int w.2.1), (4, .int w.2.2.1), (5, .int w.2.2.2)] → W p l e rm_X1_moveLongest s m args below meth c H locs 0 0 (MQ below (yy_Qi D κ ext A res) args s 0 0 A) (F0 m 10 ls [])) ?_ H locs ls Z hl
  intro w τ y hy hI hX H locs ls Z hl
  refine ww_X1_moveLongest_10b hk1 C Z hl hy (fun w τ H locs ls ey Z hl => hI w τ ey H locs ls Z hl) (fun w τ H locs ls ey Z hl => ?_)
  · have h := hX _ _ ey
    exact ww_X1_moveLongest_76 hk1 C hr hlk Z (lv_sub hl [0, 1, 2, 3] rfl) h
set_option maxHeartbeats 4000000 in
set_option maxRecDepth 100000 in
theorem ww_X1_moveLongest_E {k1 : Nat} (hk1 : k1 ∈ yy_Tds) {res : Int32 × yy_T} (C : yy_C D κ p m c cX1_moveLongest 8 s args RX1) (hr : meth.sig.returnType = (some .boolean)) (hlk : meth.locks = false) (Z : yy_Z D κ ext A s.heap τ H locs) (hl : lv_has ls 8 [(0, .ref (κ 4 + 49)), (1, .ref (κ 4 + k1))]) (h : mm_X1_moveLongest k1 τ = some res) : W p l e rm_X1_moveLongest s m args below meth c H locs 0 0 (MQ below (yy_Qi D κ ext A res) args s 0 0 A) (F0 m 0 ls []) := by
  unfold mm_X1_moveLongest at h
  refine lv_iconst (v := 0) C.1.1 C.1.2.1 dX1_moveLongest_0 (by decide) ?_
  refine lv_istore_n (lv' := [(2, .int 0), (0, .ref (κ 4 + 49)), (1, .ref (κ 4 + k1))]) C.1.1 C.1.2.1 dX1_moveLongest_1 rfl hl (by decide) rfl (fun ls hl => ?_)
  refine lv_iconst (v := 0) C.1.1 C.1.2.1 dX1_moveLongest_2 (by decide) ?_
  refine lv_istore_n (lv' := [(3, .int 0), (2, .int 0), (0, .ref (κ 4 + 49)), (1, .ref (κ 4 + k1))]) C.1.1 C.1.2.1 dX1_moveLongest_3 rfl hl (by decide) rfl (fun ls hl => ?_)
  refine lv_iconst (v := 0) C.1.1 C.1.2.1 dX1_moveLongest_4 (by decide) ?_
  refine lv_istore (lv' := [(4, .int 0), (3, .int 0), (2, .int 0), (0, .ref (κ 4 + 49)), (1, .ref (κ 4 + k1))]) C.1.1 C.1.2.1 dX1_moveLongest_5 hl (by decide) rfl (fun ls hl => ?_)
  refine lv_iconst (v := 0) C.1.1 C.1.2.1 dX1_moveLongest_7 (by decide) ?_
  refine lv_istore (lv' := [(5, .int 0), (4, .int 0), (3, .int 0), (2, .int 0), (0, .ref (κ 4 + 49)), (1, .ref (κ 4 + k1))]) C.1.1 C.1.2.1 dX1_moveLongest_8 hl (by decide) rfl (fun ls hl => ?_)
  exact ww_X1_moveLongest_10 hk1 C hr hlk Z (lv_sub hl [4, 5, 3, 2, 1, 0] rfl) h
set_option maxHeartbeats 4000000 in
set_option maxRecDepth 100000 in
theorem ss_X1_moveLongest (l : Launch) (D : va_G) (κ : Nat → Nat) (ext : va_W) (k1 : Nat) (hk1 : k1 ∈ yy_Tds) : yy_Mi l D κ ext yX1_moveLongest cX1_moveLongest 8 (some .boolean) rm_X1_moveLongest 0 0 [.ref (κ 4 + 49), .ref (κ 4 + k1)] (mm_X1_moveLongest k1) := by
  intro sz τ res h
  refine yy_ofW (by decide) (Nat.le_of_ble_eq_true rfl) ?_
  intro p e s m args below meth c ls hsz E
  obtain ⟨C, hr, hlk, Z, hl⟩ := E
  subst hsz
  exact ww_X1_moveLongest_E hk1 C hr hlk Z hl h
/-! MovedLines$Keeper.addRange(IIII)V -/
noncomputable def mm_X3_addRange (x1 : Int32) (x2 : Int32) (x3 : Int32) (x4 : Int32) : yy_M Unit :=
  yy_br (x2 ≤ x1) (yy_rt ()) (yy_br (x4 ≤ x3) (yy_rt ()) (yy_rF 53 4 fun v1 => yy_br (v1 < 14) (yy_rF 53 4 fun v2 => yy_wA 54 14 v2 x1 (yy_rF 53 4 fun v3 => yy_wA 55 14 v3 x2 (yy_rF 53 4 fun v4 => yy_wA 56 14 v4 x3 (yy_rF 53 4 fun v5 => yy_wA 57 14 v5 x4 (yy_rF 53 4 fun v6 => yy_wF 53 4 (v6 + 1) (yy_rt ())))))) (yy_rt ())))
theorem kw_X3_addRange : yy_wV RX3 yX3_addRange cX3_addRange 5 none 4 := ⟨⟨tw_468, tw_7, tw_58, tw_469⟩, by decide +kernel⟩
abbrev rm_X3_addRange : Room := { frames := 0, cells := 0, slots := 0, locals := 0 }
set_option maxHeartbeats 4000000 in
set_option maxRecDepth 100000 in
theorem ww_X3_addRange_E {x1 : Int32} {x2 : Int32} {x3 : Int32} {x4 : Int32} {res : Unit × yy_T} (C : yy_C D κ p m c cX3_addRange 5 s args RX3) (hr : meth.sig.returnType = none) (hlk : meth.locks = false) (Z : yy_Z D κ ext A s.heap τ H locs) (hl : lv_has ls 5 [(0, .ref (κ 4 + 53)), (1, .int x1), (2, .int x2), (3, .int x3), (4, .int x4)]) (h : mm_X3_addRange x1 x2 x3 x4 τ = some res) : W p l e rm_X3_addRange s m args below meth c H locs 0 0 (MQ below (yy_Qv D κ ext A res) args s 0 0 A) (F0 m 0 ls []) := by
  unfold mm_X3_addRange at h
  refine lv_iload_n C.1.1 C.1.2.1 dX3_addRange_0 rfl (lv_at hl 1 rfl) ?_
  refine lv_iload_n C.1.1 C.1.2.1 dX3_addRange_1 rfl (lv_at hl 2 rfl) ?_
  refine yy_icmp_ge (tgt := 20) C dX3_addRange_2 (by decide) h (fun h => ?_) (fun h => ?_)
  · exact yy_vret C Z hr hlk dX3_addRange_20 h
  · refine lv_iload_n C.1.1 C.1.2.1 dX3_addRange_5 rfl (lv_at hl 3 rfl) ?_
    refine lv_iload C.1.1 C.1.2.1 dX3_addRange_6 (lv_at hl 4 rfl) ?_
    refine yy_icmp_ge (tgt := 20) C dX3_addRange_8 (by decide) h (fun h => ?_) (fun h => ?_)
    · exact yy_vret C Z hr hlk dX3_addRange_20 h
    · refine lv_aload_n C.1.1 C.1.2.1 dX3_addRange_11 rfl (lv_at hl 0 rfl) ?_
      refine yg_X3_4 C Z tw_213 dX3_addRange_12 h (fun v1 h => ?_)
      refine lv_bipush (v := 14) C.1.1 C.1.2.1 dX3_addRange_15 (by decide) ?_
      refine yy_icmp_lt (tgt := 21) C dX3_addRange_17 (by decide) h (fun h => ?_) (fun h => ?_)
      · refine lv_aload_n C.1.1 C.1.2.1 dX3_addRange_21 rfl (lv_at hl 0 rfl) ?_
        refine yg_X3_0 C Z tw_209 dX3_addRange_22 ?_
        refine lv_aload_n C.1.1 C.1.2.1 dX3_addRange_25 rfl (lv_at hl 0 rfl) ?_
        refine yg_X3_4 C Z tw_213 dX3_addRange_26 h (fun v2 h => ?_)
        refine lv_iload_n C.1.1 C.1.2.1 dX3_addRange_29 rfl (lv_at hl 1 rfl) ?_
        refine yy_iast C Z (by decide) rfl dX3_addRange_30 h (fun H locs τ Z h => ?_)
        refine lv_aload_n C.1.1 C.1.2.1 dX3_addRange_31 rfl (lv_at hl 0 rfl) ?_
        refine yg_X3_1 C Z tw_210 dX3_addRange_32 ?_
        refine lv_aload_n C.1.1 C.1.2.1 dX3_addRange_35 rfl (lv_at hl 0 rfl) ?_
        refine yg_X3_4 C Z tw_213 dX3_addRange_36 h (fun v3 h => ?_)
        refine lv_iload_n C.1.1 C.1.2.1 dX3_addRange_39 rfl (lv_at hl 2 rfl) ?_
        refine yy_iast C Z (by decide) rfl dX3_addRange_40 h (fun H locs τ Z h => ?_)
        refine lv_aload_n C.1.1 C.1.2.1 dX3_addRange_41 rfl (lv_at hl 0 rfl) ?_
        refine yg_X3_2 C Z tw_211 dX3_addRange_42 ?_
        refine lv_aload_n C.1.1 C.1.2.1 dX3_addRange_45 rfl (lv_at hl 0 rfl) ?_
        refine yg_X3_4 C Z tw_213 dX3_addRange_46 h (fun v4 h => ?_)
        refine lv_iload_n C.1.1 C.1.2.1 dX3_addRange_49 rfl (lv_at hl 3 rfl) ?_
        refine yy_iast C Z (by decide) rfl dX3_addRange_50 h (fun H locs τ Z h => ?_)
        refine lv_aload_n C.1.1 C.1.2.1 dX3_addRange_51 rfl (lv_at hl 0 rfl) ?_
        refine yg_X3_3 C Z tw_212 dX3_addRange_52 ?_
        refine lv_aload_n C.1.1 C.1.2.1 dX3_addRange_55 rfl (lv_at hl 0 rfl) ?_
        refine yg_X3_4 C Z tw_213 dX3_addRange_56 h (fun v5 h => ?_)
        refine lv_iload C.1.1 C.1.2.1 dX3_addRange_59 (lv_at hl 4 rfl) ?_
        refine yy_iast C Z (by decide) rfl dX3_addRange_61 h (fun H locs τ Z h => ?_)
        refine lv_aload_n C.1.1 C.1.2.1 dX3_addRange_62 rfl (lv_at hl 0 rfl) ?_
        refine lv_dup C.1.1 C.1.2.1 dX3_addRange_63 rfl ?_
        refine yg_X3_4 C Z tw_213 dX3_addRange_64 h (fun v6 h => ?_)
        refine lv_iconst (v := 1) C.1.1 C.1.2.1 dX3_addRange_67 (by decide) ?_
        refine lv_iadd C.1.1 C.1.2.1 dX3_addRange_68 ?_
        refine yp_X3_4 C Z tw_213 dX3_addRange_69 h (fun H locs τ Z h => ?_)
        exact yy_vret C Z hr hlk dX3_addRange_72 h
      · exact yy_vret C Z hr hlk dX3_addRange_20 h
set_option maxHeartbeats 4000000 in
set_option maxRecDepth 100000 in
theorem ss_X3_addRange (l : Launch) (D : va_G) (κ : Nat → Nat) (ext : va_W) (x1 : Int32) (x2 : Int32) (x3 : Int32) (x4 : Int32) : yy_Mv l D κ ext yX3_addRange cX3_addRange 5 none rm_X3_addRange 0 0 [.ref (κ 4 + 53), .int x1, .int x2, .int x3, .int x4] (mm_X3_addRange x1 x2 x3 x4) := by
  intro sz τ res h
  refine yy_ofW (by decide) (Nat.le_of_ble_eq_true rfl) ?_
  intro p e s m args below meth c ls hsz E
  obtain ⟨C, hr, hlk, Z, hl⟩ := E
  subst hsz
  exact ww_X3_addRange_E  C hr hlk Z hl h
/-! MovedLines$Keeper.onlyPlace(I[III)I -/
noncomputable def mm_X3_onlyPlace_32 (x0 : Int32) (a1 : Nat) (x3 : Int32) (x4 : Int32) (x5 : Int32) : yy_M ((Int32 × Int32) ⊕ ((Int32) ⊕ (Unit))) :=
  yy_rt (.inl (x4, (x5 + 1)))
noncomputable def mm_X3_onlyPlace_6b (x0 : Int32) (a1 : Nat) (x3 : Int32) (x4 : Int32) (x5 : Int32) : yy_M ((Int32 × Int32) ⊕ ((Int32) ⊕ (Unit))) :=
  yy_br (x3 ≤ x5) (yy_rt (.inr (.inl x4))) (yy_rA a1 (yy_len a1) x5 fun v1 => yy_br (v1 = x0) (yy_br (x4 = ((-1))) (mm_X3_onlyPlace_32 x0 a1 x3 x5 x5) (yy_rt (.inr (.inr ())))) (mm_X3_onlyPlace_32 x0 a1 x3 x4 x5))
noncomputable def mm_X3_onlyPlace_38 (x4 : Int32) : yy_M Int32 :=
  yy_rt x4
noncomputable def mm_X3_onlyPlace_26 : yy_M Int32 :=
  yy_rt ((-1))
noncomputable def mm_X3_onlyPlace_6 (x0 : Int32) (a1 : Nat) (x3 : Int32) (x4 : Int32) (x5 : Int32) : yy_M Int32 :=
  yy_cl (yy_lp (fun (w : Int32 × Int32) => mm_X3_onlyPlace_6b x0 a1 x3 w.1 w.2) (x4, x5)) (Sum.elim (fun w => mm_X3_onlyPlace_38 w) (fun w => mm_X3_onlyPlace_26 ))
noncomputable def mm_X3_onlyPlace (x0 : Int32) (a1 : Nat) (x2 : Int32) (x3 : Int32) : yy_M Int32 :=
  mm_X3_onlyPlace_6 x0 a1 x3 ((-1)) x2
theorem kw_X3_onlyPlace : yy_wS RX3 yX3_onlyPlace cX3_onlyPlace 6 (some .int) 4 := ⟨⟨tw_491, tw_58, tw_492⟩, by decide +kernel⟩
abbrev rm_X3_onlyPlace : Room := { frames := 0, cells := 0, slots := 0, locals := 0 }
set_option maxHeartbeats 4000000 in
set_option maxRecDepth 100000 in
theorem ww_X3_onlyPlace_32 {x0 : Int32} {a1 : Nat} {x3 : Int32} {x4 : Int32} {x5 : Int32} (ha1 : a1 ∈ yy_Ints) {res : ((Int32 × Int32) ⊕ ((Int32) ⊕ (Unit))) × yy_T} {Q : State → Prop} (C : yy_C D κ p m c cX3_onlyPlace 6 s args RX3) (Z : yy_Z D κ ext A s.heap τ H locs) (hl : lv_has ls 6 [(0, .int x0), (1, .ref (κ 4 + a1)), (3, .int x3), (4, .int x4), (5, .int x5)]) (h : mm_X3_onlyPlace_32 x0 a1 x3 x4 x5 τ = some res)
    (kI : ∀ (w : Int32 × Int32) (τ1 : yy_T) (H1 : Heap) (locs1 : List Loc) (ls1 : Array Slot), res = (.inl w, τ1) → yy_Z D κ ext A s.heap τ1 H1 locs1 → lv_has ls1 6 [(0, .int x0), (1, .ref (κ 4 + a1)), (3, .int x3), (4, .int w.1), (5, .int w.2)] → W p l e rm_X3_onlyPlace s m args below meth c H1 locs1 0 0 Q (F0 m 6 ls1 [])) : W p l e rm_X3_onlyPlace s m args below meth c H locs 0 0 Q (F0 m 32 ls []) := by
  unfold mm_X3_onlyPlace_32 at h
  refine lv_iinc (v := x5 + 1) (lv' := [(5, .int (x5 + 1)), (0, .int x0), (1, .ref (κ 4 + a1)), (3, .int x3), (4, .int x4)]) C.1.1 C.1.2.1 dX3_onlyPlace_32 hl (k := 4) rfl (by rfl) (by decide) rfl (fun ls hl => ?_)
  refine lv_goto (tgt := 6) C.1.1 C.1.2.1 dX3_onlyPlace_35 (by decide) ?_
  exact kI _ _ _ _ _ (yy_rt_of h) Z (lv_sub hl [1, 2, 3, 4, 0] rfl)
set_option maxHeartbeats 4000000 in
set_option maxRecDepth 100000 in
theorem ww_X3_onlyPlace_6b {x0 : Int32} {a1 : Nat} {x3 : Int32} {x4 : Int32} {x5 : Int32} (ha1 : a1 ∈ yy_Ints) {res : ((Int32 × Int32) ⊕ ((Int32) ⊕ (Unit))) × yy_T} {Q : State → Prop} (C : yy_C D κ p m c cX3_onlyPlace 6 s args RX3) (Z : yy_Z D κ ext A s.heap τ H locs) (hl : lv_has ls 6 [(0, .int x0), (1, .ref (κ 4 + a1)), (3, .int x3), (4, .int x4), (5, .int x5)]) (h : mm_X3_onlyPlace_6b x0 a1 x3 x4 x5 τ = some res)
    (kI : ∀ (w : Int32 × Int32) (τ1 : yy_T) (H1 : Heap) (locs1 : List Loc) (ls1 : Array Slot), res = (.inl w, τ1) → yy_Z D κ ext A s.heap τ1 H1 locs1 → lv_has ls1 6 [(0, .int x0), (1, .ref (κ 4 + a1)), (3, .int x3), (4, .int w.1), (5, .int w.2)] → W p l e rm_X3_onlyPlace s m args below meth c H1 locs1 0 0 Q (F0 m 6 ls1 []))
    (kR0 : ∀ (w : Int32) (τ1 : yy_T) (H1 : Heap) (locs1 : List Loc) (ls1 : Array Slot), res = (.inr (.inl w), τ1) → yy_Z D κ ext A s.heap τ1 H1 locs1 → lv_has ls1 6 [(4, .int w)] → W p l e rm_X3_onlyPlace s m args below meth c H1 locs1 0 0 Q (F0 m 38 ls1 []))
    (kR1 : ∀ (w : Unit) (τ1 : yy_T) (H1 : Heap) (locs1 : List Loc) (ls1 : Array Slot), res = (.inr (.inr w), τ1) → yy_Z D κ ext A s.heap τ1 H1 locs1 → lv_has ls1 6 [] → W p l e rm_X3_onlyPlace s m args below meth c H1 locs1 0 0 Q (F0 m 26 ls1 [])) : W p l e rm_X3_onlyPlace s m args below meth c H locs 0 0 Q (F0 m 6 ls []) := by
  unfold mm_X3_onlyPlace_6b at h
  refine lv_iload C.1.1 C.1.2.1 dX3_onlyPlace_6 (lv_at hl 4 rfl) ?_
  refine lv_iload_n C.1.1 C.1.2.1 dX3_onlyPlace_8 rfl (lv_at hl 2 rfl) ?_
  refine yy_icmp_ge (tgt := 38) C dX3_onlyPlace_9 (by decide) h (fun h => ?_) (fun h => ?_)
  · exact kR0 _ _ _ _ _ (yy_rt_of h) Z (lv_sub hl [3] rfl)
  · refine lv_aload_n C.1.1 C.1.2.1 dX3_onlyPlace_12 rfl (lv_at hl 1 rfl) ?_
    refine lv_iload C.1.1 C.1.2.1 dX3_onlyPlace_13 (lv_at hl 4 rfl) ?_
    refine yy_iald C Z ha1 rfl dX3_onlyPlace_15 h (fun v1 h => ?_)
    refine lv_iload_n C.1.1 C.1.2.1 dX3_onlyPlace_16 rfl (lv_at hl 0 rfl) ?_
    refine yy_icmp_ne (tgt := 32) C dX3_onlyPlace_17 (by decide) h (fun h => ?_) (fun h => ?_)
    · exact ww_X3_onlyPlace_32 ha1 C Z (lv_sub hl [0, 1, 2, 3, 4] rfl) h kI
    · refine lv_iload C.1.1 C.1.2.1 dX3_onlyPlace_20 (lv_at hl 3 rfl) ?_
      refine lv_iconst (v := (-1)) C.1.1 C.1.2.1 dX3_onlyPlace_22 (by decide) ?_
      refine yy_icmp_eq (tgt := 28) C dX3_onlyPlace_23 (by decide) h (fun h => ?_) (fun h => ?_)
      · refine lv_iload C.1.1 C.1.2.1 dX3_onlyPlace_28 (lv_at hl 4 rfl) ?_
        refine lv_istore (lv' := [(4, .int x5), (0, .int x0), (1, .ref (κ 4 + a1)), (3, .int x3), (5, .int x5)]) C.1.1 C.1.2.1 dX3_onlyPlace_30 hl (by decide) rfl (fun ls hl => ?_)
        exact ww_X3_onlyPlace_32 ha1 C Z (lv_sub hl [1, 2, 3, 0, 4] rfl) h kI
      · exact kR1 _ _ _ _ _ (yy_rt_of h) Z (lv_sub hl [] rfl)
set_option maxHeartbeats 4000000 in
set_option maxRecDepth 100000 in
theorem ww_X3_onlyPlace_38 {x4 : Int32} {res : Int32 × yy_T} (C : yy_C D κ p m c cX3_onlyPlace 6 s args RX3) (hr : meth.sig.returnType = (some .int)) (hlk : meth.locks = false) (Z : yy_Z D κ ext A s.heap τ H locs) (hl : lv_has ls 6 [(4, .int x4)]) (h : mm_X3_onlyPlace_38 x4 τ = some res) : W p l e rm_X3_onlyPlace s m args below meth c H locs 0 0 (MQ below (yy_Qi D κ ext A res) args s 0 0 A) (F0 m 38 ls []) := by
  unfold mm_X3_onlyPlace_38 at h
  refine lv_iload C.1.1 C.1.2.1 dX3_onlyPlace_38 (lv_at hl 0 rfl) ?_
  exact yy_iret C Z hr hlk rfl dX3_onlyPlace_40 h
set_option maxHeartbeats 4000000 in
set_option maxRecDepth 100000 in
theorem ww_X3_onlyPlace_26 {res : Int32 × yy_T} (C : yy_C D κ p m c cX3_onlyPlace 6 s args RX3) (hr : meth.sig.returnType = (some .int)) (hlk : meth.locks = false) (Z : yy_Z D κ ext A s.heap τ H locs) (hl : lv_has ls 6 []) (h : mm_X3_onlyPlace_26  τ = some res) : W p l e rm_X3_onlyPlace s m args below meth c H locs 0 0 (MQ below (yy_Qi D κ ext A res) args s 0 0 A) (F0 m 26 ls []) := by
  unfold mm_X3_onlyPlace_26 at h
  refine lv_iconst (v := (-1)) C.1.1 C.1.2.1 dX3_onlyPlace_26 (by decide) ?_
  exact yy_iret C Z hr hlk rfl dX3_onlyPlace_27 h
set_option maxHeartbeats 4000000 in
set_option maxRecDepth 100000 in
theorem ww_X3_onlyPlace_6 {x0 : Int32} {a1 : Nat} {x3 : Int32} {x4 : Int32} {x5 : Int32} (ha1 : a1 ∈ yy_Ints) {res : Int32 × yy_T} (C : yy_C D κ p m c cX3_onlyPlace 6 s args RX3) (hr : meth.sig.returnType = (some .int)) (hlk : meth.locks = false) (Z : yy_Z D κ ext A s.heap τ H locs) (hl : lv_has ls 6 [(0, .int x0), (1, .ref (κ 4 + a1)), (3, .int x3), (4, .int x4), (5, .int x5)]) (h : mm_X3_onlyPlace_6 x0 a1 x3 x4 x5 τ = some res) : W p l e rm_X3_onlyPlace s m args below meth c H locs 0 0 (MQ below (yy_Qi D κ ext A res) args s 0 0 A) (F0 m 6 ls []) := by
  unfold mm_X3_onlyPlace_6 at h
  refine yy_loop h (fun (w : Int32 × Int32) (τ : yy_T) => ∀ (H : Heap) (locs : List Loc) (ls : Array Slot), yy_Z D κ ext A s.heap τ H locs → lv_has ls 6 [(0, .int x0), (1, .ref (κ 4 + a1)), (3, .int x3), (4, .int w.1), (5, .int w.2)] → W p l e rm_X3_onlyPlace s m args below meth c H locs 0 0 (MQ below (yy_Qi D κ ext A res) args s 0 0 A) (F0 m 6 ls [])) ?_ H locs ls Z hl
  intro w τ y hy hI hX H locs ls Z hl
  refine ww_X3_onlyPlace_6b ha1 C Z hl hy (fun w τ H locs ls ey Z hl => hI w τ ey H locs ls Z hl) (fun w τ H locs ls ey Z hl => ?_) (fun w τ H locs ls ey Z hl => ?_)
  · have h := hX _ _ ey
    exact ww_X3_onlyPlace_38  C hr hlk Z (lv_sub hl [0] rfl) h
  · have h := hX _ _ ey
    exact ww_X3_onlyPlace_26  C hr hlk Z (lv_sub hl [] rfl) h
set_option maxHeartbeats 4000000 in
set_option maxRecDepth 100000 in
theorem ww_X3_onlyPlace_E {x0 : Int32} {a1 : Nat} {x2 : Int32} {x3 : Int32} (ha1 : a1 ∈ yy_Ints) {res : Int32 × yy_T} (C : yy_C D κ p m c cX3_onlyPlace 6 s args RX3) (hr : meth.sig.returnType = (some .int)) (hlk : meth.locks = false) (Z : yy_Z D κ ext A s.heap τ H locs) (hl : lv_has ls 6 [(0, .int x0), (1, .ref (κ 4 + a1)), (2, .int x2), (3, .int x3)]) (h : mm_X3_onlyPlace x0 a1 x2 x3 τ = some res) : W p l e rm_X3_onlyPlace s m args below meth c H locs 0 0 (MQ below (yy_Qi D κ ext A res) args s 0 0 A) (F0 m 0 ls []) := by
  unfold mm_X3_onlyPlace at h
  refine lv_iconst (v := (-1)) C.1.1 C.1.2.1 dX3_onlyPlace_0 (by decide) ?_
  refine lv_istore (lv' := [(4, .int (-1)), (0, .int x0), (1, .ref (κ 4 + a1)), (2, .int x2), (3, .int x3)]) C.1.1 C.1.2.1 dX3_onlyPlace_1 hl (by decide) rfl (fun ls hl => ?_)
  refine lv_iload_n C.1.1 C.1.2.1 dX3_onlyPlace_3 rfl (lv_at hl 3 rfl) ?_
  refine lv_istore (lv' := [(5, .int x2), (4, .int (-1)), (0, .int x0), (1, .ref (κ 4 + a1)), (2, .int x2), (3, .int x3)]) C.1.1 C.1.2.1 dX3_onlyPlace_4 hl (by decide) rfl (fun ls hl => ?_)
  exact ww_X3_onlyPlace_6 ha1 C hr hlk Z (lv_sub hl [2, 3, 5, 1, 0] rfl) h
set_option maxHeartbeats 4000000 in
set_option maxRecDepth 100000 in
theorem ss_X3_onlyPlace (l : Launch) (D : va_G) (κ : Nat → Nat) (ext : va_W) (x0 : Int32) (a1 : Nat) (x2 : Int32) (x3 : Int32) (ha1 : a1 ∈ yy_Ints) : yy_Mi l D κ ext yX3_onlyPlace cX3_onlyPlace 6 (some .int) rm_X3_onlyPlace 0 0 [.int x0, .ref (κ 4 + a1), .int x2, .int x3] (mm_X3_onlyPlace x0 a1 x2 x3) := by
  intro sz τ res h
  refine yy_ofW (by decide) (Nat.le_of_ble_eq_true rfl) ?_
  intro p e s m args below meth c ls hsz E
  obtain ⟨C, hr, hlk, Z, hl⟩ := E
  subst hsz
  exact ww_X3_onlyPlace_E ha1 C hr hlk Z hl h
end
