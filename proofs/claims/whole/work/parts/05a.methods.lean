section
variable {p : Program} {l : Launch} {e : Env} {s : State} {m : MethodId} {args : Array Value} {below : List Frame} {meth : Method} {c : Code} {H : Heap} {locs : List Loc} {ls : Array Slot} {D : va_G} {κ : Nat → Nat} {ext : va_W} {A : Nat → Prop} {τ : yy_T}
/-! MovedLines$CommonRow.copyRow([III[I)I -/
noncomputable def mm_X0_copyRow (a0 : Nat) (x1 : Int32) (x2 : Int32) (a3 : Nat) : yy_M Int32 :=
  yy_br (x1 < 0) (yy_rt 0) (yy_br (x2 < 0) (yy_rt 0) (yy_br ((Int32.ofNat (yy_len a3)) < x2) (yy_rt 0) (yy_br (x1 ≤ ((Int32.ofNat (yy_len a0)) - x2)) (yy_cp a0 (yy_len a0) x1 a3 (yy_len a3) 0 x2 (yy_rt x2)) (yy_rt 0))))
theorem kw_X0_copyRow : yy_wS RX0 yX0_copyRow cX0_copyRow 4 (some .int) 4 := ⟨⟨tw_532, tw_59, tw_533⟩, by decide +kernel⟩
abbrev rm_X0_copyRow : Room := { frames := 1, cells := 0, slots := 0, locals := 48 }
set_option maxHeartbeats 4000000 in
set_option maxRecDepth 100000 in
theorem ww_X0_copyRow_E {a0 : Nat} {x1 : Int32} {x2 : Int32} {a3 : Nat} (ha0 : a0 ∈ yy_Ints) (ha3 : a3 ∈ yy_Ints) {res : Int32 × yy_T} (C : yy_C D κ p m c cX0_copyRow 4 s args RX0) (hr : meth.sig.returnType = (some .int)) (hlk : meth.locks = false) (Z : yy_Z D κ ext A s.heap τ H locs) (hl : lv_has ls 4 [(0, .ref (κ 4 + a0)), (1, .int x1), (2, .int x2), (3, .ref (κ 4 + a3))]) (h : mm_X0_copyRow a0 x1 x2 a3 τ = some res) : W p l e rm_X0_copyRow s m args below meth c H locs 0 0 (MQ below (yy_Qi D κ ext A res) args s 0 0 A) (F0 m 0 ls []) := by
  unfold mm_X0_copyRow at h
  refine lv_iload_n C.1.1 C.1.2.1 dX0_copyRow_0 rfl (lv_at hl 1 rfl) ?_
  refine yy_if_lt (tgt := 22) C dX0_copyRow_1 (by decide) h (fun h => ?_) (fun h => ?_)
  · refine lv_iconst (v := 0) C.1.1 C.1.2.1 dX0_copyRow_22 (by decide) ?_
    exact yy_iret C Z hr hlk rfl dX0_copyRow_23 h
  · refine lv_iload_n C.1.1 C.1.2.1 dX0_copyRow_4 rfl (lv_at hl 2 rfl) ?_
    refine yy_if_lt (tgt := 22) C dX0_copyRow_5 (by decide) h (fun h => ?_) (fun h => ?_)
    · refine lv_iconst (v := 0) C.1.1 C.1.2.1 dX0_copyRow_22 (by decide) ?_
      exact yy_iret C Z hr hlk rfl dX0_copyRow_23 h
    · refine lv_iload_n C.1.1 C.1.2.1 dX0_copyRow_8 rfl (lv_at hl 2 rfl) ?_
      refine lv_aload_n C.1.1 C.1.2.1 dX0_copyRow_9 rfl (lv_at hl 3 rfl) ?_
      refine yy_alen C Z ha3 rfl dX0_copyRow_10 ?_
      refine yy_icmp_gt (tgt := 22) C dX0_copyRow_11 (by decide) h (fun h => ?_) (fun h => ?_)
      · refine lv_iconst (v := 0) C.1.1 C.1.2.1 dX0_copyRow_22 (by decide) ?_
        exact yy_iret C Z hr hlk rfl dX0_copyRow_23 h
      · refine lv_iload_n C.1.1 C.1.2.1 dX0_copyRow_14 rfl (lv_at hl 1 rfl) ?_
        refine lv_aload_n C.1.1 C.1.2.1 dX0_copyRow_15 rfl (lv_at hl 0 rfl) ?_
        refine yy_alen C Z ha0 rfl dX0_copyRow_16 ?_
        refine lv_iload_n C.1.1 C.1.2.1 dX0_copyRow_17 rfl (lv_at hl 2 rfl) ?_
        refine lv_isub C.1.1 C.1.2.1 dX0_copyRow_18 ?_
        refine yy_icmp_le (tgt := 24) C dX0_copyRow_19 (by decide) h (fun h => ?_) (fun h => ?_)
        · refine lv_aload_n C.1.1 C.1.2.1 dX0_copyRow_24 rfl (lv_at hl 0 rfl) ?_
          refine lv_iload_n C.1.1 C.1.2.1 dX0_copyRow_25 rfl (lv_at hl 1 rfl) ?_
          refine lv_aload_n C.1.1 C.1.2.1 dX0_copyRow_26 rfl (lv_at hl 3 rfl) ?_
          refine lv_iconst (v := 0) C.1.1 C.1.2.1 dX0_copyRow_27 (by decide) ?_
          refine lv_iload_n C.1.1 C.1.2.1 dX0_copyRow_28 rfl (lv_at hl 2 rfl) ?_
          refine yy_copy C Z hl.1 ha0 rfl ha3 rfl tw_534 yy_cpw.1 yy_cpw.2.1 yy_cpw.2.2 (Nat.le_of_ble_eq_true rfl) (Nat.le_of_ble_eq_true rfl) dX0_copyRow_29 h (fun H locs τ Z h => ?_)
          refine lv_iload_n C.1.1 C.1.2.1 dX0_copyRow_32 rfl (lv_at hl 2 rfl) ?_
          exact yy_iret C Z hr hlk rfl dX0_copyRow_33 h
        · refine lv_iconst (v := 0) C.1.1 C.1.2.1 dX0_copyRow_22 (by decide) ?_
          exact yy_iret C Z hr hlk rfl dX0_copyRow_23 h
set_option maxHeartbeats 4000000 in
set_option maxRecDepth 100000 in
theorem ss_X0_copyRow (l : Launch) (D : va_G) (κ : Nat → Nat) (ext : va_W) (a0 : Nat) (x1 : Int32) (x2 : Int32) (a3 : Nat) (ha0 : a0 ∈ yy_Ints) (ha3 : a3 ∈ yy_Ints) : yy_Mi l D κ ext yX0_copyRow cX0_copyRow 4 (some .int) rm_X0_copyRow 0 0 [.ref (κ 4 + a0), .int x1, .int x2, .ref (κ 4 + a3)] (mm_X0_copyRow a0 x1 x2 a3) := by
  intro sz τ res h
  refine yy_ofW (by decide) (Nat.le_of_ble_eq_true rfl) ?_
  intro p e s m args below meth c ls hsz E
  obtain ⟨C, hr, hlk, Z, hl⟩ := E
  subst hsz
  exact ww_X0_copyRow_E ha0 ha3 C hr hlk Z hl h
/-! MovedLines$CommonRow.setFirst([III)V -/
noncomputable def mm_X0_setFirst (k0 : Nat) (a1 : Nat) (x2 : Int32) (x3 : Int32) : yy_M Unit :=
  yy_cl (mm_X0_copyRow a1 x2 x3 (k0 + 1)) (fun r1 => yy_wF k0 3 r1 (yy_rt ()))
theorem kw_X0_setFirst : yy_wV RX0 yX0_setFirst cX0_setFirst 4 none 3 := ⟨⟨tw_528, tw_529, tw_59, tw_530⟩, by decide +kernel⟩
abbrev rm_X0_setFirst : Room := { frames := 2, cells := 0, slots := 0, locals := 71 }
set_option maxHeartbeats 4000000 in
set_option maxRecDepth 100000 in
theorem ww_X0_setFirst_E {k0 : Nat} {a1 : Nat} {x2 : Int32} {x3 : Int32} (hk0 : k0 ∈ yy_Crs) (ha1 : a1 ∈ yy_Ints) {res : Unit × yy_T} (C : yy_C D κ p m c cX0_setFirst 4 s args RX0) (hr : meth.sig.returnType = none) (hlk : meth.locks = false) (Z : yy_Z D κ ext A s.heap τ H locs) (hl : lv_has ls 4 [(0, .ref (κ 4 + k0)), (1, .ref (κ 4 + a1)), (2, .int x2), (3, .int x3)]) (h : mm_X0_setFirst k0 a1 x2 x3 τ = some res) : W p l e rm_X0_setFirst s m args below meth c H locs 0 0 (MQ below (yy_Qv D κ ext A res) args s 0 0 A) (F0 m 0 ls []) := by
  unfold mm_X0_setFirst at h
  refine lv_aload_n C.1.1 C.1.2.1 dX0_setFirst_0 rfl (lv_at hl 0 rfl) ?_
  refine lv_aload_n C.1.1 C.1.2.1 dX0_setFirst_1 rfl (lv_at hl 1 rfl) ?_
  refine lv_iload_n C.1.1 C.1.2.1 dX0_setFirst_2 rfl (lv_at hl 2 rfl) ?_
  refine lv_iload_n C.1.1 C.1.2.1 dX0_setFirst_3 rfl (lv_at hl 3 rfl) ?_
  refine lv_aload_n C.1.1 C.1.2.1 dX0_setFirst_4 rfl (lv_at hl 0 rfl) ?_
  refine yg_X0_0 C Z hk0 tw_243 dX0_setFirst_5 ?_
  refine yy_cSi0 (As := [.ref (κ 4 + a1), .int x2, .int x3, .ref (κ 4 + (k0 + 1))]) (rest := [.ref (κ 4 + k0)])  C Z (ss_X0_copyRow l D κ ext a1 x2 x3 (k0 + 1) ha1 (yy_C1 _ hk0)) tw_531 kw_X0_copyRow ⟨⟨rfl, rfl⟩, ⟨Nat.le_of_ble_eq_true rfl, Nat.le_of_ble_eq_true rfl⟩, Nat.le_of_ble_eq_true rfl, Nat.le_of_ble_eq_true rfl⟩ hl.1 rfl (Nat.le_of_ble_eq_true rfl) dX0_setFirst_8 h (fun r1 τ H locs Z h => ?_)
  refine yp_X0_3 C Z hk0 tw_246 dX0_setFirst_11 h (fun H locs τ Z h => ?_)
  exact yy_vret C Z hr hlk dX0_setFirst_14 h
set_option maxHeartbeats 4000000 in
set_option maxRecDepth 100000 in
theorem ss_X0_setFirst (l : Launch) (D : va_G) (κ : Nat → Nat) (ext : va_W) (k0 : Nat) (a1 : Nat) (x2 : Int32) (x3 : Int32) (hk0 : k0 ∈ yy_Crs) (ha1 : a1 ∈ yy_Ints) : yy_Mv l D κ ext yX0_setFirst cX0_setFirst 4 none rm_X0_setFirst 0 0 [.ref (κ 4 + k0), .ref (κ 4 + a1), .int x2, .int x3] (mm_X0_setFirst k0 a1 x2 x3) := by
  intro sz τ res h
  refine yy_ofW (by decide) (Nat.le_of_ble_eq_true rfl) ?_
  intro p e s m args below meth c ls hsz E
  obtain ⟨C, hr, hlk, Z, hl⟩ := E
  subst hsz
  exact ww_X0_setFirst_E hk0 ha1 C hr hlk Z hl h
/-! MovedLines$CommonRow.setSecond([III)V -/
noncomputable def mm_X0_setSecond (k0 : Nat) (a1 : Nat) (x2 : Int32) (x3 : Int32) : yy_M Unit :=
  yy_cl (mm_X0_copyRow a1 x2 x3 (k0 + 2)) (fun r1 => yy_wF k0 4 r1 (yy_rt ()))
theorem kw_X0_setSecond : yy_wV RX0 yX0_setSecond cX0_setSecond 4 none 3 := ⟨⟨tw_544, tw_545, tw_59, tw_546⟩, by decide +kernel⟩
abbrev rm_X0_setSecond : Room := { frames := 2, cells := 0, slots := 0, locals := 71 }
set_option maxHeartbeats 4000000 in
set_option maxRecDepth 100000 in
theorem ww_X0_setSecond_E {k0 : Nat} {a1 : Nat} {x2 : Int32} {x3 : Int32} (hk0 : k0 ∈ yy_Crs) (ha1 : a1 ∈ yy_Ints) {res : Unit × yy_T} (C : yy_C D κ p m c cX0_setSecond 4 s args RX0) (hr : meth.sig.returnType = none) (hlk : meth.locks = false) (Z : yy_Z D κ ext A s.heap τ H locs) (hl : lv_has ls 4 [(0, .ref (κ 4 + k0)), (1, .ref (κ 4 + a1)), (2, .int x2), (3, .int x3)]) (h : mm_X0_setSecond k0 a1 x2 x3 τ = some res) : W p l e rm_X0_setSecond s m args below meth c H locs 0 0 (MQ below (yy_Qv D κ ext A res) args s 0 0 A) (F0 m 0 ls []) := by
  unfold mm_X0_setSecond at h
  refine lv_aload_n C.1.1 C.1.2.1 dX0_setSecond_0 rfl (lv_at hl 0 rfl) ?_
  refine lv_aload_n C.1.1 C.1.2.1 dX0_setSecond_1 rfl (lv_at hl 1 rfl) ?_
  refine lv_iload_n C.1.1 C.1.2.1 dX0_setSecond_2 rfl (lv_at hl 2 rfl) ?_
  refine lv_iload_n C.1.1 C.1.2.1 dX0_setSecond_3 rfl (lv_at hl 3 rfl) ?_
  refine lv_aload_n C.1.1 C.1.2.1 dX0_setSecond_4 rfl (lv_at hl 0 rfl) ?_
  refine yg_X0_1 C Z hk0 tw_244 dX0_setSecond_5 ?_
  refine yy_cSi0 (As := [.ref (κ 4 + a1), .int x2, .int x3, .ref (κ 4 + (k0 + 2))]) (rest := [.ref (κ 4 + k0)])  C Z (ss_X0_copyRow l D κ ext a1 x2 x3 (k0 + 2) ha1 (yy_C2 _ hk0)) tw_531 kw_X0_copyRow ⟨⟨rfl, rfl⟩, ⟨Nat.le_of_ble_eq_true rfl, Nat.le_of_ble_eq_true rfl⟩, Nat.le_of_ble_eq_true rfl, Nat.le_of_ble_eq_true rfl⟩ hl.1 rfl (Nat.le_of_ble_eq_true rfl) dX0_setSecond_8 h (fun r1 τ H locs Z h => ?_)
  refine yp_X0_4 C Z hk0 tw_247 dX0_setSecond_11 h (fun H locs τ Z h => ?_)
  exact yy_vret C Z hr hlk dX0_setSecond_14 h
set_option maxHeartbeats 4000000 in
set_option maxRecDepth 100000 in
theorem ss_X0_setSecond (l : Launch) (D : va_G) (κ : Nat → Nat) (ext : va_W) (k0 : Nat) (a1 : Nat) (x2 : Int32) (x3 : Int32) (hk0 : k0 ∈ yy_Crs) (ha1 : a1 ∈ yy_Ints) : yy_Mv l D κ ext yX0_setSecond cX0_setSecond 4 none rm_X0_setSecond 0 0 [.ref (κ 4 + k0), .ref (κ 4 + a1), .int x2, .int x3] (mm_X0_setSecond k0 a1 x2 x3) := by
  intro sz τ res h
  refine yy_ofW (by decide) (Nat.le_of_ble_eq_true rfl) ?_
  intro p e s m args below meth c ls hsz E
  obtain ⟨C, hr, hlk, Z, hl⟩ := E
  subst hsz
  exact ww_X0_setSecond_E hk0 ha1 C hr hlk Z hl h
/-! MovedLines$CommonRow.measure()I -/
noncomputable def mm_X0_measure_2b (k0 : Nat) (x1 : Int32) : yy_M ((Int32) ⊕ ((Unit))) :=
  yy_rF k0 4 fun v1 => yy_br (v1 < x1) (yy_rt (.inr ())) (yy_rF k0 3 fun v2 => yy_wA (k0 + 3) 225 ((v2 * 15) + x1) 0 (yy_rt (.inl (x1 + 1))))
noncomputable def mm_X0_measure_145 (k0 : Nat) (x1 : Int32) (x2 : Int32) (x3 : Int32) (x4 : Int32) (x5 : Int32) (x6 : Int32) : yy_M ((Int32 × Int32) ⊕ ((Unit))) :=
  yy_wA (k0 + 3) 225 (x3 + x6) x5 (yy_rt (.inl (x5, (x6 + (-1)))))
noncomputable def mm_X0_measure_83b (k0 : Nat) (x1 : Int32) (x2 : Int32) (x3 : Int32) (x4 : Int32) (x5 : Int32) (x6 : Int32) : yy_M ((Int32 × Int32) ⊕ ((Unit))) :=
  yy_br (x6 < 0) (yy_rt (.inr ())) (yy_rA (k0 + 2) 14 x6 fun v7 => yy_br (x2 = v7) (yy_rA (k0 + 3) 225 ((x4 + x6) + 1) fun v10 => mm_X0_measure_145 k0 x1 x2 x3 x4 (v10 + 1) x6) (yy_rA (k0 + 3) 225 (x4 + x6) fun v8 => yy_br (v8 ≤ x5) (mm_X0_measure_145 k0 x1 x2 x3 x4 x5 x6) (yy_rA (k0 + 3) 225 (x4 + x6) fun v9 => mm_X0_measure_145 k0 x1 x2 x3 x4 v9 x6)))
noncomputable def mm_X0_measure_162 (k0 : Nat) (x1 : Int32) : yy_M ((Int32) ⊕ ((Unit))) :=
  yy_rt (.inl (x1 + (-1)))
noncomputable def mm_X0_measure_83 (k0 : Nat) (x1 : Int32) (x2 : Int32) (x3 : Int32) (x4 : Int32) (x5 : Int32) (x6 : Int32) : yy_M ((Int32) ⊕ ((Unit))) :=
  yy_cl (yy_lp (fun (w : Int32 × Int32) => mm_X0_measure_83b k0 x1 x2 x3 x4 w.1 w.2) (x5, x6)) (fun w => mm_X0_measure_162 k0 x1)
noncomputable def mm_X0_measure_38b (k0 : Nat) (x1 : Int32) : yy_M ((Int32) ⊕ ((Unit))) :=
  yy_br (x1 < 0) (yy_rt (.inr ())) (yy_rA (k0 + 1) 14 x1 fun v4 => yy_rF k0 4 fun v5 => yy_wA (k0 + 3) 225 ((x1 * 15) + v5) 0 (yy_rF k0 4 fun v6 => mm_X0_measure_83 k0 x1 v4 (x1 * 15) ((x1 * 15) + 15) 0 (v6 - 1)))
noncomputable def mm_X0_measure_168 (k0 : Nat) : yy_M Int32 :=
  yy_rA (k0 + 3) 225 0 fun v11 => yy_rt v11
noncomputable def mm_X0_measure_38 (k0 : Nat) (x1 : Int32) : yy_M Int32 :=
  yy_cl (yy_lp (fun (w : Int32) => mm_X0_measure_38b k0 w) x1) (fun w => mm_X0_measure_168 k0)
noncomputable def mm_X0_measure_31 (k0 : Nat) : yy_M Int32 :=
  yy_rF k0 3 fun v3 => mm_X0_measure_38 k0 (v3 - 1)
noncomputable def mm_X0_measure_2 (k0 : Nat) (x1 : Int32) : yy_M Int32 :=
  yy_cl (yy_lp (fun (w : Int32) => mm_X0_measure_2b k0 w) x1) (fun w => mm_X0_measure_31 k0)
noncomputable def mm_X0_measure (k0 : Nat) : yy_M Int32 :=
  mm_X0_measure_2 k0 0
theorem kw_X0_measure : yy_wV RX0 yX0_measure cX0_measure 7 (some .int) 0 := ⟨⟨tw_548, tw_549, tw_59, tw_550⟩, by decide +kernel⟩
abbrev rm_X0_measure : Room := { frames := 0, cells := 0, slots := 0, locals := 0 }
set_option maxHeartbeats 4000000 in
set_option maxRecDepth 100000 in
theorem ww_X0_measure_2b {k0 : Nat} {x1 : Int32} (hk0 : k0 ∈ yy_Crs) {res : ((Int32) ⊕ ((Unit))) × yy_T} {Q : State → Prop} (C : yy_C D κ p m c cX0_measure 7 s args RX0) (Z : yy_Z D κ ext A s.heap τ H locs) (hl : lv_has ls 7 [(0, .ref (κ 4 + k0)), (1, .int x1)]) (h : mm_X0_measure_2b k0 x1 τ = some res)
    (kI : ∀ (w : Int32) (τ1 : yy_T) (H1 : Heap) (locs1 : List Loc) (ls1 : Array Slot), res = (.inl w, τ1) → yy_Z D κ ext A s.heap τ1 H1 locs1 → lv_has ls1 7 [(0, .ref (κ 4 + k0)), (1, .int w)] → W p l e rm_X0_measure s m args below meth c H1 locs1 0 0 Q (F0 m 2 ls1 []))
    (kR0 : ∀ (w : Unit) (τ1 : yy_T) (H1 : Heap) (locs1 : List Loc) (ls1 : Array Slot), res = (.inr w, τ1) → yy_Z D κ ext A s.heap τ1 H1 locs1 → lv_has ls1 7 [(0, .ref (κ 4 + k0))] → W p l e rm_X0_measure s m args below meth c H1 locs1 0 0 Q (F0 m 31 ls1 [])) : W p l e rm_X0_measure s m args below meth c H locs 0 0 Q (F0 m 2 ls []) := by
  unfold mm_X0_measure_2b at h
  refine lv_iload_n C.1.1 C.1.2.1 dX0_measure_2 rfl (lv_at hl 1 rfl) ?_
  refine lv_aload_n C.1.1 C.1.2.1 dX0_measure_3 rfl (lv_at hl 0 rfl) ?_
  refine yg_X0_4 C Z hk0 tw_247 dX0_measure_4 h (fun v1 h => ?_)
  refine yy_icmp_gt (tgt := 31) C dX0_measure_7 (by decide) h (fun h => ?_) (fun h => ?_)
  · exact kR0 _ _ _ _ _ (yy_rt_of h) Z (lv_sub hl [0] rfl)
  · refine lv_aload_n C.1.1 C.1.2.1 dX0_measure_10 rfl (lv_at hl 0 rfl) ?_
    refine yg_X0_2 C Z hk0 tw_245 dX0_measure_11 ?_
    refine lv_aload_n C.1.1 C.1.2.1 dX0_measure_14 rfl (lv_at hl 0 rfl) ?_
    refine yg_X0_3 C Z hk0 tw_246 dX0_measure_15 h (fun v2 h => ?_)
    refine lv_bipush (v := 15) C.1.1 C.1.2.1 dX0_measure_18 (by decide) ?_
    refine lv_imul C.1.1 C.1.2.1 dX0_measure_20 ?_
    refine lv_iload_n C.1.1 C.1.2.1 dX0_measure_21 rfl (lv_at hl 1 rfl) ?_
    refine lv_iadd C.1.1 C.1.2.1 dX0_measure_22 ?_
    refine lv_iconst (v := 0) C.1.1 C.1.2.1 dX0_measure_23 (by decide) ?_
    refine yy_iast C Z (yy_C3 _ hk0) (yy_lenC3 _ hk0) dX0_measure_24 h (fun H locs τ Z h => ?_)
    refine lv_iinc (v := x1 + 1) (lv' := [(1, .int (x1 + 1)), (0, .ref (κ 4 + k0))]) C.1.1 C.1.2.1 dX0_measure_25 hl (k := 1) rfl (by rfl) (by decide) rfl (fun ls hl => ?_)
    refine lv_goto (tgt := 2) C.1.1 C.1.2.1 dX0_measure_28 (by decide) ?_
    exact kI _ _ _ _ _ (yy_rt_of h) Z (lv_sub hl [1, 0] rfl)
set_option maxHeartbeats 4000000 in
set_option maxRecDepth 100000 in
theorem ww_X0_measure_145 {k0 : Nat} {x1 : Int32} {x2 : Int32} {x3 : Int32} {x4 : Int32} {x5 : Int32} {x6 : Int32} (hk0 : k0 ∈ yy_Crs) {res : ((Int32 × Int32) ⊕ ((Unit))) × yy_T} {Q : State → Prop} (C : yy_C D κ p m c cX0_measure 7 s args RX0) (Z : yy_Z D κ ext A s.heap τ H locs) (hl : lv_has ls 7 [(0, .ref (κ 4 + k0)), (1, .int x1), (2, .int x2), (3, .int x3), (4, .int x4), (5, .int x5), (6, .int x6)]) (h : mm_X0_measure_145 k0 x1 x2 x3 x4 x5 x6 τ = some res)
    (kI : ∀ (w : Int32 × Int32) (τ1 : yy_T) (H1 : Heap) (locs1 : List Loc) (ls1 : Array Slot), res = (.inl w, τ1) → yy_Z D κ ext A s.heap τ1 H1 locs1 → lv_has ls1 7 [(0, .ref (κ 4 + k0)), (1, .int x1), (2, .int x2), (3, .int x3), (4, .int x4), (5, .int w.1), (6, .int w.2)] → W p l e rm_X0_measure s m args below meth c H1 locs1 0 0 Q (F0 m 83 ls1 [])) : W p l e rm_X0_measure s m args below meth c H locs 0 0 Q (F0 m 145 ls []) := by
  unfold mm_X0_measure_145 at h
  refine lv_aload_n C.1.1 C.1.2.1 dX0_measure_145 rfl (lv_at hl 0 rfl) ?_
  refine yg_X0_2 C Z hk0 tw_245 dX0_measure_146 ?_
  refine lv_iload_n C.1.1 C.1.2.1 dX0_measure_149 rfl (lv_at hl 3 rfl) ?_
  refine lv_iload C.1.1 C.1.2.1 dX0_measure_150 (lv_at hl 6 rfl) ?_
  refine lv_iadd C.1.1 C.1.2.1 dX0_measure_152 ?_
  refine lv_iload C.1.1 C.1.2.1 dX0_measure_153 (lv_at hl 5 rfl) ?_
  refine yy_iast C Z (yy_C3 _ hk0) (yy_lenC3 _ hk0) dX0_measure_155 h (fun H locs τ Z h => ?_)
  refine lv_iinc (v := x6 + (-1)) (lv' := [(6, .int (x6 + (-1))), (0, .ref (κ 4 + k0)), (1, .int x1), (2, .int x2), (3, .int x3), (4, .int x4), (5, .int x5)]) C.1.1 C.1.2.1 dX0_measure_156 hl (k := 6) rfl (by rfl) (by decide) rfl (fun ls hl => ?_)
  refine lv_goto (tgt := 83) C.1.1 C.1.2.1 dX0_measure_159 (by decide) ?_
  exact kI _ _ _ _ _ (yy_rt_of h) Z (lv_sub hl [1, 2, 3, 4, 5, 6, 0] rfl)
set_option maxHeartbeats 4000000 in
set_option maxRecDepth 100000 in
theorem ww_X0_measure_83b {k0 : Nat} {x1 : Int32} {x2 : Int32} {x3 : Int32} {x4 : Int32} {x5 : Int32} {x6 : Int32} (hk0 : k0 ∈ yy_Crs) {res : ((Int32 × Int32) ⊕ ((Unit))) × yy_T} {Q : State → Prop} (C : yy_C D κ p m c cX0_measure 7 s args RX0) (Z : yy_Z D κ ext A s.heap τ H locs) (hl : lv_has ls 7 [(0, .ref (κ 4 + k0)), (1, .int x1), (2, .int x2), (3, .int x3), (4, .int x4), (5, .int x5), (6, .int x6)]) (h : mm_X0_measure_83b k0 x1 x2 x3 x4 x5 x6 τ = some res)
    (kI : ∀ (w : Int32 × Int32) (τ1 : yy_T) (H1 : Heap) (locs1 : List Loc) (ls1 : Array Slot), res = (.inl w, τ1) → yy_Z D κ ext A s.heap τ1 H1 locs1 → lv_has ls1 7 [(0, .ref (κ 4 + k0)), (1, .int x1), (2, .int x2), (3, .int x3), (4, .int x4), (5, .int w.1), (6, .int w.2)] → W p l e rm_X0_measure s m args below meth c H1 locs1 0 0 Q (F0 m 83 ls1 []))
    (kR0 : ∀ (w : Unit) (τ1 : yy_T) (H1 : Heap) (locs1 : List Loc) (ls1 : Array Slot), res = (.inr w, τ1) → yy_Z D κ ext A s.heap τ1 H1 locs1 → lv_has ls1 7 [(0, .ref (κ 4 + k0)), (1, .int x1)] → W p l e rm_X0_measure s m args below meth c H1 locs1 0 0 Q (F0 m 162 ls1 [])) : W p l e rm_X0_measure s m args below meth c H locs 0 0 Q (F0 m 83 ls []) := by
  unfold mm_X0_measure_83b at h
  refine lv_iload C.1.1 C.1.2.1 dX0_measure_83 (lv_at hl 6 rfl) ?_
  refine yy_if_lt (tgt := 162) C dX0_measure_85 (by decide) h (fun h => ?_) (fun h => ?_)
  · exact kR0 _ _ _ _ _ (yy_rt_of h) Z (lv_sub hl [0, 1] rfl)
  · refine lv_iload_n C.1.1 C.1.2.1 dX0_measure_88 rfl (lv_at hl 2 rfl) ?_
    refine lv_aload_n C.1.1 C.1.2.1 dX0_measure_89 rfl (lv_at hl 0 rfl) ?_
    refine yg_X0_1 C Z hk0 tw_244 dX0_measure_90 ?_
    refine lv_iload C.1.1 C.1.2.1 dX0_measure_93 (lv_at hl 6 rfl) ?_
    refine yy_iald C Z (yy_C2 _ hk0) (yy_lenC2 _ hk0) dX0_measure_95 h (fun v7 h => ?_)
    refine yy_icmp_ne (tgt := 118) C dX0_measure_96 (by decide) h (fun h => ?_) (fun h => ?_)
    · refine lv_iload C.1.1 C.1.2.1 dX0_measure_118 (lv_at hl 5 rfl) ?_
      refine lv_aload_n C.1.1 C.1.2.1 dX0_measure_120 rfl (lv_at hl 0 rfl) ?_
      refine yg_X0_2 C Z hk0 tw_245 dX0_measure_121 ?_
      refine lv_iload C.1.1 C.1.2.1 dX0_measure_124 (lv_at hl 4 rfl) ?_
      refine lv_iload C.1.1 C.1.2.1 dX0_measure_126 (lv_at hl 6 rfl) ?_
      refine lv_iadd C.1.1 C.1.2.1 dX0_measure_128 ?_
      refine yy_iald C Z (yy_C3 _ hk0) (yy_lenC3 _ hk0) dX0_measure_129 h (fun v8 h => ?_)
      refine yy_icmp_ge (tgt := 145) C dX0_measure_130 (by decide) h (fun h => ?_) (fun h => ?_)
      · exact ww_X0_measure_145 hk0 C Z (lv_sub hl [0, 1, 2, 3, 4, 5, 6] rfl) h kI
      · refine lv_aload_n C.1.1 C.1.2.1 dX0_measure_133 rfl (lv_at hl 0 rfl) ?_
        refine yg_X0_2 C Z hk0 tw_245 dX0_measure_134 ?_
        refine lv_iload C.1.1 C.1.2.1 dX0_measure_137 (lv_at hl 4 rfl) ?_
        refine lv_iload C.1.1 C.1.2.1 dX0_measure_139 (lv_at hl 6 rfl) ?_
        refine lv_iadd C.1.1 C.1.2.1 dX0_measure_141 ?_
        refine yy_iald C Z (yy_C3 _ hk0) (yy_lenC3 _ hk0) dX0_measure_142 h (fun v9 h => ?_)
        refine lv_istore (lv' := [(5, .int v9), (0, .ref (κ 4 + k0)), (1, .int x1), (2, .int x2), (3, .int x3), (4, .int x4), (6, .int x6)]) C.1.1 C.1.2.1 dX0_measure_143 hl (by decide) rfl (fun ls hl => ?_)
        exact ww_X0_measure_145 hk0 C Z (lv_sub hl [1, 2, 3, 4, 5, 0, 6] rfl) h kI
    · refine lv_aload_n C.1.1 C.1.2.1 dX0_measure_99 rfl (lv_at hl 0 rfl) ?_
      refine yg_X0_2 C Z hk0 tw_245 dX0_measure_100 ?_
      refine lv_iload C.1.1 C.1.2.1 dX0_measure_103 (lv_at hl 4 rfl) ?_
      refine lv_iload C.1.1 C.1.2.1 dX0_measure_105 (lv_at hl 6 rfl) ?_
      refine lv_iadd C.1.1 C.1.2.1 dX0_measure_107 ?_
      refine lv_iconst (v := 1) C.1.1 C.1.2.1 dX0_measure_108 (by decide) ?_
      refine lv_iadd C.1.1 C.1.2.1 dX0_measure_109 ?_
      refine yy_iald C Z (yy_C3 _ hk0) (yy_lenC3 _ hk0) dX0_measure_110 h (fun v10 h => ?_)
      refine lv_iconst (v := 1) C.1.1 C.1.2.1 dX0_measure_111 (by decide) ?_
      refine lv_iadd C.1.1 C.1.2.1 dX0_measure_112 ?_
      refine lv_istore (lv' := [(5, .int (v10 + 1)), (0, .ref (κ 4 + k0)), (1, .int x1), (2, .int x2), (3, .int x3), (4, .int x4), (6, .int x6)]) C.1.1 C.1.2.1 dX0_measure_113 hl (by decide) rfl (fun ls hl => ?_)
      refine lv_goto (tgt := 145) C.1.1 C.1.2.1 dX0_measure_115 (by decide) ?_
      exact ww_X0_measure_145 hk0 C Z (lv_sub hl [1, 2, 3, 4, 5, 0, 6] rfl) h kI
set_option maxHeartbeats 4000000 in
set_option maxRecDepth 100000 in
theorem ww_X0_measure_162 {k0 : Nat} {x1 : Int32} (hk0 : k0 ∈ yy_Crs) {res : ((Int32) ⊕ ((Unit))) × yy_T} {Q : State → Prop} (C : yy_C D κ p m c cX0_measure 7 s args RX0) (Z : yy_Z D κ ext A s.heap τ H locs) (hl : lv_has ls 7 [(0, .ref (κ 4 + k0)), (1, .int x1)]) (h : mm_X0_measure_162 k0 x1 τ = some res)
    (kI : ∀ (w : Int32) (τ1 : yy_T) (H1 : Heap) (locs1 : List Loc) (ls1 : Array Slot), res = (.inl w, τ1) → yy_Z D κ ext A s.heap τ1 H1 locs1 → lv_has ls1 7 [(0, .ref (κ 4 + k0)), (1, .int w)] → W p l e rm_X0_measure s m args below meth c H1 locs1 0 0 Q (F0 m 38 ls1 [])) : W p l e rm_X0_measure s m args below meth c H locs 0 0 Q (F0 m 162 ls []) := by
  unfold mm_X0_measure_162 at h
  refine lv_iinc (v := x1 + (-1)) (lv' := [(1, .int (x1 + (-1))), (0, .ref (κ 4 + k0))]) C.1.1 C.1.2.1 dX0_measure_162 hl (k := 1) rfl (by rfl) (by decide) rfl (fun ls hl => ?_)
  refine lv_goto (tgt := 38) C.1.1 C.1.2.1 dX0_measure_165 (by decide) ?_
  exact kI _ _ _ _ _ (yy_rt_of h) Z (lv_sub hl [1, 0] rfl)
set_option maxHeartbeats 4000000 in
set_option maxRecDepth 100000 in
theorem ww_X0_measure_83 {k0 : Nat} {x1 : Int32} {x2 : Int32} {x3 : Int32} {x4 : Int32} {x5 : Int32} {x6 : Int32} (hk0 : k0 ∈ yy_Crs) {res : ((Int32) ⊕ ((Unit))) × yy_T} {Q : State → Prop} (C : yy_C D κ p m c cX0_measure 7 s args RX0) (Z : yy_Z D κ ext A s.heap τ H locs) (hl : lv_has ls 7 [(0, .ref (κ 4 + k0)), (1, .int x1), (2, .int x2), (3, .int x3), (4, .int x4), (5, .int x5), (6, .int x6)]) (h : mm_X0_measure_83 k0 x1 x2 x3 x4 x5 x6 τ = some res)
    (kI : ∀ (w : Int32) (τ1 : yy_T) (H1 : Heap) (locs1 : List Loc) (ls1 : Array Slot), res = (.inl w, τ1) → yy_Z D κ ext A s.heap τ1 H1 locs1 → lv_has ls1 7 [(0, .ref (κ 4 + k0)), (1, .int w)] → W p l e rm_X0_measure s m args below meth c H1 locs1 0 0 Q (F0 m 38 ls1 [])) : W p l e rm_X0_measure s m args below meth c H locs 0 0 Q (F0 m 83 ls []) := by
  unfold mm_X0_measure_83 at h
  refine yy_loop h (fun (w : Int32 × Int32) (τ : yy_T) => ∀ (H : Heap) (locs : List Loc) (ls : Array Slot), yy_Z D κ ext A s.heap τ H locs → lv_has ls 7 [(0, .ref (κ 4 + k0)), (1, .int x1), (2, .int x2), (3, .int x3), (4, .int x4), (5, .int w.1), (6, .int w.2)] → W p l e rm_X0_measure s m args below meth c H locs 0 0 Q (F0 m 83 ls [])) ?_ H locs ls Z hl
  intro w τ y hy hI hX H locs ls Z hl
  refine ww_X0_measure_83b hk0 C Z hl hy (fun w τ H locs ls ey Z hl => hI w τ ey H locs ls Z hl) (fun w τ H locs ls ey Z hl => ?_)
  · have h := hX _ _ ey
    exact ww_X0_measure_162 hk0 C Z (lv_sub hl [0, 1] rfl) h kI
set_option maxHeartbeats 4000000 in
set_option maxRecDepth 100000 in
theorem ww_X0_measure_38b {k0 : Nat} {x1 : Int32} (hk0 : k0 ∈ yy_Crs) {res : ((Int32) ⊕ ((Unit))) × yy_T} {Q : State → Prop} (C : yy_C D κ p m c cX0_measure 7 s args RX0) (Z : yy_Z D κ ext A s.heap τ H locs) (hl : lv_has ls 7 [(0, .ref (κ 4 + k0)), (1, .int x1)]) (h : mm_X0_measure_38b k0 x1 τ = some res)
    (kI : ∀ (w : Int32) (τ1 : yy_T) (H1 : Heap) (locs1 : List Loc) (ls1 : Array Slot), res = (.inl w, τ1) → yy_Z D κ ext A s.heap τ1 H1 locs1 → lv_has ls1 7 [(0, .ref (κ 4 + k0)), (1, .int w)] → W p l e rm_X0_measure s m args below meth c H1 locs1 0 0 Q (F0 m 38 ls1 []))
    (kR0 : ∀ (w : Unit) (τ1 : yy_T) (H1 : Heap) (locs1 : List Loc) (ls1 : Array Slot), res = (.inr w, τ1) → yy_Z D κ ext A s.heap τ1 H1 locs1 → lv_has ls1 7 [(0, .ref (κ 4 + k0))] → W p l e rm_X0_measure s m args below meth c H1 locs1 0 0 Q (F0 m 168 ls1 [])) : W p l e rm_X0_measure s m args below meth c H locs 0 0 Q (F0 m 38 ls []) := by
  unfold mm_X0_measure_38b at h
  refine lv_iload_n C.1.1 C.1.2.1 dX0_measure_38 rfl (lv_at hl 1 rfl) ?_
  refine yy_if_lt (tgt := 168) C dX0_measure_39 (by decide) h (fun h => ?_) (fun h => ?_)
  · exact kR0 _ _ _ _ _ (yy_rt_of h) Z (lv_sub hl [0] rfl)
  · refine lv_aload_n C.1.1 C.1.2.1 dX0_measure_42 rfl (lv_at hl 0 rfl) ?_
    refine yg_X0_0 C Z hk0 tw_243 dX0_measure_43 ?_
    refine lv_iload_n C.1.1 C.1.2.1 dX0_measure_46 rfl (lv_at hl 1 rfl) ?_
    refine yy_iald C Z (yy_C1 _ hk0) (yy_lenC1 _ hk0) dX0_measure_47 h (fun v4 h => ?_)
    refine lv_istore_n (lv' := [(2, .int v4), (0, .ref (κ 4 + k0)), (1, .int x1)]) C.1.1 C.1.2.1 dX0_measure_48 rfl hl (by decide) rfl (fun ls hl => ?_)
    refine lv_iload_n C.1.1 C.1.2.1 dX0_measure_49 rfl (lv_at hl 2 rfl) ?_
    refine lv_bipush (v := 15) C.1.1 C.1.2.1 dX0_measure_50 (by decide) ?_
    refine lv_imul C.1.1 C.1.2.1 dX0_measure_52 ?_
    refine lv_istore_n (lv' := [(3, .int (x1 * 15)), (2, .int v4), (0, .ref (κ 4 + k0)), (1, .int x1)]) C.1.1 C.1.2.1 dX0_measure_53 rfl hl (by decide) rfl (fun ls hl => ?_)
    refine lv_iload_n C.1.1 C.1.2.1 dX0_measure_54 rfl (lv_at hl 0 rfl) ?_
    refine lv_bipush (v := 15) C.1.1 C.1.2.1 dX0_measure_55 (by decide) ?_
    refine lv_iadd C.1.1 C.1.2.1 dX0_measure_57 ?_
    refine lv_istore (lv' := [(4, .int ((x1 * 15) + 15)), (3, .int (x1 * 15)), (2, .int v4), (0, .ref (κ 4 + k0)), (1, .int x1)]) C.1.1 C.1.2.1 dX0_measure_58 hl (by decide) rfl (fun ls hl => ?_)
    refine lv_iconst (v := 0) C.1.1 C.1.2.1 dX0_measure_60 (by decide) ?_
    refine lv_istore (lv' := [(5, .int 0), (4, .int ((x1 * 15) + 15)), (3, .int (x1 * 15)), (2, .int v4), (0, .ref (κ 4 + k0)), (1, .int x1)]) C.1.1 C.1.2.1 dX0_measure_61 hl (by decide) rfl (fun ls hl => ?_)
    refine lv_aload_n C.1.1 C.1.2.1 dX0_measure_63 rfl (lv_at hl 4 rfl) ?_
    refine yg_X0_2 C Z hk0 tw_245 dX0_measure_64 ?_
    refine lv_iload_n C.1.1 C.1.2.1 dX0_measure_67 rfl (lv_at hl 2 rfl) ?_
    refine lv_aload_n C.1.1 C.1.2.1 dX0_measure_68 rfl (lv_at hl 4 rfl) ?_
    refine yg_X0_4 C Z hk0 tw_247 dX0_measure_69 h (fun v5 h => ?_)
    refine lv_iadd C.1.1 C.1.2.1 dX0_measure_72 ?_
    refine lv_iconst (v := 0) C.1.1 C.1.2.1 dX0_measure_73 (by decide) ?_
    refine yy_iast C Z (yy_C3 _ hk0) (yy_lenC3 _ hk0) dX0_measure_74 h (fun H locs τ Z h => ?_)
    refine lv_aload_n C.1.1 C.1.2.1 dX0_measure_75 rfl (lv_at hl 4 rfl) ?_
    refine yg_X0_4 C Z hk0 tw_247 dX0_measure_76 h (fun v6 h => ?_)
    refine lv_iconst (v := 1) C.1.1 C.1.2.1 dX0_measure_79 (by decide) ?_
    refine lv_isub C.1.1 C.1.2.1 dX0_measure_80 ?_
    refine lv_istore (lv' := [(6, .int (v6 - 1)), (5, .int 0), (4, .int ((x1 * 15) + 15)), (3, .int (x1 * 15)), (2, .int v4), (0, .ref (κ 4 + k0)), (1, .int x1)]) C.1.1 C.1.2.1 dX0_measure_81 hl (by decide) rfl (fun ls hl => ?_)
    exact ww_X0_measure_83 hk0 C Z (lv_sub hl [5, 6, 4, 3, 2, 1, 0] rfl) h kI
set_option maxHeartbeats 4000000 in
set_option maxRecDepth 100000 in
theorem ww_X0_measure_168 {k0 : Nat} (hk0 : k0 ∈ yy_Crs) {res : Int32 × yy_T} (C : yy_C D κ p m c cX0_measure 7 s args RX0) (hr : meth.sig.returnType = (some .int)) (hlk : meth.locks = false) (Z : yy_Z D κ ext A s.heap τ H locs) (hl : lv_has ls 7 [(0, .ref (κ 4 + k0))]) (h : mm_X0_measure_168 k0 τ = some res) : W p l e rm_X0_measure s m args below meth c H locs 0 0 (MQ below (yy_Qi D κ ext A res) args s 0 0 A) (F0 m 168 ls []) := by
  unfold mm_X0_measure_168 at h
  refine lv_aload_n C.1.1 C.1.2.1 dX0_measure_168 rfl (lv_at hl 0 rfl) ?_
  refine yg_X0_2 C Z hk0 tw_245 dX0_measure_169 ?_
  refine lv_iconst (v := 0) C.1.1 C.1.2.1 dX0_measure_172 (by decide) ?_
  refine yy_iald C Z (yy_C3 _ hk0) (yy_lenC3 _ hk0) dX0_measure_173 h (fun v11 h => ?_)
  exact yy_iret C Z hr hlk rfl dX0_measure_174 h
set_option maxHeartbeats 4000000 in
set_option maxRecDepth 100000 in
theorem ww_X0_measure_38 {k0 : Nat} {x1 : Int32} (hk0 : k0 ∈ yy_Crs) {res : Int32 × yy_T} (C : yy_C D κ p m c cX0_measure 7 s args RX0) (hr : meth.sig.returnType = (some .int)) (hlk : meth.locks = false) (Z : yy_Z D κ ext A s.heap τ H locs) (hl : lv_has ls 7 [(0, .ref (κ 4 + k0)), (1, .int x1)]) (h : mm_X0_measure_38 k0 x1 τ = some res) : W p l e rm_X0_measure s m args below meth c H locs 0 0 (MQ below (yy_Qi D κ ext A res) args s 0 0 A) (F0 m 38 ls []) := by
  unfold mm_X0_measure_38 at h
  refine yy_loop h (fun (w : Int32) (τ : yy_T) => ∀ (H : Heap) (locs : List Loc) (ls : Array Slot), yy_Z D κ ext A s.heap τ H locs → lv_has ls 7 [(0, .ref (κ 4 + k0)), (1, .int w)] → W p l e rm_X0_measure s m args below meth c H locs 0 0 (MQ below (yy_Qi D κ ext A res) args s 0 0 A) (F0 m 38 ls [])) ?_ H locs ls Z hl
  intro w τ y hy hI hX H locs ls Z hl
  refine ww_X0_measure_38b hk0 C Z hl hy (fun w τ H locs ls ey Z hl => hI w τ ey H locs ls Z hl) (fun w τ H locs ls ey Z hl => ?_)
  · have h := hX _ _ ey
    exact ww_X0_measure_168 hk0 C hr hlk Z (lv_sub hl [0] rfl) h
set_option maxHeartbeats 4000000 in
set_option maxRecDepth 100000 in
theorem ww_X0_measure_31 {k0 : Nat} (hk0 : k0 ∈ yy_Crs) {res : Int32 × yy_T} (C : yy_C D κ p m c cX0_measure 7 s args RX0) (hr : meth.sig.returnType = (some .int)) (hlk : meth.locks = false) (Z : yy_Z D κ ext A s.heap τ H locs) (hl : lv_has ls 7 [(0, .ref (κ 4 + k0))]) (h : mm_X0_measure_31 k0 τ = some res) : W p l e rm_X0_measure s m args below meth c H locs 0 0 (MQ below (yy_Qi D κ ext A res) args s 0 0 A) (F0 m 31 ls []) := by
  unfold mm_X0_measure_31 at h
  refine lv_aload_n C.1.1 C.1.2.1 dX0_measure_31 rfl (lv_at hl 0 rfl) ?_
  refine yg_X0_3 C Z hk0 tw_246 dX0_measure_32 h (fun v3 h => ?_)
  refine lv_iconst (v := 1) C.1.1 C.1.2.1 dX0_measure_35 (by decide) ?_
  refine lv_isub C.1.1 C.1.2.1 dX0_measure_36 ?_
  refine lv_istore_n (lv' := [(1, .int (v3 - 1)), (0, .ref (κ 4 + k0))]) C.1.1 C.1.2.1 dX0_measure_37 rfl hl (by decide) rfl (fun ls hl => ?_)
  exact ww_X0_measure_38 hk0 C hr hlk Z (lv_sub hl [1, 0] rfl) h
set_option maxHeartbeats 4000000 in
set_option maxRecDepth 100000 in
theorem ww_X0_measure_2 {k0 : Nat} {x1 : Int32} (hk0 : k0 ∈ yy_Crs) {res : Int32 × yy_T} (C : yy_C D κ p m c cX0_measure 7 s args RX0) (hr : meth.sig.returnType = (some .int)) (hlk : meth.locks = false) (Z : yy_Z D κ ext A s.heap τ H locs) (hl : lv_has ls 7 [(0, .ref (κ 4 + k0)), (1, .int x1)]) (h : mm_X0_measure_2 k0 x1 τ = some res) : W p l e rm_X0_measure s m args below meth c H locs 0 0 (MQ below (yy_Qi D κ ext A res) args s 0 0 A) (F0 m 2 ls []) := by
  unfold mm_X0_measure_2 at h
  refine yy_loop h (fun (w : Int32) (τ : yy_T) => ∀ (H : Heap) (locs : List Loc) (ls : Array Slot), yy_Z D κ ext A s.heap τ H locs → lv_has ls 7 [(0, .ref (κ 4 + k0)), (1, .int w)] → W p l e rm_X0_measure s m args below meth c H locs 0 0 (MQ below (yy_Qi D κ ext A res) args s 0 0 A) (F0 m 2 ls [])) ?_ H locs ls Z hl
  intro w τ y hy hI hX H locs ls Z hl
  refine ww_X0_measure_2b hk0 C Z hl hy (fun w τ H locs ls ey Z hl => hI w τ ey H locs ls Z hl) (fun w τ H locs ls ey Z hl => ?_)
  · have h := hX _ _ ey
    exact ww_X0_measure_31 hk0 C hr hlk Z (lv_sub hl [0] rfl) h
set_option maxHeartbeats 4000000 in
set_option maxRecDepth 100000 in
theorem ww_X0_measure_E {k0 : Nat} (hk0 : k0 ∈ yy_Crs) {res : Int32 × yy_T} (C : yy_C D κ p m c cX0_measure 7 s args RX0) (hr : meth.sig.returnType = (some .int)) (hlk : meth.locks = false) (Z : yy_Z D κ ext A s.heap τ H locs) (hl : lv_has ls 7 [(0, .ref (κ 4 + k0))]) (h : mm_X0_measure k0 τ = some res) : W p l e rm_X0_measure s m args below meth c H locs 0 0 (MQ below (yy_Qi D κ ext A res) args s 0 0 A) (F0 m 0 ls []) := by
  unfold mm_X0_measure at h
  refine lv_iconst (v := 0) C.1.1 C.1.2.1 dX0_measure_0 (by decide) ?_
  refine lv_istore_n (lv' := [(1, .int 0), (0, .ref (κ 4 + k0))]) C.1.1 C.1.2.1 dX0_measure_1 rfl hl (by decide) rfl (fun ls hl => ?_)
  exact ww_X0_measure_2 hk0 C hr hlk Z (lv_sub hl [1, 0] rfl) h
set_option maxHeartbeats 4000000 in
set_option maxRecDepth 100000 in
theorem ss_X0_measure (l : Launch) (D : va_G) (κ : Nat → Nat) (ext : va_W) (k0 : Nat) (hk0 : k0 ∈ yy_Crs) : yy_Mi l D κ ext yX0_measure cX0_measure 7 (some .int) rm_X0_measure 0 0 [.ref (κ 4 + k0)] (mm_X0_measure k0) := by
  intro sz τ res h
  refine yy_ofW (by decide) (Nat.le_of_ble_eq_true rfl) ?_
  intro p e s m args below meth c ls hsz E
  obtain ⟨C, hr, hlk, Z, hl⟩ := E
  subst hsz
  exact ww_X0_measure_E hk0 C hr hlk Z hl h
/-! MovedLines$CommonRow.nextLike(II)I -/
noncomputable def mm_X0_nextLike_2b (k0 : Nat) (x1 : Int32) (x3 : Int32) : yy_M ((Int32) ⊕ ((Int32))) :=
  yy_rF k0 4 fun v1 => yy_br (v1 ≤ x3) (yy_rt (.inr x3)) (yy_rA (k0 + 2) 14 x3 fun v2 => yy_br (v2 = x1) (yy_rt (.inr x3)) (yy_rt (.inl (x3 + 1))))
noncomputable def mm_X0_nextLike_26 (x3 : Int32) : yy_M Int32 :=
  yy_rt x3
noncomputable def mm_X0_nextLike_2 (k0 : Nat) (x1 : Int32) (x3 : Int32) : yy_M Int32 :=
  yy_cl (yy_lp (fun (w : Int32) => mm_X0_nextLike_2b k0 x1 w) x3) (fun w => mm_X0_nextLike_26 w)
noncomputable def mm_X0_nextLike (k0 : Nat) (x1 : Int32) (x2 : Int32) : yy_M Int32 :=
  mm_X0_nextLike_2 k0 x1 x2
theorem kw_X0_nextLike : yy_wV RX0 yX0_nextLike cX0_nextLike 4 (some .int) 2 := ⟨⟨tw_612, tw_19, tw_59, tw_613⟩, by decide +kernel⟩
abbrev rm_X0_nextLike : Room := { frames := 0, cells := 0, slots := 0, locals := 0 }
set_option maxHeartbeats 4000000 in
set_option maxRecDepth 100000 in
theorem ww_X0_nextLike_2b {k0 : Nat} {x1 : Int32} {x3 : Int32} (hk0 : k0 ∈ yy_Crs) {res : ((Int32) ⊕ ((Int32))) × yy_T} {Q : State → Prop} (C : yy_C D κ p m c cX0_nextLike 4 s args RX0) (Z : yy_Z D κ ext A s.heap τ H locs) (hl : lv_has ls 4 [(0, .ref (κ 4 + k0)), (1, .int x1), (3, .int x3)]) (h : mm_X0_nextLike_2b k0 x1 x3 τ = some res)
    (kI : ∀ (w : Int32) (τ1 : yy_T) (H1 : Heap) (locs1 : List Loc) (ls1 : Array Slot), res = (.inl w, τ1) → yy_Z D κ ext A s.heap τ1 H1 locs1 → lv_has ls1 4 [(0, .ref (κ 4 + k0)), (1, .int x1), (3, .int w)] → W p l e rm_X0_nextLike s m args below meth c H1 locs1 0 0 Q (F0 m 2 ls1 []))
    (kR0 : ∀ (w : Int32) (τ1 : yy_T) (H1 : Heap) (locs1 : List Loc) (ls1 : Array Slot), res = (.inr w, τ1) → yy_Z D κ ext A s.heap τ1 H1 locs1 → lv_has ls1 4 [(3, .int w)] → W p l e rm_X0_nextLike s m args below meth c H1 locs1 0 0 Q (F0 m 26 ls1 [])) : W p l e rm_X0_nextLike s m args below meth c H locs 0 0 Q (F0 m 2 ls []) := by
  unfold mm_X0_nextLike_2b at h
  refine lv_iload_n C.1.1 C.1.2.1 dX0_nextLike_2 rfl (lv_at hl 2 rfl) ?_
  refine lv_aload_n C.1.1 C.1.2.1 dX0_nextLike_3 rfl (lv_at hl 0 rfl) ?_
  refine yg_X0_4 C Z hk0 tw_247 dX0_nextLike_4 h (fun v1 h => ?_)
  refine yy_icmp_ge (tgt := 26) C dX0_nextLike_7 (by decide) h (fun h => ?_) (fun h => ?_)
  · exact kR0 _ _ _ _ _ (yy_rt_of h) Z (lv_sub hl [2] rfl)
  · refine lv_aload_n C.1.1 C.1.2.1 dX0_nextLike_10 rfl (lv_at hl 0 rfl) ?_
    refine yg_X0_1 C Z hk0 tw_244 dX0_nextLike_11 ?_
    refine lv_iload_n C.1.1 C.1.2.1 dX0_nextLike_14 rfl (lv_at hl 2 rfl) ?_
    refine yy_iald C Z (yy_C2 _ hk0) (yy_lenC2 _ hk0) dX0_nextLike_15 h (fun v2 h => ?_)
    refine lv_iload_n C.1.1 C.1.2.1 dX0_nextLike_16 rfl (lv_at hl 1 rfl) ?_
    refine yy_icmp_eq (tgt := 26) C dX0_nextLike_17 (by decide) h (fun h => ?_) (fun h => ?_)
    · exact kR0 _ _ _ _ _ (yy_rt_of h) Z (lv_sub hl [2] rfl)
    · refine lv_iinc (v := x3 + 1) (lv' := [(3, .int (x3 + 1)), (0, .ref (κ 4 + k0)), (1, .int x1)]) C.1.1 C.1.2.1 dX0_nextLike_20 hl (k := 2) rfl (by rfl) (by decide) rfl (fun ls hl => ?_)
      refine lv_goto (tgt := 2) C.1.1 C.1.2.1 dX0_nextLike_23 (by decide) ?_
      exact kI _ _ _ _ _ (yy_rt_of h) Z (lv_sub hl [1, 2, 0] rfl)
set_option maxHeartbeats 4000000 in
set_option maxRecDepth 100000 in
theorem ww_X0_nextLike_26 {x3 : Int32} {res : Int32 × yy_T} (C : yy_C D κ p m c cX0_nextLike 4 s args RX0) (hr : meth.sig.returnType = (some .int)) (hlk : meth.locks = false) (Z : yy_Z D κ ext A s.heap τ H locs) (hl : lv_has ls 4 [(3, .int x3)]) (h : mm_X0_nextLike_26 x3 τ = some res) : W p l e rm_X0_nextLike s m args below meth c H locs 0 0 (MQ below (yy_Qi D κ ext A res) args s 0 0 A) (F0 m 26 ls []) := by
  unfold mm_X0_nextLike_26 at h
  refine lv_iload_n C.1.1 C.1.2.1 dX0_nextLike_26 rfl (lv_at hl 0 rfl) ?_
  exact yy_iret C Z hr hlk rfl dX0_nextLike_27 h
set_option maxHeartbeats 4000000 in
set_option maxRecDepth 100000 in
theorem ww_X0_nextLike_2 {k0 : Nat} {x1 : Int32} {x3 : Int32} (hk0 : k0 ∈ yy_Crs) {res : Int32 × yy_T} (C : yy_C D κ p m c cX0_nextLike 4 s args RX0) (hr : meth.sig.returnType = (some .int)) (hlk : meth.locks = false) (Z : yy_Z D κ ext A s.heap τ H locs) (hl : lv_has ls 4 [(0, .ref (κ 4 + k0)), (1, .int x1), (3, .int x3)]) (h : mm_X0_nextLike_2 k0 x1 x3 τ = some res) : W p l e rm_X0_nextLike s m args below meth c H locs 0 0 (MQ below (yy_Qi D κ ext A res) args s 0 0 A) (F0 m 2 ls []) := by
  unfold mm_X0_nextLike_2 at h
  refine yy_loop h (fun (w : Int32) (τ : yy_T) => ∀ (H : Heap) (locs : List Loc) (ls : Array Slot), yy_Z D κ ext A s.heap τ H locs → lv_has ls 4 [(0, .ref (κ 4 + k0)), (1, .int x1), (3, .int w)] → W p l e rm_X0_nextLike s m args below meth c H locs 0 0 (MQ below (yy_Qi D κ ext A res) args s 0 0 A) (F0 m 2 ls [])) ?_ H locs ls Z hl
  intro w τ y hy hI hX H locs ls Z hl
  refine ww_X0_nextLike_2b hk0 C Z hl hy (fun w τ H locs ls ey Z hl => hI w τ ey H locs ls Z hl) (fun w τ H locs ls ey Z hl => ?_)
  · have h := hX _ _ ey
    exact ww_X0_nextLike_26  C hr hlk Z (lv_sub hl [0] rfl) h
set_option maxHeartbeats 4000000 in
set_option maxRecDepth 100000 in
theorem ww_X0_nextLike_E {k0 : Nat} {x1 : Int32} {x2 : Int32} (hk0 : k0 ∈ yy_Crs) {res : Int32 × yy_T} (C : yy_C D κ p m c cX0_nextLike 4 s args RX0) (hr : meth.sig.returnType = (some .int)) (hlk : meth.locks = false) (Z : yy_Z D κ ext A s.heap τ H locs) (hl : lv_has ls 4 [(0, .ref (κ 4 + k0)), (1, .int x1), (2, .int x2)]) (h : mm_X0_nextLike k0 x1 x2 τ = some res) : W p l e rm_X0_nextLike s m args below meth c H locs 0 0 (MQ below (yy_Qi D κ ext A res) args s 0 0 A) (F0 m 0 ls []) := by
  unfold mm_X0_nextLike at h
  refine lv_iload_n C.1.1 C.1.2.1 dX0_nextLike_0 rfl (lv_at hl 2 rfl) ?_
  refine lv_istore_n (lv' := [(3, .int x2), (0, .ref (κ 4 + k0)), (1, .int x1), (2, .int x2)]) C.1.1 C.1.2.1 dX0_nextLike_1 rfl hl (by decide) rfl (fun ls hl => ?_)
  exact ww_X0_nextLike_2 hk0 C hr hlk Z (lv_sub hl [1, 2, 0] rfl) h
set_option maxHeartbeats 4000000 in
set_option maxRecDepth 100000 in
theorem ss_X0_nextLike (l : Launch) (D : va_G) (κ : Nat → Nat) (ext : va_W) (k0 : Nat) (x1 : Int32) (x2 : Int32) (hk0 : k0 ∈ yy_Crs) : yy_Mi l D κ ext yX0_nextLike cX0_nextLike 4 (some .int) rm_X0_nextLike 0 0 [.ref (κ 4 + k0), .int x1, .int x2] (mm_X0_nextLike k0 x1 x2) := by
  intro sz τ res h
  refine yy_ofW (by decide) (Nat.le_of_ble_eq_true rfl) ?_
  intro p e s m args below meth c ls hsz E
  obtain ⟨C, hr, hlk, Z, hl⟩ := E
  subst hsz
  exact ww_X0_nextLike_E hk0 C hr hlk Z hl h
/-! MovedLines$CommonRow.partnerOf(I)I -/
noncomputable def mm_X0_partnerOf_94 (k0 : Nat) (x1 : Int32) (x2 : Int32) (x3 : Int32) (x4 : Int32) : yy_M ((Int32 × Int32 × Int32) ⊕ ((Unit) ⊕ (Int32))) :=
  yy_rt (.inl (x2, x3, (x4 + 1)))
noncomputable def mm_X0_partnerOf_12b (k0 : Nat) (x1 : Int32) (x2 : Int32) (x3 : Int32) (x4 : Int32) : yy_M ((Int32 × Int32 × Int32) ⊕ ((Unit) ⊕ (Int32))) :=
  yy_rF k0 3 fun v2 => yy_br (v2 ≤ x4) (yy_rt (.inr (.inl ()))) (yy_br (x1 < x4) (yy_rt (.inr (.inl ()))) (yy_br (x2 ≤ 0) (yy_rt (.inr (.inl ()))) (yy_rA (k0 + 1) 14 x4 fun v3 => yy_cl (mm_X0_nextLike k0 v3 x3) (fun r4 => yy_rF k0 4 fun v5 => yy_br (v5 ≤ r4) (mm_X0_partnerOf_94 k0 x1 x2 x3 x4) (yy_rA (k0 + 3) 225 ((((x4 + 1) * 15) + r4) + 1) fun v6 => yy_br (v6 = (x2 - 1)) (yy_br (x4 = x1) (yy_rt (.inr (.inr r4))) (mm_X0_partnerOf_94 k0 x1 (x2 + (-1)) (r4 + 1) x4)) (mm_X0_partnerOf_94 k0 x1 x2 x3 x4))))))
noncomputable def mm_X0_partnerOf_100 : yy_M Int32 :=
  yy_rt ((-1))
noncomputable def mm_X0_partnerOf_83 (x5 : Int32) : yy_M Int32 :=
  yy_rt x5
noncomputable def mm_X0_partnerOf_12 (k0 : Nat) (x1 : Int32) (x2 : Int32) (x3 : Int32) (x4 : Int32) : yy_M Int32 :=
  yy_cl (yy_lp (fun (w : Int32 × Int32 × Int32) => mm_X0_partnerOf_12b k0 x1 w.1 w.2.1 w.2.2) (x2, x3, x4)) (Sum.elim (fun w => mm_X0_partnerOf_100 ) (fun w => mm_X0_partnerOf_83 w))
noncomputable def mm_X0_partnerOf (k0 : Nat) (x1 : Int32) : yy_M Int32 :=
  yy_rA (k0 + 3) 225 0 fun v1 => mm_X0_partnerOf_12 k0 x1 v1 0 0
theorem kw_X0_partnerOf : yy_wV RX0 yX0_partnerOf cX0_partnerOf 6 (some .int) 1 := ⟨⟨tw_607, tw_608, tw_59, tw_609⟩, by decide +kernel⟩
abbrev rm_X0_partnerOf : Room := { frames := 1, cells := 0, slots := 0, locals := 23 }
set_option maxHeartbeats 4000000 in
set_option maxRecDepth 100000 in
theorem ww_X0_partnerOf_94 {k0 : Nat} {x1 : Int32} {x2 : Int32} {x3 : Int32} {x4 : Int32} (hk0 : k0 ∈ yy_Crs) {res : ((Int32 × Int32 × Int32) ⊕ ((Unit) ⊕ (Int32))) × yy_T} {Q : State → Prop} (C : yy_C D κ p m c cX0_partnerOf 6 s args RX0) (Z : yy_Z D κ ext A s.heap τ H locs) (hl : lv_has ls 6 [(0, .ref (κ 4 + k0)), (1, .int x1), (2, .int x2), (3, .int x3), (4, .int x4)]) (h : mm_X0_partnerOf_94 k0 x1 x2 x3 x4 τ = some res)
    (kI : ∀ (w : Int32 × Int32 × Int32) (τ1 : yy_T) (H1 : Heap) (locs1 : List Loc) (ls1 : Array Slot), res = (.inl w, τ1) → yy_Z D κ ext A s.heap τ1 H1 locs1 → lv_has ls1 6 [(0, .ref (κ 4 + k0)), (1, .int x1), (2, .int w.1), (3, .int w.2.1), (4, .int w.2.2)] → W p l e rm_X0_partnerOf s m args below meth c H1 locs1 0 0 Q (F0 m 12 ls1 [])) : W p l e rm_X0_partnerOf s m args below meth c H locs 0 0 Q (F0 m 94 ls []) := by
  unfold mm_X0_partnerOf_94 at h
  refine lv_iinc (v := x4 + 1) (lv' := [(4, .int (x4 + 1)), (0, .ref (κ 4 + k0)), (1, .int x1), (2, .int x2), (3, .int x3)]) C.1.1 C.1.2.1 dX0_partnerOf_94 hl (k := 4) rfl (by rfl) (by decide) rfl (fun ls hl => ?_)
  refine lv_goto (tgt := 12) C.1.1 C.1.2.1 dX0_partnerOf_97 (by decide) ?_
  exact kI _ _ _ _ _ (yy_rt_of h) Z (lv_sub hl [1, 2, 3, 4, 0] rfl)
set_option maxHeartbeats 4000000 in
set_option maxRecDepth 100000 in
theorem ww_X0_partnerOf_12b {k0 : Nat} {x1 : Int32} {x2 : Int32} {x3 : Int32} {x4 : Int32} (hk0 : k0 ∈ yy_Crs) {res : ((Int32 × Int32 × Int32) ⊕ ((Unit) ⊕ (Int32))) × yy_T} {Q : State → Prop} (C : yy_C D κ p m c cX0_partnerOf 6 s args RX0) (Z : yy_Z D κ ext A s.heap τ H locs) (hl : lv_has ls 6 [(0, .ref (κ 4 + k0)), (1, .int x1), (2, .int x2), (3, .int x3), (4, .int x4)]) (h : mm_X0_partnerOf_12b k0 x1 x2 x3 x4 τ = some res)
    (kI : ∀ (w : Int32 × Int32 × Int32) (τ1 : yy_T) (H1 : Heap) (locs1 : List Loc) (ls1 : Array Slot), res = (.inl w, τ1) → yy_Z D κ ext A s.heap τ1 H1 locs1 → lv_has ls1 6 [(0, .ref (κ 4 + k0)), (1, .int x1), (2, .int w.1), (3, .int w.2.1), (4, .int w.2.2)] → W p l e rm_X0_partnerOf s m args below meth c H1 locs1 0 0 Q (F0 m 12 ls1 []))
    (kR0 : ∀ (w : Unit) (τ1 : yy_T) (H1 : Heap) (locs1 : List Loc) (ls1 : Array Slot), res = (.inr (.inl w), τ1) → yy_Z D κ ext A s.heap τ1 H1 locs1 → lv_has ls1 6 [] → W p l e rm_X0_partnerOf s m args below meth c H1 locs1 0 0 Q (F0 m 100 ls1 []))
    (kR1 : ∀ (w : Int32) (τ1 : yy_T) (H1 : Heap) (locs1 : List Loc) (ls1 : Array Slot), res = (.inr (.inr w), τ1) → yy_Z D κ ext A s.heap τ1 H1 locs1 → lv_has ls1 6 [(5, .int w)] → W p l e rm_X0_partnerOf s m args below meth c H1 locs1 0 0 Q (F0 m 83 ls1 [])) : W p l e rm_X0_partnerOf s m args below meth c H locs 0 0 Q (F0 m 12 ls []) := by
  unfold mm_X0_partnerOf_12b at h
  refine lv_iload C.1.1 C.1.2.1 dX0_partnerOf_12 (lv_at hl 4 rfl) ?_
  refine lv_aload_n C.1.1 C.1.2.1 dX0_partnerOf_14 rfl (lv_at hl 0 rfl) ?_
  refine yg_X0_3 C Z hk0 tw_246 dX0_partnerOf_15 h (fun v2 h => ?_)
  refine yy_icmp_ge (tgt := 100) C dX0_partnerOf_18 (by decide) h (fun h => ?_) (fun h => ?_)
  · exact kR0 _ _ _ _ _ (yy_rt_of h) Z (lv_sub hl [] rfl)
  · refine lv_iload C.1.1 C.1.2.1 dX0_partnerOf_21 (lv_at hl 4 rfl) ?_
    refine lv_iload_n C.1.1 C.1.2.1 dX0_partnerOf_23 rfl (lv_at hl 1 rfl) ?_
    refine yy_icmp_gt (tgt := 100) C dX0_partnerOf_24 (by decide) h (fun h => ?_) (fun h => ?_)
    · exact kR0 _ _ _ _ _ (yy_rt_of h) Z (lv_sub hl [] rfl)
    · refine lv_iload_n C.1.1 C.1.2.1 dX0_partnerOf_27 rfl (lv_at hl 2 rfl) ?_
      refine yy_if_le (tgt := 100) C dX0_partnerOf_28 (by decide) h (fun h => ?_) (fun h => ?_)
      · exact kR0 _ _ _ _ _ (yy_rt_of h) Z (lv_sub hl [] rfl)
      · refine lv_aload_n C.1.1 C.1.2.1 dX0_partnerOf_31 rfl (lv_at hl 0 rfl) ?_
        refine lv_aload_n C.1.1 C.1.2.1 dX0_partnerOf_32 rfl (lv_at hl 0 rfl) ?_
        refine yg_X0_0 C Z hk0 tw_243 dX0_partnerOf_33 ?_
        refine lv_iload C.1.1 C.1.2.1 dX0_partnerOf_36 (lv_at hl 4 rfl) ?_
        refine yy_iald C Z (yy_C1 _ hk0) (yy_lenC1 _ hk0) dX0_partnerOf_38 h (fun v3 h => ?_)
        refine lv_iload_n C.1.1 C.1.2.1 dX0_partnerOf_39 rfl (lv_at hl 3 rfl) ?_
        refine yy_cVi0 (As := [.int v3, .int x3]) (rest := []) (id := k0) (ci := 0) (q := (RX0, TX0, 5)) C Z (ss_X0_nextLike l D κ ext k0 v3 x3 hk0) (yy_Crs_lt _ hk0) (yy_ent_Crs hk0 _) rfl tw_610 kw_X0_nextLike ⟨⟨rfl, rfl⟩, ⟨Nat.le_of_ble_eq_true rfl, Nat.le_of_ble_eq_true rfl⟩, Nat.le_of_ble_eq_true rfl, Nat.le_of_ble_eq_true rfl⟩ hl.1 rfl (Nat.le_of_ble_eq_true rfl) dX0_partnerOf_40 h (fun r4 τ H locs Z h => ?_)
        refine lv_istore (lv' := [(5, .int r4), (0, .ref (κ 4 + k0)), (1, .int x1), (2, .int x2), (3, .int x3), (4, .int x4)]) C.1.1 C.1.2.1 dX0_partnerOf_43 hl (by decide) rfl (fun ls hl => ?_)
        refine lv_iload C.1.1 C.1.2.1 dX0_partnerOf_45 (lv_at hl 0 rfl) ?_
        refine lv_aload_n C.1.1 C.1.2.1 dX0_partnerOf_47 rfl (lv_at hl 1 rfl) ?_
        refine yg_X0_4 C Z hk0 tw_247 dX0_partnerOf_48 h (fun v5 h => ?_)
        refine yy_icmp_ge (tgt := 94) C dX0_partnerOf_51 (by decide) h (fun h => ?_) (fun h => ?_)
        · exact ww_X0_partnerOf_94 hk0 C Z (lv_sub hl [1, 2, 3, 4, 5] rfl) h kI
        · refine lv_aload_n C.1.1 C.1.2.1 dX0_partnerOf_54 rfl (lv_at hl 1 rfl) ?_
          refine yg_X0_2 C Z hk0 tw_245 dX0_partnerOf_55 ?_
          refine lv_iload C.1.1 C.1.2.1 dX0_partnerOf_58 (lv_at hl 5 rfl) ?_
          refine lv_iconst (v := 1) C.1.1 C.1.2.1 dX0_partnerOf_60 (by decide) ?_
          refine lv_iadd C.1.1 C.1.2.1 dX0_partnerOf_61 ?_
          refine lv_bipush (v := 15) C.1.1 C.1.2.1 dX0_partnerOf_62 (by decide) ?_
          refine lv_imul C.1.1 C.1.2.1 dX0_partnerOf_64 ?_
          refine lv_iload C.1.1 C.1.2.1 dX0_partnerOf_65 (lv_at hl 0 rfl) ?_
          refine lv_iadd C.1.1 C.1.2.1 dX0_partnerOf_67 ?_
          refine lv_iconst (v := 1) C.1.1 C.1.2.1 dX0_partnerOf_68 (by decide) ?_
          refine lv_iadd C.1.1 C.1.2.1 dX0_partnerOf_69 ?_
          refine yy_iald C Z (yy_C3 _ hk0) (yy_lenC3 _ hk0) dX0_partnerOf_70 h (fun v6 h => ?_)
          refine lv_iload_n C.1.1 C.1.2.1 dX0_partnerOf_71 rfl (lv_at hl 3 rfl) ?_
          refine lv_iconst (v := 1) C.1.1 C.1.2.1 dX0_partnerOf_72 (by decide) ?_
          refine lv_isub C.1.1 C.1.2.1 dX0_partnerOf_73 ?_
          refine yy_icmp_ne (tgt := 94) C dX0_partnerOf_74 (by decide) h (fun h => ?_) (fun h => ?_)
          · exact ww_X0_partnerOf_94 hk0 C Z (lv_sub hl [1, 2, 3, 4, 5] rfl) h kI
          · refine lv_iload C.1.1 C.1.2.1 dX0_partnerOf_77 (lv_at hl 5 rfl) ?_
            refine lv_iload_n C.1.1 C.1.2.1 dX0_partnerOf_79 rfl (lv_at hl 2 rfl) ?_
            refine yy_icmp_ne (tgt := 86) C dX0_partnerOf_80 (by decide) h (fun h => ?_) (fun h => ?_)
            · refine lv_iinc (v := x2 + (-1)) (lv' := [(2, .int (x2 + (-1))), (5, .int r4), (0, .ref (κ 4 + k0)), (1, .int x1), (3, .int x3), (4, .int x4)]) C.1.1 C.1.2.1 dX0_partnerOf_86 hl (k := 3) rfl (by rfl) (by decide) rfl (fun ls hl => ?_)
              refine lv_iload C.1.1 C.1.2.1 dX0_partnerOf_89 (lv_at hl 1 rfl) ?_
              refine lv_iconst (v := 1) C.1.1 C.1.2.1 dX0_partnerOf_91 (by decide) ?_
              refine lv_iadd C.1.1 C.1.2.1 dX0_partnerOf_92 ?_
              refine lv_istore_n (lv' := [(3, .int (r4 + 1)), (2, .int (x2 + (-1))), (5, .int r4), (0, .ref (κ 4 + k0)), (1, .int x1), (4, .int x4)]) C.1.1 C.1.2.1 dX0_partnerOf_93 rfl hl (by decide) rfl (fun ls hl => ?_)
              exact ww_X0_partnerOf_94 hk0 C Z (lv_sub hl [3, 4, 1, 0, 5] rfl) h kI
            · exact kR1 _ _ _ _ _ (yy_rt_of h) Z (lv_sub hl [0] rfl)
set_option maxHeartbeats 4000000 in
set_option maxRecDepth 100000 in
theorem ww_X0_partnerOf_100 {res : Int32 × yy_T} (C : yy_C D κ p m c cX0_partnerOf 6 s args RX0) (hr : meth.sig.returnType = (some .int)) (hlk : meth.locks = false) (Z : yy_Z D κ ext A s.heap τ H locs) (hl : lv_has ls 6 []) (h : mm_X0_partnerOf_100  τ = some res) : W p l e rm_X0_partnerOf s m args below meth c H locs 0 0 (MQ below (yy_Qi D κ ext A res) args s 0 0 A) (F0 m 100 ls []) := by
  unfold mm_X0_partnerOf_100 at h
  refine lv_iconst (v := (-1)) C.1.1 C.1.2.1 dX0_partnerOf_100 (by decide) ?_
  exact yy_iret C Z hr hlk rfl dX0_partnerOf_101 h
set_option maxHeartbeats 4000000 in
set_option maxRecDepth 100000 in
theorem ww_X0_partnerOf_83 {x5 : Int32} {res : Int32 × yy_T} (C : yy_C D κ p m c cX0_partnerOf 6 s args RX0) (hr : meth.sig.returnType = (some .int)) (hlk : meth.locks = false) (Z : yy_Z D κ ext A s.heap τ H locs) (hl : lv_has ls 6 [(5, .int x5)]) (h : mm_X0_partnerOf_83 x5 τ = some res) : W p l e rm_X0_partnerOf s m args below meth c H locs 0 0 (MQ below (yy_Qi D κ ext A res) args s 0 0 A) (F0 m 83 ls []) := by
  unfold mm_X0_partnerOf_83 at h
  refine lv_iload C.1.1 C.1.2.1 dX0_partnerOf_83 (lv_at hl 0 rfl) ?_
  exact yy_iret C Z hr hlk rfl dX0_partnerOf_85 h
set_option maxHeartbeats 4000000 in
set_option maxRecDepth 100000 in
theorem ww_X0_partnerOf_12 {k0 : Nat} {x1 : Int32} {x2 : Int32} {x3 : Int32} {x4 : Int32} (hk0 : k0 ∈ yy_Crs) {res : Int32 × yy_T} (C : yy_C D κ p m c cX0_partnerOf 6 s args RX0) (hr : meth.sig.returnType = (some .int)) (hlk : meth.locks = false) (Z : yy_Z D κ ext A s.heap τ H locs) (hl : lv_has ls 6 [(0, .ref (κ 4 + k0)), (1, .int x1), (2, .int x2), (3, .int x3), (4, .int x4)]) (h : mm_X0_partnerOf_12 k0 x1 x2 x3 x4 τ = some res) : W p l e rm_X0_partnerOf s m args below meth c H locs 0 0 (MQ below (yy_Qi D κ ext A res) args s 0 0 A) (F0 m 12 ls []) := by
  unfold mm_X0_partnerOf_12 at h
  refine yy_loop h (fun (w : Int32 × Int32 × Int32) (τ : yy_T) => ∀ (H : Heap) (locs : List Loc) (ls : Array Slot), yy_Z D κ ext A s.heap τ H locs → lv_has ls 6 [(0, .ref (κ 4 + k0)), (1, .int x1), (2, .int w.1), (3, .int w.2.1), (4, .int w.2.2)] → W p l e rm_X0_partnerOf s m args below meth c H locs 0 0 (MQ below (yy_Qi D κ ext A res) args s 0 0 A) (F0 m 12 ls [])) ?_ H locs ls Z hl
  intro w τ y hy hI hX H locs ls Z hl
  refine ww_X0_partnerOf_12b hk0 C Z hl hy (fun w τ H locs ls ey Z hl => hI w τ ey H locs ls Z hl) (fun w τ H locs ls ey Z hl => ?_) (fun w τ H locs ls ey Z hl => ?_)
  · have h := hX _ _ ey
    exact ww_X0_partnerOf_100  C hr hlk Z (lv_sub hl [] rfl) h
  · have h := hX _ _ ey
    exact ww_X0_partnerOf_83  C hr hlk Z (lv_sub hl [0] rfl) h
set_option maxHeartbeats 4000000 in
set_option maxRecDepth 100000 in
theorem ww_X0_partnerOf_E {k0 : Nat} {x1 : Int32} (hk0 : k0 ∈ yy_Crs) {res : Int32 × yy_T} (C : yy_C D κ p m c cX0_partnerOf 6 s args RX0) (hr : meth.sig.returnType = (some .int)) (hlk : meth.locks = false) (Z : yy_Z D κ ext A s.heap τ H locs) (hl : lv_has ls 6 [(0, .ref (κ 4 + k0)), (1, .int x1)]) (h : mm_X0_partnerOf k0 x1 τ = some res) : W p l e rm_X0_partnerOf s m args below meth c H locs 0 0 (MQ below (yy_Qi D κ ext A res) args s 0 0 A) (F0 m 0 ls []) := by
  unfold mm_X0_partnerOf at h
  refine lv_aload_n C.1.1 C.1.2.1 dX0_partnerOf_0 rfl (lv_at hl 0 rfl) ?_
  refine yg_X0_2 C Z hk0 tw_245 dX0_partnerOf_1 ?_
  refine lv_iconst (v := 0) C.1.1 C.1.2.1 dX0_partnerOf_4 (by decide) ?_
  refine yy_iald C Z (yy_C3 _ hk0) (yy_lenC3 _ hk0) dX0_partnerOf_5 h (fun v1 h => ?_)
  refine lv_istore_n (lv' := [(2, .int v1), (0, .ref (κ 4 + k0)), (1, .int x1)]) C.1.1 C.1.2.1 dX0_partnerOf_6 rfl hl (by decide) rfl (fun ls hl => ?_)
  refine lv_iconst (v := 0) C.1.1 C.1.2.1 dX0_partnerOf_7 (by decide) ?_
  refine lv_istore_n (lv' := [(3, .int 0), (2, .int v1), (0, .ref (κ 4 + k0)), (1, .int x1)]) C.1.1 C.1.2.1 dX0_partnerOf_8 rfl hl (by decide) rfl (fun ls hl => ?_)
  refine lv_iconst (v := 0) C.1.1 C.1.2.1 dX0_partnerOf_9 (by decide) ?_
  refine lv_istore (lv' := [(4, .int 0), (3, .int 0), (2, .int v1), (0, .ref (κ 4 + k0)), (1, .int x1)]) C.1.1 C.1.2.1 dX0_partnerOf_10 hl (by decide) rfl (fun ls hl => ?_)
  exact ww_X0_partnerOf_12 hk0 C hr hlk Z (lv_sub hl [3, 4, 2, 1, 0] rfl) h
set_option maxHeartbeats 4000000 in
set_option maxRecDepth 100000 in
theorem ss_X0_partnerOf (l : Launch) (D : va_G) (κ : Nat → Nat) (ext : va_W) (k0 : Nat) (x1 : Int32) (hk0 : k0 ∈ yy_Crs) : yy_Mi l D κ ext yX0_partnerOf cX0_partnerOf 6 (some .int) rm_X0_partnerOf 0 0 [.ref (κ 4 + k0), .int x1] (mm_X0_partnerOf k0 x1) := by
  intro sz τ res h
  refine yy_ofW (by decide) (Nat.le_of_ble_eq_true rfl) ?_
  intro p e s m args below meth c ls hsz E
  obtain ⟨C, hr, hlk, Z, hl⟩ := E
  subst hsz
  exact ww_X0_partnerOf_E hk0 C hr hlk Z hl h
/-! MovedLines$Edition.has(I)Z -/
noncomputable def mm_X2_has (k0 : Nat) (x1 : Int32) : yy_M Int32 :=
  yy_br (x1 < 0) (yy_rt 0) (yy_rF k0 2 fun v1 => yy_br (v1 ≤ x1) (yy_rt 0) (yy_rt 1))
theorem kw_X2_has : yy_wV RX2 yX2_has cX2_has 2 (some .boolean) 1 := ⟨⟨tw_421, tw_422, tw_54, tw_423⟩, by decide +kernel⟩
abbrev rm_X2_has : Room := { frames := 0, cells := 0, slots := 0, locals := 0 }
set_option maxHeartbeats 4000000 in
set_option maxRecDepth 100000 in
theorem ww_X2_has_E {k0 : Nat} {x1 : Int32} (hk0 : k0 ∈ yy_Eds) {res : Int32 × yy_T} (C : yy_C D κ p m c cX2_has 2 s args RX2) (hr : meth.sig.returnType = (some .boolean)) (hlk : meth.locks = false) (Z : yy_Z D κ ext A s.heap τ H locs) (hl : lv_has ls 2 [(0, .ref (κ 4 + k0)), (1, .int x1)]) (h : mm_X2_has k0 x1 τ = some res) : W p l e rm_X2_has s m args below meth c H locs 0 0 (MQ below (yy_Qi D κ ext A res) args s 0 0 A) (F0 m 0 ls []) := by
  unfold mm_X2_has at h
  refine lv_iload_n C.1.1 C.1.2.1 dX2_has_0 rfl (lv_at hl 1 rfl) ?_
  refine yy_if_lt (tgt := 16) C dX2_has_1 (by decide) h (fun h => ?_) (fun h => ?_)
  · refine lv_iconst (v := 0) C.1.1 C.1.2.1 dX2_has_16 (by decide) ?_
    exact yy_iret C Z hr hlk rfl dX2_has_17 h
  · refine lv_iload_n C.1.1 C.1.2.1 dX2_has_4 rfl (lv_at hl 1 rfl) ?_
    refine lv_aload_n C.1.1 C.1.2.1 dX2_has_5 rfl (lv_at hl 0 rfl) ?_
    refine yg_X2_2 C Z hk0 tw_111 dX2_has_6 h (fun v1 h => ?_)
    refine yy_icmp_ge (tgt := 16) C dX2_has_9 (by decide) h (fun h => ?_) (fun h => ?_)
    · refine lv_iconst (v := 0) C.1.1 C.1.2.1 dX2_has_16 (by decide) ?_
      exact yy_iret C Z hr hlk rfl dX2_has_17 h
    · refine lv_iconst (v := 1) C.1.1 C.1.2.1 dX2_has_12 (by decide) ?_
      refine lv_goto (tgt := 17) C.1.1 C.1.2.1 dX2_has_13 (by decide) ?_
      exact yy_iret C Z hr hlk rfl dX2_has_17 h
set_option maxHeartbeats 4000000 in
set_option maxRecDepth 100000 in
theorem ss_X2_has (l : Launch) (D : va_G) (κ : Nat → Nat) (ext : va_W) (k0 : Nat) (x1 : Int32) (hk0 : k0 ∈ yy_Eds) : yy_Mi l D κ ext yX2_has cX2_has 2 (some .boolean) rm_X2_has 0 0 [.ref (κ 4 + k0), .int x1] (mm_X2_has k0 x1) := by
  intro sz τ res h
  refine yy_ofW (by decide) (Nat.le_of_ble_eq_true rfl) ?_
  intro p e s m args below meth c ls hsz E
  obtain ⟨C, hr, hlk, Z, hl⟩ := E
  subst hsz
  exact ww_X2_has_E hk0 C hr hlk Z hl h
/-! MovedLines$Edition.sizeOf(I)I -/
noncomputable def mm_X2_sizeOf (k0 : Nat) (x1 : Int32) : yy_M Int32 :=
  yy_cl (mm_X2_has k0 x1) (fun r1 => yy_br (r1 = 0) (yy_rt 0) (yy_rA (k0 + 1) 14 x1 fun v2 => yy_rt v2))
theorem kw_X2_sizeOf : yy_wV RX2 yX2_sizeOf cX2_sizeOf 2 (some .int) 1 := ⟨⟨tw_524, tw_525, tw_54, tw_526⟩, by decide +kernel⟩
abbrev rm_X2_sizeOf : Room := { frames := 1, cells := 0, slots := 0, locals := 21 }
set_option maxHeartbeats 4000000 in
set_option maxRecDepth 100000 in
theorem ww_X2_sizeOf_E {k0 : Nat} {x1 : Int32} (hk0 : k0 ∈ yy_Eds) {res : Int32 × yy_T} (C : yy_C D κ p m c cX2_sizeOf 2 s args RX2) (hr : meth.sig.returnType = (some .int)) (hlk : meth.locks = false) (Z : yy_Z D κ ext A s.heap τ H locs) (hl : lv_has ls 2 [(0, .ref (κ 4 + k0)), (1, .int x1)]) (h : mm_X2_sizeOf k0 x1 τ = some res) : W p l e rm_X2_sizeOf s m args below meth c H locs 0 0 (MQ below (yy_Qi D κ ext A res) args s 0 0 A) (F0 m 0 ls []) := by
  unfold mm_X2_sizeOf at h
  refine lv_aload_n C.1.1 C.1.2.1 dX2_sizeOf_0 rfl (lv_at hl 0 rfl) ?_
  refine lv_iload_n C.1.1 C.1.2.1 dX2_sizeOf_1 rfl (lv_at hl 1 rfl) ?_
  refine yy_cVi0 (As := [.int x1]) (rest := []) (id := k0) (ci := 2) (q := (RX2, TX2, 3)) C Z (ss_X2_has l D κ ext k0 x1 hk0) (yy_Eds_lt _ hk0) (yy_ent_Eds hk0 _) rfl tw_420 kw_X2_has ⟨⟨rfl, rfl⟩, ⟨Nat.le_of_ble_eq_true rfl, Nat.le_of_ble_eq_true rfl⟩, Nat.le_of_ble_eq_true rfl, Nat.le_of_ble_eq_true rfl⟩ hl.1 rfl (Nat.le_of_ble_eq_true rfl) dX2_sizeOf_2 h (fun r1 τ H locs Z h => ?_)
  refine yy_if_eq (tgt := 17) C dX2_sizeOf_5 (by decide) h (fun h => ?_) (fun h => ?_)
  · refine lv_iconst (v := 0) C.1.1 C.1.2.1 dX2_sizeOf_17 (by decide) ?_
    exact yy_iret C Z hr hlk rfl dX2_sizeOf_18 h
  · refine lv_aload_n C.1.1 C.1.2.1 dX2_sizeOf_8 rfl (lv_at hl 0 rfl) ?_
    refine yg_X2_0 C Z hk0 tw_105 dX2_sizeOf_9 ?_
    refine lv_iload_n C.1.1 C.1.2.1 dX2_sizeOf_12 rfl (lv_at hl 1 rfl) ?_
    refine yy_iald C Z (yy_E1 _ hk0) (yy_lenE1 _ hk0) dX2_sizeOf_13 h (fun v2 h => ?_)
    refine lv_goto (tgt := 18) C.1.1 C.1.2.1 dX2_sizeOf_14 (by decide) ?_
    exact yy_iret C Z hr hlk rfl dX2_sizeOf_18 h
set_option maxHeartbeats 4000000 in
set_option maxRecDepth 100000 in
theorem ss_X2_sizeOf (l : Launch) (D : va_G) (κ : Nat → Nat) (ext : va_W) (k0 : Nat) (x1 : Int32) (hk0 : k0 ∈ yy_Eds) : yy_Mi l D κ ext yX2_sizeOf cX2_sizeOf 2 (some .int) rm_X2_sizeOf 0 0 [.ref (κ 4 + k0), .int x1] (mm_X2_sizeOf k0 x1) := by
  intro sz τ res h
  refine yy_ofW (by decide) (Nat.le_of_ble_eq_true rfl) ?_
  intro p e s m args below meth c ls hsz E
  obtain ⟨C, hr, hlk, Z, hl⟩ := E
  subst hsz
  exact ww_X2_sizeOf_E hk0 C hr hlk Z hl h
/-! MovedLines$Told.isLoose(II)Z -/
noncomputable def mm_X8_isLoose (k0 : Nat) (x1 : Int32) (x2 : Int32) : yy_M Int32 :=
  yy_br (x2 < 0) (yy_rt 0) (yy_br (14 ≤ x2) (yy_rt 0) (yy_ck (yy_in x1 2 = true) (yy_rA (k0 + 1 + 1 + Int32.toNatClampNeg x1) 14 x2 fun v2 => yy_br (v2 = 3) (yy_rt 1) (yy_rt 0))))
theorem kw_X8_isLoose : yy_wV RX8 yX8_isLoose cX8_isLoose 3 (some .boolean) 2 := ⟨⟨tw_483, tw_484, tw_60, tw_485⟩, by decide +kernel⟩
abbrev rm_X8_isLoose : Room := { frames := 0, cells := 0, slots := 0, locals := 0 }
set_option maxHeartbeats 4000000 in
set_option maxRecDepth 100000 in
theorem ww_X8_isLoose_E {k0 : Nat} {x1 : Int32} {x2 : Int32} (hk0 : k0 ∈ yy_Tds) {res : Int32 × yy_T} (C : yy_C D κ p m c cX8_isLoose 3 s args RX8) (hr : meth.sig.returnType = (some .boolean)) (hlk : meth.locks = false) (Z : yy_Z D κ ext A s.heap τ H locs) (hl : lv_has ls 3 [(0, .ref (κ 4 + k0)), (1, .int x1), (2, .int x2)]) (h : mm_X8_isLoose k0 x1 x2 τ = some res) : W p l e rm_X8_isLoose s m args below meth c H locs 0 0 (MQ below (yy_Qi D κ ext A res) args s 0 0 A) (F0 m 0 ls []) := by
  unfold mm_X8_isLoose at h
  refine lv_iload_n C.1.1 C.1.2.1 dX8_isLoose_0 rfl (lv_at hl 2 rfl) ?_
  refine yy_if_lt (tgt := 26) C dX8_isLoose_1 (by decide) h (fun h => ?_) (fun h => ?_)
  · refine lv_iconst (v := 0) C.1.1 C.1.2.1 dX8_isLoose_26 (by decide) ?_
    exact yy_iret C Z hr hlk rfl dX8_isLoose_27 h
  · refine lv_iload_n C.1.1 C.1.2.1 dX8_isLoose_4 rfl (lv_at hl 2 rfl) ?_
    refine lv_bipush (v := 14) C.1.1 C.1.2.1 dX8_isLoose_5 (by decide) ?_
    refine yy_icmp_ge (tgt := 26) C dX8_isLoose_7 (by decide) h (fun h => ?_) (fun h => ?_)
    · refine lv_iconst (v := 0) C.1.1 C.1.2.1 dX8_isLoose_26 (by decide) ?_
      exact yy_iret C Z hr hlk rfl dX8_isLoose_27 h
    · refine lv_aload_n C.1.1 C.1.2.1 dX8_isLoose_10 rfl (lv_at hl 0 rfl) ?_
      refine yg_X8_0 C Z hk0 tw_283 dX8_isLoose_11 ?_
      refine lv_iload_n C.1.1 C.1.2.1 dX8_isLoose_14 rfl (lv_at hl 1 rfl) ?_
      refine yy_aald2 C Z (yy_D1 _ hk0) dX8_isLoose_15 h (fun hn1 h => ?_)
      refine lv_iload_n C.1.1 C.1.2.1 dX8_isLoose_16 rfl (lv_at hl 2 rfl) ?_
      refine yy_iald C Z (yy_G0 _ (yy_D1 _ hk0) _ hn1) (yy_lenG0 _ (yy_D1 _ hk0) _ hn1) dX8_isLoose_17 h (fun v2 h => ?_)
      refine lv_iconst (v := 3) C.1.1 C.1.2.1 dX8_isLoose_18 (by decide) ?_
      refine yy_icmp_ne (tgt := 26) C dX8_isLoose_19 (by decide) h (fun h => ?_) (fun h => ?_)
      · refine lv_iconst (v := 0) C.1.1 C.1.2.1 dX8_isLoose_26 (by decide) ?_
        exact yy_iret C Z hr hlk rfl dX8_isLoose_27 h
      · refine lv_iconst (v := 1) C.1.1 C.1.2.1 dX8_isLoose_22 (by decide) ?_
        refine lv_goto (tgt := 27) C.1.1 C.1.2.1 dX8_isLoose_23 (by decide) ?_
        exact yy_iret C Z hr hlk rfl dX8_isLoose_27 h
set_option maxHeartbeats 4000000 in
set_option maxRecDepth 100000 in
theorem ss_X8_isLoose (l : Launch) (D : va_G) (κ : Nat → Nat) (ext : va_W) (k0 : Nat) (x1 : Int32) (x2 : Int32) (hk0 : k0 ∈ yy_Tds) : yy_Mi l D κ ext yX8_isLoose cX8_isLoose 3 (some .boolean) rm_X8_isLoose 0 0 [.ref (κ 4 + k0), .int x1, .int x2] (mm_X8_isLoose k0 x1 x2) := by
  intro sz τ res h
  refine yy_ofW (by decide) (Nat.le_of_ble_eq_true rfl) ?_
  intro p e s m args below meth c ls hsz E
  obtain ⟨C, hr, hlk, Z, hl⟩ := E
  subst hsz
  exact ww_X8_isLoose_E hk0 C hr hlk Z hl h
/-! MovedLines$Told.join(IIII)V -/
noncomputable def mm_X8_join (k0 : Nat) (x1 : Int32) (x2 : Int32) (x3 : Int32) (x4 : Int32) : yy_M Unit :=
  yy_cl (mm_X8_isLoose k0 0 x2) (fun r1 => yy_br (r1 = 0) (yy_rt ()) (yy_cl (mm_X8_isLoose k0 1 x3) (fun r2 => yy_br (r2 = 0) (yy_rt ()) (yy_ck (yy_in 0 2 = true) (yy_wA (k0 + 1 + 1 + Int32.toNatClampNeg 0) 14 x2 x1 (yy_ck (yy_in 1 2 = true) (yy_wA (k0 + 1 + 1 + Int32.toNatClampNeg 1) 14 x3 x1 (yy_ck (yy_in 0 2 = true) (yy_wA (k0 + 4 + 1 + Int32.toNatClampNeg 0) 14 x2 x3 (yy_ck (yy_in 1 2 = true) (yy_wA (k0 + 4 + 1 + Int32.toNatClampNeg 1) 14 x3 x2 (yy_ck (yy_in 0 2 = true) (yy_wA (k0 + 7 + 1 + Int32.toNatClampNeg 0) 14 x2 x4 (yy_ck (yy_in 1 2 = true) (yy_wA (k0 + 7 + 1 + Int32.toNatClampNeg 1) 14 x3 x4 (yy_rA (k0 + 10) 3 x1 fun v9 => yy_wA (k0 + 10) 3 x1 (v9 + 1) (yy_rt ())))))))))))))))))
theorem kw_X8_join : yy_wV RX8 yX8_join cX8_join 5 none 4 := ⟨⟨tw_479, tw_480, tw_60, tw_481⟩, by decide +kernel⟩
abbrev rm_X8_join : Room := { frames := 1, cells := 0, slots := 0, locals := 22 }
set_option maxHeartbeats 4000000 in
set_option maxRecDepth 100000 in
theorem ww_X8_join_E {k0 : Nat} {x1 : Int32} {x2 : Int32} {x3 : Int32} {x4 : Int32} (hk0 : k0 ∈ yy_Tds) {res : Unit × yy_T} (C : yy_C D κ p m c cX8_join 5 s args RX8) (hr : meth.sig.returnType = none) (hlk : meth.locks = false) (Z : yy_Z D κ ext A s.heap τ H locs) (hl : lv_has ls 5 [(0, .ref (κ 4 + k0)), (1, .int x1), (2, .int x2), (3, .int x3), (4, .int x4)]) (h : mm_X8_join k0 x1 x2 x3 x4 τ = some res) : W p l e rm_X8_join s m args below meth c H locs 0 0 (MQ below (yy_Qv D κ ext A res) args s 0 0 A) (F0 m 0 ls []) := by
  unfold mm_X8_join at h
  refine lv_aload_n C.1.1 C.1.2.1 dX8_join_0 rfl (lv_at hl 0 rfl) ?_
  refine lv_iconst (v := 0) C.1.1 C.1.2.1 dX8_join_1 (by decide) ?_
  refine lv_iload_n C.1.1 C.1.2.1 dX8_join_2 rfl (lv_at hl 2 rfl) ?_
  refine yy_cVi0 (As := [.int 0, .int x2]) (rest := []) (id := k0) (ci := 8) (q := (RX8, TX8, 11)) C Z (ss_X8_isLoose l D κ ext k0 0 x2 hk0) (yy_Tds_lt _ hk0) (yy_ent_Tds hk0 _) rfl tw_482 kw_X8_isLoose ⟨⟨rfl, rfl⟩, ⟨Nat.le_of_ble_eq_true rfl, Nat.le_of_ble_eq_true rfl⟩, Nat.le_of_ble_eq_true rfl, Nat.le_of_ble_eq_true rfl⟩ hl.1 rfl (Nat.le_of_ble_eq_true rfl) dX8_join_3 h (fun r1 τ H locs Z h => ?_)
  refine yy_if_eq (tgt := 18) C dX8_join_6 (by decide) h (fun h => ?_) (fun h => ?_)
  · exact yy_vret C Z hr hlk dX8_join_18 h
  · refine lv_aload_n C.1.1 C.1.2.1 dX8_join_9 rfl (lv_at hl 0 rfl) ?_
    refine lv_iconst (v := 1) C.1.1 C.1.2.1 dX8_join_10 (by decide) ?_
    refine lv_iload_n C.1.1 C.1.2.1 dX8_join_11 rfl (lv_at hl 3 rfl) ?_
    refine yy_cVi0 (As := [.int 1, .int x3]) (rest := []) (id := k0) (ci := 8) (q := (RX8, TX8, 11)) C Z (ss_X8_isLoose l D κ ext k0 1 x3 hk0) (yy_Tds_lt _ hk0) (yy_ent_Tds hk0 _) rfl tw_482 kw_X8_isLoose ⟨⟨rfl, rfl⟩, ⟨Nat.le_of_ble_eq_true rfl, Nat.le_of_ble_eq_true rfl⟩, Nat.le_of_ble_eq_true rfl, Nat.le_of_ble_eq_true rfl⟩ hl.1 rfl (Nat.le_of_ble_eq_true rfl) dX8_join_12 h (fun r2 τ H locs Z h => ?_)
    refine yy_if_ne (tgt := 19) C dX8_join_15 (by decide) h (fun h => ?_) (fun h => ?_)
    · refine lv_aload_n C.1.1 C.1.2.1 dX8_join_19 rfl (lv_at hl 0 rfl) ?_
      refine yg_X8_0 C Z hk0 tw_283 dX8_join_20 ?_
      refine lv_iconst (v := 0) C.1.1 C.1.2.1 dX8_join_23 (by decide) ?_
      refine yy_aald2 C Z (yy_D1 _ hk0) dX8_join_24 h (fun hn3 h => ?_)
      refine lv_iload_n C.1.1 C.1.2.1 dX8_join_25 rfl (lv_at hl 2 rfl) ?_
      refine lv_iload_n C.1.1 C.1.2.1 dX8_join_26 rfl (lv_at hl 1 rfl) ?_
      refine yy_iast C Z (yy_G0 _ (yy_D1 _ hk0) _ hn3) (yy_lenG0 _ (yy_D1 _ hk0) _ hn3) dX8_join_27 h (fun H locs τ Z h => ?_)
      refine lv_aload_n C.1.1 C.1.2.1 dX8_join_28 rfl (lv_at hl 0 rfl) ?_
      refine yg_X8_0 C Z hk0 tw_283 dX8_join_29 ?_
      refine lv_iconst (v := 1) C.1.1 C.1.2.1 dX8_join_32 (by decide) ?_
      refine yy_aald2 C Z (yy_D1 _ hk0) dX8_join_33 h (fun hn4 h => ?_)
      refine lv_iload_n C.1.1 C.1.2.1 dX8_join_34 rfl (lv_at hl 3 rfl) ?_
      refine lv_iload_n C.1.1 C.1.2.1 dX8_join_35 rfl (lv_at hl 1 rfl) ?_
      refine yy_iast C Z (yy_G0 _ (yy_D1 _ hk0) _ hn4) (yy_lenG0 _ (yy_D1 _ hk0) _ hn4) dX8_join_36 h (fun H locs τ Z h => ?_)
      refine lv_aload_n C.1.1 C.1.2.1 dX8_join_37 rfl (lv_at hl 0 rfl) ?_
      refine yg_X8_1 C Z hk0 tw_285 dX8_join_38 ?_
      refine lv_iconst (v := 0) C.1.1 C.1.2.1 dX8_join_41 (by decide) ?_
      refine yy_aald2 C Z (yy_D4 _ hk0) dX8_join_42 h (fun hn5 h => ?_)
      refine lv_iload_n C.1.1 C.1.2.1 dX8_join_43 rfl (lv_at hl 2 rfl) ?_
      refine lv_iload_n C.1.1 C.1.2.1 dX8_join_44 rfl (lv_at hl 3 rfl) ?_
      refine yy_iast C Z (yy_G0 _ (yy_D4 _ hk0) _ hn5) (yy_lenG0 _ (yy_D4 _ hk0) _ hn5) dX8_join_45 h (fun H locs τ Z h => ?_)
      refine lv_aload_n C.1.1 C.1.2.1 dX8_join_46 rfl (lv_at hl 0 rfl) ?_
      refine yg_X8_1 C Z hk0 tw_285 dX8_join_47 ?_
      refine lv_iconst (v := 1) C.1.1 C.1.2.1 dX8_join_50 (by decide) ?_
      refine yy_aald2 C Z (yy_D4 _ hk0) dX8_join_51 h (fun hn6 h => ?_)
      refine lv_iload_n C.1.1 C.1.2.1 dX8_join_52 rfl (lv_at hl 3 rfl) ?_
      refine lv_iload_n C.1.1 C.1.2.1 dX8_join_53 rfl (lv_at hl 2 rfl) ?_
      refine yy_iast C Z (yy_G0 _ (yy_D4 _ hk0) _ hn6) (yy_lenG0 _ (yy_D4 _ hk0) _ hn6) dX8_join_54 h (fun H locs τ Z h => ?_)
      refine lv_aload_n C.1.1 C.1.2.1 dX8_join_55 rfl (lv_at hl 0 rfl) ?_
      refine yg_X8_2 C Z hk0 tw_287 dX8_join_56 ?_
      refine lv_iconst (v := 0) C.1.1 C.1.2.1 dX8_join_59 (by decide) ?_
      refine yy_aald2 C Z (yy_D7 _ hk0) dX8_join_60 h (fun hn7 h => ?_)
      refine lv_iload_n C.1.1 C.1.2.1 dX8_join_61 rfl (lv_at hl 2 rfl) ?_
      refine lv_iload C.1.1 C.1.2.1 dX8_join_62 (lv_at hl 4 rfl) ?_
      refine yy_iast C Z (yy_G0 _ (yy_D7 _ hk0) _ hn7) (yy_lenG0 _ (yy_D7 _ hk0) _ hn7) dX8_join_64 h (fun H locs τ Z h => ?_)
      refine lv_aload_n C.1.1 C.1.2.1 dX8_join_65 rfl (lv_at hl 0 rfl) ?_
      refine yg_X8_2 C Z hk0 tw_287 dX8_join_66 ?_
      refine lv_iconst (v := 1) C.1.1 C.1.2.1 dX8_join_69 (by decide) ?_
      refine yy_aald2 C Z (yy_D7 _ hk0) dX8_join_70 h (fun hn8 h => ?_)
      refine lv_iload_n C.1.1 C.1.2.1 dX8_join_71 rfl (lv_at hl 3 rfl) ?_
      refine lv_iload C.1.1 C.1.2.1 dX8_join_72 (lv_at hl 4 rfl) ?_
      refine yy_iast C Z (yy_G0 _ (yy_D7 _ hk0) _ hn8) (yy_lenG0 _ (yy_D7 _ hk0) _ hn8) dX8_join_74 h (fun H locs τ Z h => ?_)
      refine lv_aload_n C.1.1 C.1.2.1 dX8_join_75 rfl (lv_at hl 0 rfl) ?_
      refine yg_X8_3 C Z hk0 tw_289 dX8_join_76 ?_
      refine lv_iload_n C.1.1 C.1.2.1 dX8_join_79 rfl (lv_at hl 1 rfl) ?_
      refine lv_dup2_11 C.1.1 C.1.2.1 dX8_join_80 rfl rfl ?_
      refine yy_iald C Z (yy_D10 _ hk0) (yy_lenD10 _ hk0) dX8_join_81 h (fun v9 h => ?_)
      refine lv_iconst (v := 1) C.1.1 C.1.2.1 dX8_join_82 (by decide) ?_
      refine lv_iadd C.1.1 C.1.2.1 dX8_join_83 ?_
      refine yy_iast C Z (yy_D10 _ hk0) (yy_lenD10 _ hk0) dX8_join_84 h (fun H locs τ Z h => ?_)
      exact yy_vret C Z hr hlk dX8_join_85 h
    · exact yy_vret C Z hr hlk dX8_join_18 h
set_option maxHeartbeats 4000000 in
set_option maxRecDepth 100000 in
theorem ss_X8_join (l : Launch) (D : va_G) (κ : Nat → Nat) (ext : va_W) (k0 : Nat) (x1 : Int32) (x2 : Int32) (x3 : Int32) (x4 : Int32) (hk0 : k0 ∈ yy_Tds) : yy_Mv l D κ ext yX8_join cX8_join 5 none rm_X8_join 0 0 [.ref (κ 4 + k0), .int x1, .int x2, .int x3, .int x4] (mm_X8_join k0 x1 x2 x3 x4) := by
  intro sz τ res h
  refine yy_ofW (by decide) (Nat.le_of_ble_eq_true rfl) ?_
  intro p e s m args below meth c ls hsz E
  obtain ⟨C, hr, hlk, Z, hl⟩ := E
  subst hsz
  exact ww_X8_join_E hk0 C hr hlk Z hl h
/-! MovedLines$Comparer.editLikest(LMovedLines$Edition;LMovedLines$Edition;LMovedLines$Told;)Z -/
noncomputable def mm_X1_editLikest_88 (k1 : Nat) (k2 : Nat) (k3 : Nat) (x4 : Int32) (x5 : Int32) (x6 : Int32) (x7 : Int32) (x8 : Int32) : yy_M ((Int32 × Int32 × Int32 × Int32) ⊕ ((Int32 × Int32 × Int32))) :=
  yy_rt (.inl (x4, x5, x6, (x8 + 1)))
noncomputable def mm_X1_editLikest_24b (k1 : Nat) (k2 : Nat) (k3 : Nat) (x4 : Int32) (x5 : Int32) (x6 : Int32) (x7 : Int32) (x8 : Int32) : yy_M ((Int32 × Int32 × Int32 × Int32) ⊕ ((Int32 × Int32 × Int32))) :=
  yy_rF k2 2 fun v2 => yy_br (v2 ≤ x8) (yy_rt (.inr (x4, x5, x6))) (yy_cl (mm_X8_isLoose k3 0 x7) (fun r3 => yy_br (r3 = 0) (mm_X1_editLikest_88 k1 k2 k3 x4 x5 x6 x7 x8) (yy_cl (mm_X8_isLoose k3 1 x8) (fun r4 => yy_br (r4 = 0) (mm_X1_editLikest_88 k1 k2 k3 x4 x5 x6 x7 x8) (yy_ck (yy_in x7 14 = true) (yy_rA (66 + Int32.toNatClampNeg x7) 14 x8 fun v6 => yy_br (v6 ≤ x4) (mm_X1_editLikest_88 k1 k2 k3 x4 x5 x6 x7 x8) (yy_ck (yy_in x7 14 = true) (yy_rA (66 + Int32.toNatClampNeg x7) 14 x8 fun v8 => mm_X1_editLikest_88 k1 k2 k3 v8 x7 x8 x7 x8))))))))
noncomputable def mm_X1_editLikest_94 (k1 : Nat) (k2 : Nat) (k3 : Nat) (x4 : Int32) (x5 : Int32) (x6 : Int32) (x7 : Int32) : yy_M ((Int32 × Int32 × Int32 × Int32) ⊕ ((Int32 × Int32 × Int32))) :=
  yy_rt (.inl (x4, x5, x6, (x7 + 1)))
noncomputable def mm_X1_editLikest_24 (k1 : Nat) (k2 : Nat) (k3 : Nat) (x4 : Int32) (x5 : Int32) (x6 : Int32) (x7 : Int32) (x8 : Int32) : yy_M ((Int32 × Int32 × Int32 × Int32) ⊕ ((Int32 × Int32 × Int32))) :=
  yy_cl (yy_lp (fun (w : Int32 × Int32 × Int32 × Int32) => mm_X1_editLikest_24b k1 k2 k3 w.1 w.2.1 w.2.2.1 x7 w.2.2.2) (x4, x5, x6, x8)) (fun w => mm_X1_editLikest_94 k1 k2 k3 w.1 w.2.1 w.2.2 x7)
noncomputable def mm_X1_editLikest_12b (k1 : Nat) (k2 : Nat) (k3 : Nat) (x4 : Int32) (x5 : Int32) (x6 : Int32) (x7 : Int32) : yy_M ((Int32 × Int32 × Int32 × Int32) ⊕ ((Int32 × Int32 × Int32))) :=
  yy_rF k1 2 fun v1 => yy_br (v1 ≤ x7) (yy_rt (.inr (x4, x5, x6))) (mm_X1_editLikest_24 k1 k2 k3 x4 x5 x6 x7 0)
noncomputable def mm_X1_editLikest_142 (x4 : Int32) : yy_M Int32 :=
  yy_br (x4 ≤ 0) (yy_rt 0) (yy_rt 1)
noncomputable def mm_X1_editLikest_100 (k1 : Nat) (k2 : Nat) (k3 : Nat) (x4 : Int32) (x5 : Int32) (x6 : Int32) : yy_M Int32 :=
  yy_br (x4 ≤ 0) (mm_X1_editLikest_142 x4) (yy_cl (mm_X8_join k3 2 x5 x6 ((-1))) (fun _ => yy_rF k3 10 fun v9 => yy_cl (mm_X2_sizeOf k1 x5) (fun r10 => yy_cl (mm_X2_sizeOf k2 x6) (fun r11 => yy_wF k3 10 (v9 + ((r10 + r11) - (2 * x4))) (mm_X1_editLikest_142 x4)))))
noncomputable def mm_X1_editLikest_12 (k1 : Nat) (k2 : Nat) (k3 : Nat) (x4 : Int32) (x5 : Int32) (x6 : Int32) (x7 : Int32) : yy_M Int32 :=
  yy_cl (yy_lp (fun (w : Int32 × Int32 × Int32 × Int32) => mm_X1_editLikest_12b k1 k2 k3 w.1 w.2.1 w.2.2.1 w.2.2.2) (x4, x5, x6, x7)) (fun w => mm_X1_editLikest_100 k1 k2 k3 w.1 w.2.1 w.2.2)
noncomputable def mm_X1_editLikest (k1 : Nat) (k2 : Nat) (k3 : Nat) : yy_M Int32 :=
  mm_X1_editLikest_12 k1 k2 k3 0 0 0 0
theorem kw_X1_editLikest : yy_wV RX1 yX1_editLikest cX1_editLikest 9 (some .boolean) 3 := ⟨⟨tw_553, tw_16, tw_56, tw_554⟩, by decide +kernel⟩
abbrev rm_X1_editLikest : Room := { frames := 2, cells := 0, slots := 0, locals := 46 }
set_option maxHeartbeats 4000000 in
set_option maxRecDepth 100000 in
theorem ww_X1_editLikest_88 {k1 : Nat} {k2 : Nat} {k3 : Nat} {x4 : Int32} {x5 : Int32} {x6 : Int32} {x7 : Int32} {x8 : Int32} (hk1 : k1 ∈ yy_Eds) (hk2 : k2 ∈ yy_Eds) (hk3 : k3 ∈ yy_Tds) {res : ((Int32 × Int32 × Int32 × Int32) ⊕ ((Int32 × Int32 × Int32))) × yy_T} {Q : State → Prop} (C : yy_C D κ p m c cX1_editLikest 9 s args RX1) (Z : yy_Z D κ ext A s.heap τ H locs) (hl : lv_has ls 9 [(0, .ref (κ 4 + 49)), (1, .ref (κ 4 + k1)), (2, .ref (κ 4 + k2)), (3, .ref (κ 4 + k3)), (4, .int x4), (5, .int x5), (6, .int x6), (7, .int x7), (8, .int x8)]) (h : mm_X1_editLikest_88 k1 k2 k3 x4 x5 x6 x7 x8 τ = some res)
    (kI : ∀ (w : Int32 × Int32 × Int32 × Int32) (τ1 : yy_T) (H1 : Heap) (locs1 : List Loc) (ls1 : Array Slot), res = (.inl w, τ1) → yy_Z D κ ext A s.heap τ1 H1 locs1 → lv_has ls1 9 [(0, .ref (κ 4 + 49)), (1, .ref (κ 4 + k1)), (2, .ref (κ 4 + k2)), (3, .ref (κ 4 + k3)), (4, .int w.1), (5, .int w.2.1), (6, .int w.2.2.1), (7, .int x7), (8, .int w.2.2.2)] → W p l e rm_X1_editLikest s m args below meth c H1 locs1 0 0 Q (F0 m 24 ls1 [])) : W p l e rm_X1_editLikest s m args below meth c H locs 0 0 Q (F0 m 88 ls []) := by
  unfold mm_X1_editLikest_88 at h
  refine lv_iinc (v := x8 + 1) (lv' := [(8, .int (x8 + 1)), (0, .ref (κ 4 + 49)), (1, .ref (κ 4 + k1)), (2, .ref (κ 4 + k2)), (3, .ref (κ 4 + k3)), (4, .int x4), (5, .int x5), (6, .int x6), (7, .int x7)]) C.1.1 C.1.2.1 dX1_editLikest_88 hl (k := 8) rfl (by rfl) (by decide) rfl (fun ls hl => ?_)
  refine lv_goto (tgt := 24) C.1.1 C.1.2.1 dX1_editLikest_91 (by decide) ?_
  exact kI _ _ _ _ _ (yy_rt_of h) Z (lv_sub hl [1, 2, 3, 4, 5, 6, 7, 8, 0] rfl)
set_option maxHeartbeats 4000000 in
set_option maxRecDepth 100000 in
theorem ww_X1_editLikest_24b {k1 : Nat} {k2 : Nat} {k3 : Nat} {x4 : Int32} {x5 : Int32} {x6 : Int32} {x7 : Int32} {x8 : Int32} (hk1 : k1 ∈ yy_Eds) (hk2 : k2 ∈ yy_Eds) (hk3 : k3 ∈ yy_Tds) {res : ((Int32 × Int32 × Int32 × Int32) ⊕ ((Int32 × Int32 × Int32))) × yy_T} {Q : State → Prop} (C : yy_C D κ p m c cX1_editLikest 9 s args RX1) (Z : yy_Z D κ ext A s.heap τ H locs) (hl : lv_has ls 9 [(0, .ref (κ 4 + 49)), (1, .ref (κ 4 + k1)), (2, .ref (κ 4 + k2)), (3, .ref (κ 4 + k3)), (4, .int x4), (5, .int x5), (6, .int x6), (7, .int x7), (8, .int x8)]) (h : mm_X1_editLikest_24b k1 k2 k3 x4 x5 x6 x7 x8 τ = some res)
    (kI : ∀ (w : Int32 × Int32 × Int32 × Int32) (τ1 : yy_T) (H1 : Heap) (locs1 : List Loc) (ls1 : Array Slot), res = (.inl w, τ1) → yy_Z D κ ext A s.heap τ1 H1 locs1 → lv_has ls1 9 [(0, .ref (κ 4 + 49)), (1, .ref (κ 4 + k1)), (2, .ref (κ 4 + k2)), (3, .ref (κ 4 + k3)), (4, .int w.1), (5, .int w.2.1), (6, .int w.2.2.1), (7, .int x7), (8, .int w.2.2.2)] → W p l e rm_X1_editLikest s m args below meth c H1 locs1 0 0 Q (F0 m 24 ls1 []))
    (kR0 : ∀ (w : Int32 × Int32 × Int32) (τ1 : yy_T) (H1 : Heap) (locs1 : List Loc) (ls1 : Array Slot), res = (.inr w, τ1) → yy_Z D κ ext A s.heap τ1 H1 locs1 → lv_has ls1 9 [(0, .ref (κ 4 + 49)), (1, .ref (κ 4 + k1)), (2, .ref (κ 4 + k2)), (3, .ref (κ 4 + k3)), (4, .int w.1), (5, .int w.2.1), (6, .int w.2.2), (7, .int x7)] → W p l e rm_X1_editLikest s m args below meth c H1 locs1 0 0 Q (F0 m 94 ls1 [])) : W p l e rm_X1_editLikest s m args below meth c H locs 0 0 Q (F0 m 24 ls []) := by
  unfold mm_X1_editLikest_24b at h
  refine lv_iload C.1.1 C.1.2.1 dX1_editLikest_24 (lv_at hl 8 rfl) ?_
  refine lv_aload_n C.1.1 C.1.2.1 dX1_editLikest_26 rfl (lv_at hl 2 rfl) ?_
  refine yg_X2_2 C Z hk2 tw_115 dX1_editLikest_27 h (fun v2 h => ?_)
  refine yy_icmp_ge (tgt := 94) C dX1_editLikest_30 (by decide) h (fun h => ?_) (fun h => ?_)
  · exact kR0 _ _ _ _ _ (yy_rt_of h) Z (lv_sub hl [0, 1, 2, 3, 4, 5, 6, 7] rfl)
  · refine lv_aload_n C.1.1 C.1.2.1 dX1_editLikest_33 rfl (lv_at hl 3 rfl) ?_
    refine lv_iconst (v := 0) C.1.1 C.1.2.1 dX1_editLikest_34 (by decide) ?_
    refine lv_iload C.1.1 C.1.2.1 dX1_editLikest_35 (lv_at hl 7 rfl) ?_
    refine yy_cVi0 (As := [.int 0, .int x7]) (rest := []) (id := k3) (ci := 8) (q := (RX8, TX8, 11)) C Z (ss_X8_isLoose l D κ ext k3 0 x7 hk3) (yy_Tds_lt _ hk3) (yy_ent_Tds hk3 _) rfl tw_513 kw_X8_isLoose ⟨⟨rfl, rfl⟩, ⟨Nat.le_of_ble_eq_true rfl, Nat.le_of_ble_eq_true rfl⟩, Nat.le_of_ble_eq_true rfl, Nat.le_of_ble_eq_true rfl⟩ hl.1 rfl (Nat.le_of_ble_eq_true rfl) dX1_editLikest_37 h (fun r3 τ H locs Z h => ?_)
    refine yy_if_eq (tgt := 88) C dX1_editLikest_40 (by decide) h (fun h => ?_) (fun h => ?_)
    · exact ww_X1_editLikest_88 hk1 hk2 hk3 C Z (lv_sub hl [0, 1, 2, 3, 4, 5, 6, 7, 8] rfl) h kI
    · refine lv_aload_n C.1.1 C.1.2.1 dX1_editLikest_43 rfl (lv_at hl 3 rfl) ?_
      refine lv_iconst (v := 1) C.1.1 C.1.2.1 dX1_editLikest_44 (by decide) ?_
      refine lv_iload C.1.1 C.1.2.1 dX1_editLikest_45 (lv_at hl 8 rfl) ?_
      refine yy_cVi0 (As := [.int 1, .int x8]) (rest := []) (id := k3) (ci := 8) (q := (RX8, TX8, 11)) C Z (ss_X8_isLoose l D κ ext k3 1 x8 hk3) (yy_Tds_lt _ hk3) (yy_ent_Tds hk3 _) rfl tw_513 kw_X8_isLoose ⟨⟨rfl, rfl⟩, ⟨Nat.le_of_ble_eq_true rfl, Nat.le_of_ble_eq_true rfl⟩, Nat.le_of_ble_eq_true rfl, Nat.le_of_ble_eq_true rfl⟩ hl.1 rfl (Nat.le_of_ble_eq_true rfl) dX1_editLikest_47 h (fun r4 τ H locs Z h => ?_)
      refine yy_if_eq (tgt := 88) C dX1_editLikest_50 (by decide) h (fun h => ?_) (fun h => ?_)
      · exact ww_X1_editLikest_88 hk1 hk2 hk3 C Z (lv_sub hl [0, 1, 2, 3, 4, 5, 6, 7, 8] rfl) h kI
      · refine lv_aload_n C.1.1 C.1.2.1 dX1_editLikest_53 rfl (lv_at hl 0 rfl) ?_
        refine yg_X1_3 C Z tw_264 dX1_editLikest_54 ?_
        refine lv_iload C.1.1 C.1.2.1 dX1_editLikest_57 (lv_at hl 7 rfl) ?_
        refine yy_aaldL C Z dX1_editLikest_59 h (fun hn5 h => ?_)
        refine lv_iload C.1.1 C.1.2.1 dX1_editLikest_60 (lv_at hl 8 rfl) ?_
        refine yy_iald C Z (yy_L0 _ hn5) (yy_lenL0 _ hn5) dX1_editLikest_62 h (fun v6 h => ?_)
        refine lv_iload C.1.1 C.1.2.1 dX1_editLikest_63 (lv_at hl 4 rfl) ?_
        refine yy_icmp_le (tgt := 88) C dX1_editLikest_65 (by decide) h (fun h => ?_) (fun h => ?_)
        · exact ww_X1_editLikest_88 hk1 hk2 hk3 C Z (lv_sub hl [0, 1, 2, 3, 4, 5, 6, 7, 8] rfl) h kI
        · refine lv_aload_n C.1.1 C.1.2.1 dX1_editLikest_68 rfl (lv_at hl 0 rfl) ?_
          refine yg_X1_3 C Z tw_264 dX1_editLikest_69 ?_
          refine lv_iload C.1.1 C.1.2.1 dX1_editLikest_72 (lv_at hl 7 rfl) ?_
          refine yy_aaldL C Z dX1_editLikest_74 h (fun hn7 h => ?_)
          refine lv_iload C.1.1 C.1.2.1 dX1_editLikest_75 (lv_at hl 8 rfl) ?_
          refine yy_iald C Z (yy_L0 _ hn7) (yy_lenL0 _ hn7) dX1_editLikest_77 h (fun v8 h => ?_)
          refine lv_istore (lv' := [(4, .int v8), (0, .ref (κ 4 + 49)), (1, .ref (κ 4 + k1)), (2, .ref (κ 4 + k2)), (3, .ref (κ 4 + k3)), (5, .int x5), (6, .int x6), (7, .int x7), (8, .int x8)]) C.1.1 C.1.2.1 dX1_editLikest_78 hl (by decide) rfl (fun ls hl => ?_)
          refine lv_iload C.1.1 C.1.2.1 dX1_editLikest_80 (lv_at hl 7 rfl) ?_
          refine lv_istore (lv' := [(5, .int x7), (4, .int v8), (0, .ref (κ 4 + 49)), (1, .ref (κ 4 + k1)), (2, .ref (κ 4 + k2)), (3, .ref (κ 4 + k3)), (6, .int x6), (7, .int x7), (8, .int x8)]) C.1.1 C.1.2.1 dX1_editLikest_82 hl (by decide) rfl (fun ls hl => ?_)
          refine lv_iload C.1.1 C.1.2.1 dX1_editLikest_84 (lv_at hl 8 rfl) ?_
          refine lv_istore (lv' := [(6, .int x8), (5, .int x7), (4, .int v8), (0, .ref (κ 4 + 49)), (1, .ref (κ 4 + k1)), (2, .ref (κ 4 + k2)), (3, .ref (κ 4 + k3)), (7, .int x7), (8, .int x8)]) C.1.1 C.1.2.1 dX1_editLikest_86 hl (by decide) rfl (fun ls hl => ?_)
          exact ww_X1_editLikest_88 hk1 hk2 hk3 C Z (lv_sub hl [3, 4, 5, 6, 2, 1, 0, 7, 8] rfl) h kI
set_option maxHeartbeats 4000000 in
set_option maxRecDepth 100000 in
theorem ww_X1_editLikest_94 {k1 : Nat} {k2 : Nat} {k3 : Nat} {x4 : Int32} {x5 : Int32} {x6 : Int32} {x7 : Int32} (hk1 : k1 ∈ yy_Eds) (hk2 : k2 ∈ yy_Eds) (hk3 : k3 ∈ yy_Tds) {res : ((Int32 × Int32 × Int32 × Int32) ⊕ ((Int32 × Int32 × Int32))) × yy_T} {Q : State → Prop} (C : yy_C D κ p m c cX1_editLikest 9 s args RX1) (Z : yy_Z D κ ext A s.heap τ H locs) (hl : lv_has ls 9 [(0, .ref (κ 4 + 49)), (1, .ref (κ 4 + k1)), (2, .ref (κ 4 + k2)), (3, .ref (κ 4 + k3)), (4, .int x4), (5, .int x5), (6, .int x6), (7, .int x7)]) (h : mm_X1_editLikest_94 k1 k2 k3 x4 x5 x6 x7 τ = some res)
    (kI : ∀ (w : Int32 × Int32 × Int32 × Int32) (τ1 : yy_T) (H1 : Heap) (locs1 : List Loc) (ls1 : Array Slot), res = (.inl w, τ1) → yy_Z D κ ext A s.heap τ1 H1 locs1 → lv_has ls1 9 [(0, .ref (κ 4 + 49)), (1, .ref (κ 4 + k1)), (2, .ref (κ 4 + k2)), (3, .ref (κ 4 + k3)), (4, .int w.1), (5, .int w.2.1), (6, .int w.2.2.1), (7, .int w.2.2.2)] → W p l e rm_X1_editLikest s m args below meth c H1 locs1 0 0 Q (F0 m 12 ls1 [])) : W p l e rm_X1_editLikest s m args below meth c H locs 0 0 Q (F0 m 94 ls []) := by
  unfold mm_X1_editLikest_94 at h
  refine lv_iinc (v := x7 + 1) (lv' := [(7, .int (x7 + 1)), (0, .ref (κ 4 + 49)), (1, .ref (κ 4 + k1)), (2, .ref (κ 4 + k2)), (3, .ref (κ 4 + k3)), (4, .int x4), (5, .int x5), (6, .int x6)]) C.1.1 C.1.2.1 dX1_editLikest_94 hl (k := 7) rfl (by rfl) (by decide) rfl (fun ls hl => ?_)
  refine lv_goto (tgt := 12) C.1.1 C.1.2.1 dX1_editLikest_97 (by decide) ?_
  exact kI _ _ _ _ _ (yy_rt_of h) Z (lv_sub hl [1, 2, 3, 4, 5, 6, 7, 0] rfl)
set_option maxHeartbeats 4000000 in
set_option maxRecDepth 100000 in
theorem ww_X1_editLikest_24 {k1 : Nat} {k2 : Nat} {k3 : Nat} {x4 : Int32} {x5 : Int32} {x6 : Int32} {x7 : Int32} {x8 : Int32} (hk1 : k1 ∈ yy_Eds) (hk2 : k2 ∈ yy_Eds) (hk3 : k3 ∈ yy_Tds) {res : ((Int32 × Int32 × Int32 × Int32) ⊕ ((Int32 × Int32 × Int32))) × yy_T} {Q : State → Prop} (C : yy_C D κ p m c cX1_editLikest 9 s args RX1) (Z : yy_Z D κ ext A s.heap τ H locs) (hl : lv_has ls 9 [(0, .ref (κ 4 + 49)), (1, .ref (κ 4 + k1)), (2, .ref (κ 4 + k2)), (3, .ref (κ 4 + k3)), (4, .int x4), (5, .int x5), (6, .int x6), (7, .int x7), (8, .int x8)]) (h : mm_X1_editLikest_24 k1 k2 k3 x4 x5 x6 x7 x8 τ = some res)
    (kI : ∀ (w : Int32 × Int32 × Int32 × Int32) (τ1 : yy_T) (H1 : Heap) (locs1 : List Loc) (ls1 : Array Slot), res = (.inl w, τ1) → yy_Z D κ ext A s.heap τ1 H1 locs1 → lv_has ls1 9 [(0, .ref (κ 4 + 49)), (1, .ref (κ 4 + k1)), (2, .ref (κ 4 + k2)), (3, .ref (κ 4 + k3)), (4, .int w.1), (5, .int w.2.1), (6, .int w.2.2.1), (7, .int w.2.2.2)] → W p l e rm_X1_editLikest s m args below meth c H1 locs1 0 0 Q (F0 m 12 ls1 [])) : W p l e rm_X1_editLikest s m args below meth c H locs 0 0 Q (F0 m 24 ls []) := by
  unfold mm_X1_editLikest_24 at h
  refine yy_loop h (fun (w : Int32 × Int32 × Int32 × Int32) (τ : yy_T) => ∀ (H : Heap) (locs : List Loc) (ls : Array Slot), yy_Z D κ ext A s.heap τ H locs → lv_has ls 9 [(0, .ref (κ 4 + 49)), (1, .ref (κ 4 + k1)), (2, .ref (κ 4 + k2)), (3, .ref (κ 4 + k3)), (4, .int w.1), (5, .int w.2.1), (6, .int w.2.2.1), (7, .int x7), (8, .int w.2.2.2)] → W p l e rm_X1_editLikest s m args below meth c H locs 0 0 Q (F0 m 24 ls [])) ?_ H locs ls Z hl
  intro w τ y hy hI hX H locs ls Z hl
  refine ww_X1_editLikest_24b hk1 hk2 hk3 C Z hl hy (fun w τ H locs ls ey Z hl => hI w τ ey H locs ls Z hl) (fun w τ H locs ls ey Z hl => ?_)
  · have h := hX _ _ ey
    exact ww_X1_editLikest_94 hk1 hk2 hk3 C Z (lv_sub hl [0, 1, 2, 3, 4, 5, 6, 7] rfl) h kI
set_option maxHeartbeats 4000000 in
set_option maxRecDepth 100000 in
theorem ww_X1_editLikest_12b {k1 : Nat} {k2 : Nat} {k3 : Nat} {x4 : Int32} {x5 : Int32} {x6 : Int32} {x7 : Int32} (hk1 : k1 ∈ yy_Eds) (hk2 : k2 ∈ yy_Eds) (hk3 : k3 ∈ yy_Tds) {res : ((Int32 × Int32 × Int32 × Int32) ⊕ ((Int32 × Int32 × Int32))) × yy_T} {Q : State → Prop} (C : yy_C D κ p m c cX1_editLikest 9 s args RX1) (Z : yy_Z D κ ext A s.heap τ H locs) (hl : lv_has ls 9 [(0, .ref (κ 4 + 49)), (1, .ref (κ 4 + k1)), (2, .ref (κ 4 + k2)), (3, .ref (κ 4 + k3)), (4, .int x4), (5, .int x5), (6, .int x6), (7, .int x7)]) (h : mm_X1_editLikest_12b k1 k2 k3 x4 x5 x6 x7 τ = some res)
    (kI : ∀ (w : Int32 × Int32 × Int32 × Int32) (τ1 : yy_T) (H1 : Heap) (locs1 : List Loc) (ls1 : Array Slot), res = (.inl w, τ1) → yy_Z D κ ext A s.heap τ1 H1 locs1 → lv_has ls1 9 [(0, .ref (κ 4 + 49)), (1, .ref (κ 4 + k1)), (2, .ref (κ 4 + k2)), (3, .ref (κ 4 + k3)), (4, .int w.1), (5, .int w.2.1), (6, .int w.2.2.1), (7, .int w.2.2.2)] → W p l e rm_X1_editLikest s m args below meth c H1 locs1 0 0 Q (F0 m 12 ls1 []))
    (kR0 : ∀ (w : Int32 × Int32 × Int32) (τ1 : yy_T) (H1 : Heap) (locs1 : List Loc) (ls1 : Array Slot), res = (.inr w, τ1) → yy_Z D κ ext A s.heap τ1 H1 locs1 → lv_has ls1 9 [(1, .ref (κ 4 + k1)), (2, .ref (κ 4 + k2)), (3, .ref (κ 4 + k3)), (4, .int w.1), (5, .int w.2.1), (6, .int w.2.2)] → W p l e rm_X1_editLikest s m args below meth c H1 locs1 0 0 Q (F0 m 100 ls1 [])) : W p l e rm_X1_editLikest s m args below meth c H locs 0 0 Q (F0 m 12 ls []) := by
  unfold mm_X1_editLikest_12b at h
  refine lv_iload C.1.1 C.1.2.1 dX1_editLikest_12 (lv_at hl 7 rfl) ?_
  refine lv_aload_n C.1.1 C.1.2.1 dX1_editLikest_14 rfl (lv_at hl 1 rfl) ?_
  refine yg_X2_2 C Z hk1 tw_115 dX1_editLikest_15 h (fun v1 h => ?_)
  refine yy_icmp_ge (tgt := 100) C dX1_editLikest_18 (by decide) h (fun h => ?_) (fun h => ?_)
  · exact kR0 _ _ _ _ _ (yy_rt_of h) Z (lv_sub hl [1, 2, 3, 4, 5, 6] rfl)
  · refine lv_iconst (v := 0) C.1.1 C.1.2.1 dX1_editLikest_21 (by decide) ?_
    refine lv_istore (lv' := [(8, .int 0), (0, .ref (κ 4 + 49)), (1, .ref (κ 4 + k1)), (2, .ref (κ 4 + k2)), (3, .ref (κ 4 + k3)), (4, .int x4), (5, .int x5), (6, .int x6), (7, .int x7)]) C.1.1 C.1.2.1 dX1_editLikest_22 hl (by decide) rfl (fun ls hl => ?_)
    exact ww_X1_editLikest_24 hk1 hk2 hk3 C Z (lv_sub hl [1, 2, 3, 4, 5, 6, 7, 8, 0] rfl) h kI
set_option maxHeartbeats 4000000 in
set_option maxRecDepth 100000 in
theorem ww_X1_editLikest_142 {x4 : Int32} {res : Int32 × yy_T} (C : yy_C D κ p m c cX1_editLikest 9 s args RX1) (hr : meth.sig.returnType = (some .boolean)) (hlk : meth.locks = false) (Z : yy_Z D κ ext A s.heap τ H locs) (hl : lv_has ls 9 [(4, .int x4)]) (h : mm_X1_editLikest_142 x4 τ = some res) : W p l e rm_X1_editLikest s m args below meth c H locs 0 0 (MQ below (yy_Qi D κ ext A res) args s 0 0 A) (F0 m 142 ls []) := by
  unfold mm_X1_editLikest_142 at h
  refine lv_iload C.1.1 C.1.2.1 dX1_editLikest_142 (lv_at hl 0 rfl) ?_
  refine yy_if_le (tgt := 151) C dX1_editLikest_144 (by decide) h (fun h => ?_) (fun h => ?_)
  · refine lv_iconst (v := 0) C.1.1 C.1.2.1 dX1_editLikest_151 (by decide) ?_
    exact yy_iret C Z hr hlk rfl dX1_editLikest_152 h
  · refine lv_iconst (v := 1) C.1.1 C.1.2.1 dX1_editLikest_147 (by decide) ?_
    refine lv_goto (tgt := 152) C.1.1 C.1.2.1 dX1_editLikest_148 (by decide) ?_
    exact yy_iret C Z hr hlk rfl dX1_editLikest_152 h
set_option maxHeartbeats 4000000 in
set_option maxRecDepth 100000 in
theorem ww_X1_editLikest_100 {k1 : Nat} {k2 : Nat} {k3 : Nat} {x4 : Int32} {x5 : Int32} {x6 : Int32} (hk1 : k1 ∈ yy_Eds) (hk2 : k2 ∈ yy_Eds) (hk3 : k3 ∈ yy_Tds) {res : Int32 × yy_T} (C : yy_C D κ p m c cX1_editLikest 9 s args RX1) (hr : meth.sig.returnType = (some .boolean)) (hlk : meth.locks = false) (Z : yy_Z D κ ext A s.heap τ H locs) (hl : lv_has ls 9 [(1, .ref (κ 4 + k1)), (2, .ref (κ 4 + k2)), (3, .ref (κ 4 + k3)), (4, .int x4), (5, .int x5), (6, .int x6)]) (h : mm_X1_editLikest_100 k1 k2 k3 x4 x5 x6 τ = some res) : W p l e rm_X1_editLikest s m args below meth c H locs 0 0 (MQ below (yy_Qi D κ ext A res) args s 0 0 A) (F0 m 100 ls []) := by
  unfold mm_X1_editLikest_100 at h
  refine lv_iload C.1.1 C.1.2.1 dX1_editLikest_100 (lv_at hl 3 rfl) ?_
  refine yy_if_le (tgt := 142) C dX1_editLikest_102 (by decide) h (fun h => ?_) (fun h => ?_)
  · exact ww_X1_editLikest_142  C hr hlk Z (lv_sub hl [3] rfl) h
  · refine lv_aload_n C.1.1 C.1.2.1 dX1_editLikest_105 rfl (lv_at hl 2 rfl) ?_
    refine lv_iconst (v := 2) C.1.1 C.1.2.1 dX1_editLikest_106 (by decide) ?_
    refine lv_iload C.1.1 C.1.2.1 dX1_editLikest_107 (lv_at hl 4 rfl) ?_
    refine lv_iload C.1.1 C.1.2.1 dX1_editLikest_109 (lv_at hl 5 rfl) ?_
    refine lv_iconst (v := (-1)) C.1.1 C.1.2.1 dX1_editLikest_111 (by decide) ?_
    refine yy_cVv0 (As := [.int 2, .int x5, .int x6, .int (-1)]) (rest := []) (id := k3) (ci := 8) (q := (RX8, TX8, 11)) C Z (ss_X8_join l D κ ext k3 2 x5 x6 ((-1)) hk3) (yy_Tds_lt _ hk3) (yy_ent_Tds hk3 _) rfl tw_555 kw_X8_join ⟨⟨rfl, rfl⟩, ⟨Nat.le_of_ble_eq_true rfl, Nat.le_of_ble_eq_true rfl⟩, Nat.le_of_ble_eq_true rfl, Nat.le_of_ble_eq_true rfl⟩ hl.1 rfl (Nat.le_of_ble_eq_true rfl) dX1_editLikest_112 h (fun τ H locs Z h => ?_)
    refine lv_aload_n C.1.1 C.1.2.1 dX1_editLikest_115 rfl (lv_at hl 2 rfl) ?_
    refine lv_dup C.1.1 C.1.2.1 dX1_editLikest_116 rfl ?_
    refine yg_X8_10 C Z hk3 tw_306 dX1_editLikest_117 h (fun v9 h => ?_)
    refine lv_aload_n C.1.1 C.1.2.1 dX1_editLikest_120 rfl (lv_at hl 0 rfl) ?_
    refine lv_iload C.1.1 C.1.2.1 dX1_editLikest_121 (lv_at hl 4 rfl) ?_
    refine yy_cVi0 (As := [.int x5]) (rest := [.int v9, .ref (κ 4 + k3)]) (id := k1) (ci := 2) (q := (RX2, TX2, 3)) C Z (ss_X2_sizeOf l D κ ext k1 x5 hk1) (yy_Eds_lt _ hk1) (yy_ent_Eds hk1 _) rfl tw_523 kw_X2_sizeOf ⟨⟨rfl, rfl⟩, ⟨Nat.le_of_ble_eq_true rfl, Nat.le_of_ble_eq_true rfl⟩, Nat.le_of_ble_eq_true rfl, Nat.le_of_ble_eq_true rfl⟩ hl.1 rfl (Nat.le_of_ble_eq_true rfl) dX1_editLikest_123 h (fun r10 τ H locs Z h => ?_)
    refine lv_aload_n C.1.1 C.1.2.1 dX1_editLikest_126 rfl (lv_at hl 1 rfl) ?_
    refine lv_iload C.1.1 C.1.2.1 dX1_editLikest_127 (lv_at hl 5 rfl) ?_
    refine yy_cVi0 (As := [.int x6]) (rest := [.int r10, .int v9, .ref (κ 4 + k3)]) (id := k2) (ci := 2) (q := (RX2, TX2, 3)) C Z (ss_X2_sizeOf l D κ ext k2 x6 hk2) (yy_Eds_lt _ hk2) (yy_ent_Eds hk2 _) rfl tw_523 kw_X2_sizeOf ⟨⟨rfl, rfl⟩, ⟨Nat.le_of_ble_eq_true rfl, Nat.le_of_ble_eq_true rfl⟩, Nat.le_of_ble_eq_true rfl, Nat.le_of_ble_eq_true rfl⟩ hl.1 rfl (Nat.le_of_ble_eq_true rfl) dX1_editLikest_129 h (fun r11 τ H locs Z h => ?_)
    refine lv_iadd C.1.1 C.1.2.1 dX1_editLikest_132 ?_
    refine lv_iconst (v := 2) C.1.1 C.1.2.1 dX1_editLikest_133 (by decide) ?_
    refine lv_iload C.1.1 C.1.2.1 dX1_editLikest_134 (lv_at hl 3 rfl) ?_
    refine lv_imul C.1.1 C.1.2.1 dX1_editLikest_136 ?_
    refine lv_isub C.1.1 C.1.2.1 dX1_editLikest_137 ?_
    refine lv_iadd C.1.1 C.1.2.1 dX1_editLikest_138 ?_
    refine yp_X8_10 C Z hk3 tw_306 dX1_editLikest_139 h (fun H locs τ Z h => ?_)
    exact ww_X1_editLikest_142  C hr hlk Z (lv_sub hl [3] rfl) h
set_option maxHeartbeats 4000000 in
set_option maxRecDepth 100000 in
theorem ww_X1_editLikest_12 {k1 : Nat} {k2 : Nat} {k3 : Nat} {x4 : Int32} {x5 : Int32} {x6 : Int32} {x7 : Int32} (hk1 : k1 ∈ yy_Eds) (hk2 : k2 ∈ yy_Eds) (hk3 : k3 ∈ yy_Tds) {res : Int32 × yy_T} (C : yy_C D κ p m c cX1_editLikest 9 s args RX1) (hr : meth.sig.returnType = (some .boolean)) (hlk : meth.locks = false) (Z : yy_Z D κ ext A s.heap τ H locs) (hl : lv_has ls 9 [(0, .ref (κ 4 + 49)), (1, .ref (κ 4 + k1)), (2, .ref (κ 4 + k2)), (3, .ref (κ 4 + k3)), (4, .int x4), (5, .int x5), (6, .int x6), (7, .int x7)]) (h : mm_X1_editLikest_12 k1 k2 k3 x4 x5 x6 x7 τ = some res) : W p l e rm_X1_editLikest s m args below meth c H locs 0 0 (MQ below (yy_Qi D κ ext A res) args s 0 0 A) (F0 m 12 ls []) := by
  unfold mm_X1_editLikest_12 at h
  refine yy_loop h (fun (w : Int32 × Int32 × Int32 × Int32) (τ : yy_T) => ∀ (H : Heap) (locs : List Loc) (ls : Array Slot), yy_Z D κ ext A s.heap τ H locs → lv_has ls 9 [(0, .ref (κ 4 + 49)), (1, .ref (κ 4 + k1)), (2, .ref (κ 4 + k2)), (3, .ref (κ 4 + k3)), (4, .int w.1), (5, .int w.2.1), (6, .int w.2.2.1), (7, .int w.2.2.2)] → W p l e rm_X1_editLikest s m args below meth c H locs 0 0 (MQ below (yy_Qi D κ ext A res) args s 0 0 A) (F0 m 12 ls [])) ?_ H locs ls Z hl
  intro w τ y hy hI hX H locs ls Z hl
  refine ww_X1_editLikest_12b hk1 hk2 hk3 C Z hl hy (fun w τ H locs ls ey Z hl => hI w τ ey H locs ls Z hl) (fun w τ H locs ls ey Z hl => ?_)
  · have h := hX _ _ ey
    exact ww_X1_editLikest_100 hk1 hk2 hk3 C hr hlk Z (lv_sub hl [0, 1, 2, 3, 4, 5] rfl) h
set_option maxHeartbeats 4000000 in
set_option maxRecDepth 100000 in
theorem ww_X1_editLikest_E {k1 : Nat} {k2 : Nat} {k3 : Nat} (hk1 : k1 ∈ yy_Eds) (hk2 : k2 ∈ yy_Eds) (hk3 : k3 ∈ yy_Tds) {res : Int32 × yy_T} (C : yy_C D κ p m c cX1_editLikest 9 s args RX1) (hr : meth.sig.returnType = (some .boolean)) (hlk : meth.locks = false) (Z : yy_Z D κ ext A s.heap τ H locs) (hl : lv_has ls 9 [(0, .ref (κ 4 + 49)), (1, .ref (κ 4 + k1)), (2, .ref (κ 4 + k2)), (3, .ref (κ 4 + k3))]) (h : mm_X1_editLikest k1 k2 k3 τ = some res) : W p l e rm_X1_editLikest s m args below meth c H locs 0 0 (MQ below (yy_Qi D κ ext A res) args s 0 0 A) (F0 m 0 ls []) := by
  unfold mm_X1_editLikest at h
  refine lv_iconst (v := 0) C.1.1 C.1.2.1 dX1_editLikest_0 (by decide) ?_
  refine lv_istore (lv' := [(4, .int 0), (0, .ref (κ 4 + 49)), (1, .ref (κ 4 + k1)), (2, .ref (κ 4 + k2)), (3, .ref (κ 4 + k3))]) C.1.1 C.1.2.1 dX1_editLikest_1 hl (by decide) rfl (fun ls hl => ?_)
  refine lv_iconst (v := 0) C.1.1 C.1.2.1 dX1_editLikest_3 (by decide) ?_
  refine lv_istore (lv' := [(5, .int 0), (4, .int 0), (0, .ref (κ 4 + 49)), (1, .ref (κ 4 + k1)), (2, .ref (κ 4 + k2)), (3, .ref (κ 4 + k3))]) C.1.1 C.1.2.1 dX1_editLikest_4 hl (by decide) rfl (fun ls hl => ?_)
  refine lv_iconst (v := 0) C.1.1 C.1.2.1 dX1_editLikest_6 (by decide) ?_
  refine lv_istore (lv' := [(6, .int 0), (5, .int 0), (4, .int 0), (0, .ref (κ 4 + 49)), (1, .ref (κ 4 + k1)), (2, .ref (κ 4 + k2)), (3, .ref (κ 4 + k3))]) C.1.1 C.1.2.1 dX1_editLikest_7 hl (by decide) rfl (fun ls hl => ?_)
  refine lv_iconst (v := 0) C.1.1 C.1.2.1 dX1_editLikest_9 (by decide) ?_
  refine lv_istore (lv' := [(7, .int 0), (6, .int 0), (5, .int 0), (4, .int 0), (0, .ref (κ 4 + 49)), (1, .ref (κ 4 + k1)), (2, .ref (κ 4 + k2)), (3, .ref (κ 4 + k3))]) C.1.1 C.1.2.1 dX1_editLikest_10 hl (by decide) rfl (fun ls hl => ?_)
  exact ww_X1_editLikest_12 hk1 hk2 hk3 C hr hlk Z (lv_sub hl [4, 5, 6, 7, 3, 2, 1, 0] rfl) h
set_option maxHeartbeats 4000000 in
set_option maxRecDepth 100000 in
theorem ss_X1_editLikest (l : Launch) (D : va_G) (κ : Nat → Nat) (ext : va_W) (k1 : Nat) (k2 : Nat) (k3 : Nat) (hk1 : k1 ∈ yy_Eds) (hk2 : k2 ∈ yy_Eds) (hk3 : k3 ∈ yy_Tds) : yy_Mi l D κ ext yX1_editLikest cX1_editLikest 9 (some .boolean) rm_X1_editLikest 0 0 [.ref (κ 4 + 49), .ref (κ 4 + k1), .ref (κ 4 + k2), .ref (κ 4 + k3)] (mm_X1_editLikest k1 k2 k3) := by
  intro sz τ res h
  refine yy_ofW (by decide) (Nat.le_of_ble_eq_true rfl) ?_
  intro p e s m args below meth c ls hsz E
  obtain ⟨C, hr, hlk, Z, hl⟩ := E
  subst hsz
  exact ww_X1_editLikest_E hk1 hk2 hk3 C hr hlk Z hl h
end
