theorem yk_ints0 : ∀ k ∈ yy_Ints, k ≠ 0 := by decide +kernel
theorem yy_Eds_n0 : ∀ k ∈ yy_Eds, k ≠ 0 := by decide +kernel
theorem yy_Crs_n0 : ∀ k ∈ yy_Crs, k ≠ 0 := by decide +kernel
theorem yy_Tds_n0 : ∀ k ∈ yy_Tds, k ≠ 0 := by decide +kernel
theorem yk_n0 {L : List Nat} {k : Nat} (h : ∀ k ∈ L, k ≠ 0) (hk : k ∈ L) : k ≠ 0 := h k hk
theorem yk_EI {κ : Nat → Nat} {k n : Nat} (h : k ∈ yy_Ints) (hn : yy_len k = n) : yk_E κ k = .inl (κ 0, n, .inl (fun _ => 0)) := by
  unfold yk_E
  rw [yy_ent_Ints h, yy_t0_z (yk_ints0 k h), hn]
theorem kk_X7 : yk_w RX7 2 yX7_init cX7_init 1 := ⟨⟨tw_77, tw_52, tw_79, tw_80⟩, by decide +kernel⟩
abbrev rk_X7 : Room := { frames := 1, cells := 1, slots := 640, locals := 20 }
set_option maxHeartbeats 4000000 in
set_option maxRecDepth 100000 in
theorem sk_X7 (l : Launch) (D : va_G) (κ : Nat → Nat) : yk_M l D κ yX7_init cX7_init 1 rk_X7 1 7 [.null, .int 0] 2 1 640 := by
  refine yk_ofW (by decide) rfl (Nat.le_of_ble_eq_true rfl) ?_
  intro p e s m args below meth c ls C hr hlk hini Z hl
  refine lv_aload_n C.1.1 C.1.2.1 dX7_init_0 rfl (lv_at hl 0 rfl) ?_
  refine yk_obj C tw_81 tw_74 tw_75 hl.1 dX7_init_1 (Nat.le_of_ble_eq_true rfl) (Nat.le_of_ble_eq_true rfl) ?_
  refine lv_aload_n C.1.1 C.1.2.1 dX7_init_4 rfl (lv_at hl 0 rfl) ?_
  refine lv_sipush (v := 640) C.1.1 C.1.2.1 dX7_init_5 (by decide) ?_
  refine yk_newB (N' := 640) C Z tw_92 (by decide) (by decide) (by decide) (by unfold yk_E; rw [yy_ent_2, yy_t0_z (by decide)]) (Nat.le_of_ble_eq_true rfl) (Nat.le_of_ble_eq_true rfl) dX7_init_8 (fun H Z => ?_)
  refine W.widen (k := 1) (n := 640) (Nat.le_refl _) (Nat.le_refl _) ?_
  refine yk_putF C Z (k := 0) (id := 2) (N := 2) (T := TX7) rfl inX7 tyX7_ok nmX7 (by decide) rfl rfl hini rfl rfl rfl (Nat.le_of_ble_eq_true rfl) tw_82 dX7_init_10 (fun H locs Z => ?_)
  have Z : yk_Z D κ (fun q => κ 4 + 1 ≤ q) s.heap 1 7 [.ref (κ 4 + 2), .int 0] (yk_E κ) 3 H locs := Z
  refine lv_aload_n C.1.1 C.1.2.1 dX7_init_13 rfl (lv_at hl 0 rfl) ?_
  refine lv_iconst (v := 0) C.1.1 C.1.2.1 dX7_init_14 (by decide) ?_
  refine yk_putI C Z (k := 1) (N := 2) (T := TX7) rfl inX7 tyX7_ok nmX7 (by decide) rfl rfl rfl rfl rfl (Nat.le_of_ble_eq_true rfl) tw_84 dX7_init_15 (fun H locs Z => ?_)
  have Z : yk_Z D κ (fun q => κ 4 + 1 ≤ q) s.heap 1 7 [.ref (κ 4 + 2), .int 0] (yk_E κ) 3 H locs := Z
  exact yk_ret C Z hr hlk (by unfold yk_E; rw [yy_ent_1]; try rfl) (fun _ _ _ => rfl) rfl dX7_init_18
theorem kk_X2 : yk_w RX2 3 yX2_init cX2_init 1 := ⟨⟨tw_100, tw_54, tw_102, tw_103⟩, by decide +kernel⟩
abbrev rk_X2 : Room := { frames := 1, cells := 2, slots := 126, locals := 20 }
set_option maxHeartbeats 4000000 in
set_option maxRecDepth 100000 in
theorem sk_X2 (l : Launch) (D : va_G) (κ : Nat → Nat) {o : Nat} (ho : o ∈ yy_Eds) : yk_M l D κ yX2_init cX2_init 1 rk_X2 o 2 [.null, .null, .int 0] 3 2 126 := by
  refine yk_ofW (by decide) rfl (Nat.le_of_ble_eq_true rfl) ?_
  intro p e s m args below meth c ls C hr hlk hini Z hl
  refine lv_aload_n C.1.1 C.1.2.1 dX2_init_0 rfl (lv_at hl 0 rfl) ?_
  refine yk_obj C tw_104 tw_74 tw_75 hl.1 dX2_init_1 (Nat.le_of_ble_eq_true rfl) (Nat.le_of_ble_eq_true rfl) ?_
  refine lv_aload_n C.1.1 C.1.2.1 dX2_init_4 rfl (lv_at hl 0 rfl) ?_
  refine lv_bipush (v := 14) C.1.1 C.1.2.1 dX2_init_5 (by decide) ?_
  refine yk_newI (N' := 14) C Z tw_123 (by decide) (by decide) (by decide) (yk_EI (yy_E1 _ ho) (yy_lenE1 _ ho)) (Nat.le_of_ble_eq_true rfl) (Nat.le_of_ble_eq_true rfl) dX2_init_7 (fun H Z => ?_)
  refine W.widen (k := 1) (n := 14) (Nat.le_refl _) (Nat.le_refl _) ?_
  refine yk_putF C Z (k := 0) (id := o + 1) (N := 3) (T := TX2) rfl inX2 tyX2_ok nmX2 (by decide) rfl rfl hini rfl rfl rfl (Nat.le_of_ble_eq_true rfl) tw_105 dX2_init_9 (fun H locs Z => ?_)
  have Z : yk_Z D κ (fun q => κ 4 + o ≤ q) s.heap o 2 [.ref (κ 4 + (o + 1)), .null, .int 0] (yk_E κ) (o + 2) H locs := Z
  refine lv_aload_n C.1.1 C.1.2.1 dX2_init_12 rfl (lv_at hl 0 rfl) ?_
  refine lv_bipush (v := 112) C.1.1 C.1.2.1 dX2_init_13 (by decide) ?_
  refine yk_newI (N' := 112) C Z tw_123 (by decide) (by decide) (by decide) (yk_EI (yy_E2 _ ho) (yy_lenE2 _ ho)) (Nat.le_of_ble_eq_true rfl) (Nat.le_of_ble_eq_true rfl) dX2_init_15 (fun H Z => ?_)
  refine W.widen (k := 2) (n := 126) (Nat.le_refl _) (Nat.le_refl _) ?_
  refine yk_putF C Z (k := 1) (id := o + 2) (N := 3) (T := TX2) rfl inX2 tyX2_ok nmX2 (by decide) rfl rfl hini rfl rfl rfl (Nat.le_of_ble_eq_true rfl) tw_107 dX2_init_17 (fun H locs Z => ?_)
  have Z : yk_Z D κ (fun q => κ 4 + o ≤ q) s.heap o 2 [.ref (κ 4 + (o + 1)), .ref (κ 4 + (o + 2)), .int 0] (yk_E κ) (o + 3) H locs := Z
  refine lv_aload_n C.1.1 C.1.2.1 dX2_init_20 rfl (lv_at hl 0 rfl) ?_
  refine lv_iconst (v := 0) C.1.1 C.1.2.1 dX2_init_21 (by decide) ?_
  refine yk_putI C Z (k := 2) (N := 3) (T := TX2) rfl inX2 tyX2_ok nmX2 (by decide) rfl rfl rfl rfl rfl (Nat.le_of_ble_eq_true rfl) tw_111 dX2_init_22 (fun H locs Z => ?_)
  have Z : yk_Z D κ (fun q => κ 4 + o ≤ q) s.heap o 2 [.ref (κ 4 + (o + 1)), .ref (κ 4 + (o + 2)), .int 0] (yk_E κ) (o + 3) H locs := Z
  exact yk_ret C Z hr hlk (by unfold yk_E; rw [yy_ent_Eds ho, yy_t0_z (yk_n0 yy_Eds_n0 ho)]) (fun _ _ _ => rfl) rfl dX2_init_25
theorem kk_X6 : yk_w RX6 5 yX6_init cX6_init 1 := ⟨⟨tw_94, tw_53, tw_96, tw_97⟩, by decide +kernel⟩
abbrev rk_X6 : Room := { frames := 2, cells := 3, slots := 129, locals := 40 }
set_option maxHeartbeats 4000000 in
set_option maxRecDepth 100000 in
theorem sk_X6 (l : Launch) (D : va_G) (κ : Nat → Nat) : yk_M l D κ yX6_init cX6_init 1 rk_X6 3 6 [.null, .int 0, .int 0, .int 0, .int 0] 4 3 129 := by
  refine yk_ofW (by decide) rfl (Nat.le_of_ble_eq_true rfl) ?_
  intro p e s m args below meth c ls C hr hlk hini Z hl
  refine lv_aload_n C.1.1 C.1.2.1 dX6_init_0 rfl (lv_at hl 0 rfl) ?_
  refine yk_obj C tw_98 tw_74 tw_75 hl.1 dX6_init_1 (Nat.le_of_ble_eq_true rfl) (Nat.le_of_ble_eq_true rfl) ?_
  refine lv_aload_n C.1.1 C.1.2.1 dX6_init_4 rfl (lv_at hl 0 rfl) ?_
  refine yk_ni (N := 3) (cj := 2) (gs := [.null, .null, .int 0]) (rest := [.ref (κ 4 + 3)]) C Z rfl inX2 tyX2_ok (by decide) tw_99 kk_X2 (sk_X2 l D κ (o := 4) (by decide)) (Or.inl (by decide +kernel)) (fun _ _ _ => rfl) (by decide) ⟨rfl, rfl⟩ ⟨(Nat.le_of_ble_eq_true rfl), (Nat.le_of_ble_eq_true rfl)⟩ ⟨(Nat.le_of_ble_eq_true rfl), (Nat.le_of_ble_eq_true rfl)⟩ hl.1 (Nat.le_of_ble_eq_true rfl) dX6_init_5 dX6_init_8 dX6_init_9 (fun H locs Z => ?_)
  have Z : yk_Z D κ (fun q => κ 4 + 3 ≤ q) s.heap 3 6 [.null, .int 0, .int 0, .int 0, .int 0] (yk_E κ) 7 H locs := Z
  refine W.widen (k := 3) (n := 129) (Nat.le_refl _) (Nat.le_refl _) ?_
  refine yk_putF C Z (k := 0) (id := 4) (N := 5) (T := TX6) rfl inX6 tyX6_ok nmX6 (by decide) rfl rfl hini rfl rfl rfl (Nat.le_of_ble_eq_true rfl) tw_124 dX6_init_12 (fun H locs Z => ?_)
  have Z : yk_Z D κ (fun q => κ 4 + 3 ≤ q) s.heap 3 6 [.ref (κ 4 + 4), .int 0, .int 0, .int 0, .int 0] (yk_E κ) 7 H locs := Z
  refine lv_aload_n C.1.1 C.1.2.1 dX6_init_15 rfl (lv_at hl 0 rfl) ?_
  refine lv_iconst (v := 0) C.1.1 C.1.2.1 dX6_init_16 (by decide) ?_
  refine yk_putI C Z (k := 1) (N := 5) (T := TX6) rfl inX6 tyX6_ok nmX6 (by decide) rfl rfl rfl rfl rfl (Nat.le_of_ble_eq_true rfl) tw_126 dX6_init_17 (fun H locs Z => ?_)
  have Z : yk_Z D κ (fun q => κ 4 + 3 ≤ q) s.heap 3 6 [.ref (κ 4 + 4), .int 0, .int 0, .int 0, .int 0] (yk_E κ) 7 H locs := Z
  refine lv_aload_n C.1.1 C.1.2.1 dX6_init_20 rfl (lv_at hl 0 rfl) ?_
  refine lv_iconst (v := 0) C.1.1 C.1.2.1 dX6_init_21 (by decide) ?_
  refine yk_putI C Z (k := 2) (N := 5) (T := TX6) rfl inX6 tyX6_ok nmX6 (by decide) rfl rfl rfl rfl rfl (Nat.le_of_ble_eq_true rfl) tw_128 dX6_init_22 (fun H locs Z => ?_)
  have Z : yk_Z D κ (fun q => κ 4 + 3 ≤ q) s.heap 3 6 [.ref (κ 4 + 4), .int 0, .int 0, .int 0, .int 0] (yk_E κ) 7 H locs := Z
  refine lv_aload_n C.1.1 C.1.2.1 dX6_init_25 rfl (lv_at hl 0 rfl) ?_
  refine lv_iconst (v := 0) C.1.1 C.1.2.1 dX6_init_26 (by decide) ?_
  refine yk_putI C Z (k := 3) (N := 5) (T := TX6) rfl inX6 tyX6_ok nmX6 (by decide) rfl rfl rfl rfl rfl (Nat.le_of_ble_eq_true rfl) tw_130 dX6_init_27 (fun H locs Z => ?_)
  have Z : yk_Z D κ (fun q => κ 4 + 3 ≤ q) s.heap 3 6 [.ref (κ 4 + 4), .int 0, .int 0, .int 0, .int 0] (yk_E κ) 7 H locs := Z
  refine lv_aload_n C.1.1 C.1.2.1 dX6_init_30 rfl (lv_at hl 0 rfl) ?_
  refine lv_iconst (v := 0) C.1.1 C.1.2.1 dX6_init_31 (by decide) ?_
  refine yk_putI C Z (k := 4) (N := 5) (T := TX6) rfl inX6 tyX6_ok nmX6 (by decide) rfl rfl rfl rfl rfl (Nat.le_of_ble_eq_true rfl) tw_131 dX6_init_32 (fun H locs Z => ?_)
  have Z : yk_Z D κ (fun q => κ 4 + 3 ≤ q) s.heap 3 6 [.ref (κ 4 + 4), .int 0, .int 0, .int 0, .int 0] (yk_E κ) 7 H locs := Z
  exact yk_ret C Z hr hlk (by unfold yk_E; rw [yy_ent_3]; try rfl) (fun _ _ _ => rfl) rfl dX6_init_35
theorem kk_X0 : yk_w RX0 5 yX0_init cX0_init 1 := ⟨⟨tw_238, tw_59, tw_240, tw_241⟩, by decide +kernel⟩
abbrev rk_X0 : Room := { frames := 1, cells := 3, slots := 253, locals := 20 }
set_option maxHeartbeats 4000000 in
set_option maxRecDepth 100000 in
theorem sk_X0 (l : Launch) (D : va_G) (κ : Nat → Nat) {o : Nat} (ho : o ∈ yy_Crs) : yk_M l D κ yX0_init cX0_init 1 rk_X0 o 0 [.null, .null, .null, .int 0, .int 0] 4 3 253 := by
  refine yk_ofW (by decide) rfl (Nat.le_of_ble_eq_true rfl) ?_
  intro p e s m args below meth c ls C hr hlk hini Z hl
  refine lv_aload_n C.1.1 C.1.2.1 dX0_init_0 rfl (lv_at hl 0 rfl) ?_
  refine yk_obj C tw_242 tw_74 tw_75 hl.1 dX0_init_1 (Nat.le_of_ble_eq_true rfl) (Nat.le_of_ble_eq_true rfl) ?_
  refine lv_aload_n C.1.1 C.1.2.1 dX0_init_4 rfl (lv_at hl 0 rfl) ?_
  refine lv_bipush (v := 14) C.1.1 C.1.2.1 dX0_init_5 (by decide) ?_
  refine yk_newI (N' := 14) C Z tw_123 (by decide) (by decide) (by decide) (yk_EI (yy_C1 _ ho) (yy_lenC1 _ ho)) (Nat.le_of_ble_eq_true rfl) (Nat.le_of_ble_eq_true rfl) dX0_init_7 (fun H Z => ?_)
  refine W.widen (k := 1) (n := 14) (Nat.le_refl _) (Nat.le_refl _) ?_
  refine yk_putF C Z (k := 0) (id := o + 1) (N := 5) (T := TX0) rfl inX0 tyX0_ok nmX0 (by decide) rfl rfl hini rfl rfl rfl (Nat.le_of_ble_eq_true rfl) tw_243 dX0_init_9 (fun H locs Z => ?_)
  have Z : yk_Z D κ (fun q => κ 4 + o ≤ q) s.heap o 0 [.ref (κ 4 + (o + 1)), .null, .null, .int 0, .int 0] (yk_E κ) (o + 2) H locs := Z
  refine lv_aload_n C.1.1 C.1.2.1 dX0_init_12 rfl (lv_at hl 0 rfl) ?_
  refine lv_bipush (v := 14) C.1.1 C.1.2.1 dX0_init_13 (by decide) ?_
  refine yk_newI (N' := 14) C Z tw_123 (by decide) (by decide) (by decide) (yk_EI (yy_C2 _ ho) (yy_lenC2 _ ho)) (Nat.le_of_ble_eq_true rfl) (Nat.le_of_ble_eq_true rfl) dX0_init_15 (fun H Z => ?_)
  refine W.widen (k := 2) (n := 28) (Nat.le_refl _) (Nat.le_refl _) ?_
  refine yk_putF C Z (k := 1) (id := o + 2) (N := 5) (T := TX0) rfl inX0 tyX0_ok nmX0 (by decide) rfl rfl hini rfl rfl rfl (Nat.le_of_ble_eq_true rfl) tw_244 dX0_init_17 (fun H locs Z => ?_)
  have Z : yk_Z D κ (fun q => κ 4 + o ≤ q) s.heap o 0 [.ref (κ 4 + (o + 1)), .ref (κ 4 + (o + 2)), .null, .int 0, .int 0] (yk_E κ) (o + 3) H locs := Z
  refine lv_aload_n C.1.1 C.1.2.1 dX0_init_20 rfl (lv_at hl 0 rfl) ?_
  refine lv_sipush (v := 225) C.1.1 C.1.2.1 dX0_init_21 (by decide) ?_
  refine yk_newI (N' := 225) C Z tw_123 (by decide) (by decide) (by decide) (yk_EI (yy_C3 _ ho) (yy_lenC3 _ ho)) (Nat.le_of_ble_eq_true rfl) (Nat.le_of_ble_eq_true rfl) dX0_init_24 (fun H Z => ?_)
  refine W.widen (k := 3) (n := 253) (Nat.le_refl _) (Nat.le_refl _) ?_
  refine yk_putF C Z (k := 2) (id := o + 3) (N := 5) (T := TX0) rfl inX0 tyX0_ok nmX0 (by decide) rfl rfl hini rfl rfl rfl (Nat.le_of_ble_eq_true rfl) tw_245 dX0_init_26 (fun H locs Z => ?_)
  have Z : yk_Z D κ (fun q => κ 4 + o ≤ q) s.heap o 0 [.ref (κ 4 + (o + 1)), .ref (κ 4 + (o + 2)), .ref (κ 4 + (o + 3)), .int 0, .int 0] (yk_E κ) (o + 4) H locs := Z
  refine lv_aload_n C.1.1 C.1.2.1 dX0_init_29 rfl (lv_at hl 0 rfl) ?_
  refine lv_iconst (v := 0) C.1.1 C.1.2.1 dX0_init_30 (by decide) ?_
  refine yk_putI C Z (k := 3) (N := 5) (T := TX0) rfl inX0 tyX0_ok nmX0 (by decide) rfl rfl rfl rfl rfl (Nat.le_of_ble_eq_true rfl) tw_246 dX0_init_31 (fun H locs Z => ?_)
  have Z : yk_Z D κ (fun q => κ 4 + o ≤ q) s.heap o 0 [.ref (κ 4 + (o + 1)), .ref (κ 4 + (o + 2)), .ref (κ 4 + (o + 3)), .int 0, .int 0] (yk_E κ) (o + 4) H locs := Z
  refine lv_aload_n C.1.1 C.1.2.1 dX0_init_34 rfl (lv_at hl 0 rfl) ?_
  refine lv_iconst (v := 0) C.1.1 C.1.2.1 dX0_init_35 (by decide) ?_
  refine yk_putI C Z (k := 4) (N := 5) (T := TX0) rfl inX0 tyX0_ok nmX0 (by decide) rfl rfl rfl rfl rfl (Nat.le_of_ble_eq_true rfl) tw_247 dX0_init_36 (fun H locs Z => ?_)
  have Z : yk_Z D κ (fun q => κ 4 + o ≤ q) s.heap o 0 [.ref (κ 4 + (o + 1)), .ref (κ 4 + (o + 2)), .ref (κ 4 + (o + 3)), .int 0, .int 0] (yk_E κ) (o + 4) H locs := Z
  exact yk_ret C Z hr hlk (by unfold yk_E; rw [yy_ent_Crs ho, yy_t0_z (yk_n0 yy_Crs_n0 ho)]) (fun _ _ _ => rfl) rfl dX0_init_39
theorem kk_X4 : yk_w RX4 4 yX4_init cX4_init 1 := ⟨⟨tw_177, tw_57, tw_179, tw_180⟩, by decide +kernel⟩
abbrev rk_X4 : Room := { frames := 1, cells := 2, slots := 28, locals := 20 }
set_option maxHeartbeats 4000000 in
set_option maxRecDepth 100000 in
theorem sk_X4 (l : Launch) (D : va_G) (κ : Nat → Nat) : yk_M l D κ yX4_init cX4_init 1 rk_X4 50 4 [.null, .null, .int 0, .int 0] 3 2 28 := by
  refine yk_ofW (by decide) rfl (Nat.le_of_ble_eq_true rfl) ?_
  intro p e s m args below meth c ls C hr hlk hini Z hl
  refine lv_aload_n C.1.1 C.1.2.1 dX4_init_0 rfl (lv_at hl 0 rfl) ?_
  refine yk_obj C tw_181 tw_74 tw_75 hl.1 dX4_init_1 (Nat.le_of_ble_eq_true rfl) (Nat.le_of_ble_eq_true rfl) ?_
  refine lv_aload_n C.1.1 C.1.2.1 dX4_init_4 rfl (lv_at hl 0 rfl) ?_
  refine lv_bipush (v := 14) C.1.1 C.1.2.1 dX4_init_5 (by decide) ?_
  refine yk_newI (N' := 14) C Z tw_123 (by decide) (by decide) (by decide) (yk_EI (by decide) rfl) (Nat.le_of_ble_eq_true rfl) (Nat.le_of_ble_eq_true rfl) dX4_init_7 (fun H Z => ?_)
  refine W.widen (k := 1) (n := 14) (Nat.le_refl _) (Nat.le_refl _) ?_
  refine yk_putF C Z (k := 0) (id := 51) (N := 4) (T := TX4) rfl inX4 tyX4_ok nmX4 (by decide) rfl rfl hini rfl rfl rfl (Nat.le_of_ble_eq_true rfl) tw_182 dX4_init_9 (fun H locs Z => ?_)
  have Z : yk_Z D κ (fun q => κ 4 + 50 ≤ q) s.heap 50 4 [.ref (κ 4 + 51), .null, .int 0, .int 0] (yk_E κ) 52 H locs := Z
  refine lv_aload_n C.1.1 C.1.2.1 dX4_init_12 rfl (lv_at hl 0 rfl) ?_
  refine lv_bipush (v := 14) C.1.1 C.1.2.1 dX4_init_13 (by decide) ?_
  refine yk_newI (N' := 14) C Z tw_123 (by decide) (by decide) (by decide) (yk_EI (by decide) rfl) (Nat.le_of_ble_eq_true rfl) (Nat.le_of_ble_eq_true rfl) dX4_init_15 (fun H Z => ?_)
  refine W.widen (k := 2) (n := 28) (Nat.le_refl _) (Nat.le_refl _) ?_
  refine yk_putF C Z (k := 1) (id := 52) (N := 4) (T := TX4) rfl inX4 tyX4_ok nmX4 (by decide) rfl rfl hini rfl rfl rfl (Nat.le_of_ble_eq_true rfl) tw_185 dX4_init_17 (fun H locs Z => ?_)
  have Z : yk_Z D κ (fun q => κ 4 + 50 ≤ q) s.heap 50 4 [.ref (κ 4 + 51), .ref (κ 4 + 52), .int 0, .int 0] (yk_E κ) 53 H locs := Z
  refine lv_aload_n C.1.1 C.1.2.1 dX4_init_20 rfl (lv_at hl 0 rfl) ?_
  refine lv_iconst (v := 0) C.1.1 C.1.2.1 dX4_init_21 (by decide) ?_
  refine yk_putI C Z (k := 2) (N := 4) (T := TX4) rfl inX4 tyX4_ok nmX4 (by decide) rfl rfl rfl rfl rfl (Nat.le_of_ble_eq_true rfl) tw_188 dX4_init_22 (fun H locs Z => ?_)
  have Z : yk_Z D κ (fun q => κ 4 + 50 ≤ q) s.heap 50 4 [.ref (κ 4 + 51), .ref (κ 4 + 52), .int 0, .int 0] (yk_E κ) 53 H locs := Z
  refine lv_aload_n C.1.1 C.1.2.1 dX4_init_25 rfl (lv_at hl 0 rfl) ?_
  refine lv_iconst (v := 0) C.1.1 C.1.2.1 dX4_init_26 (by decide) ?_
  refine yk_putI C Z (k := 3) (N := 4) (T := TX4) rfl inX4 tyX4_ok nmX4 (by decide) rfl rfl rfl rfl rfl (Nat.le_of_ble_eq_true rfl) tw_191 dX4_init_27 (fun H locs Z => ?_)
  have Z : yk_Z D κ (fun q => κ 4 + 50 ≤ q) s.heap 50 4 [.ref (κ 4 + 51), .ref (κ 4 + 52), .int 0, .int 0] (yk_E κ) 53 H locs := Z
  exact yk_ret C Z hr hlk (by unfold yk_E; rw [yy_ent_50]; try rfl) (fun _ _ _ => rfl) rfl dX4_init_30
theorem kk_X3 : yk_w RX3 9 yX3_init cX3_init 1 := ⟨⟨tw_204, tw_58, tw_206, tw_207⟩, by decide +kernel⟩
abbrev rk_X3 : Room := { frames := 1, cells := 7, slots := 98, locals := 20 }
set_option maxHeartbeats 4000000 in
set_option maxRecDepth 100000 in
theorem sk_X3 (l : Launch) (D : va_G) (κ : Nat → Nat) : yk_M l D κ yX3_init cX3_init 1 rk_X3 53 3 [.null, .null, .null, .null, .int 0, .null, .null, .null, .int 0] 8 7 98 := by
  refine yk_ofW (by decide) rfl (Nat.le_of_ble_eq_true rfl) ?_
  intro p e s m args below meth c ls C hr hlk hini Z hl
  refine lv_aload_n C.1.1 C.1.2.1 dX3_init_0 rfl (lv_at hl 0 rfl) ?_
  refine yk_obj C tw_208 tw_74 tw_75 hl.1 dX3_init_1 (Nat.le_of_ble_eq_true rfl) (Nat.le_of_ble_eq_true rfl) ?_
  refine lv_aload_n C.1.1 C.1.2.1 dX3_init_4 rfl (lv_at hl 0 rfl) ?_
  refine lv_bipush (v := 14) C.1.1 C.1.2.1 dX3_init_5 (by decide) ?_
  refine yk_newI (N' := 14) C Z tw_123 (by decide) (by decide) (by decide) (yk_EI (by decide) rfl) (Nat.le_of_ble_eq_true rfl) (Nat.le_of_ble_eq_true rfl) dX3_init_7 (fun H Z => ?_)
  refine W.widen (k := 1) (n := 14) (Nat.le_refl _) (Nat.le_refl _) ?_
  refine yk_putF C Z (k := 0) (id := 54) (N := 9) (T := TX3) rfl inX3 tyX3_ok nmX3 (by decide) rfl rfl hini rfl rfl rfl (Nat.le_of_ble_eq_true rfl) tw_209 dX3_init_9 (fun H locs Z => ?_)
  have Z : yk_Z D κ (fun q => κ 4 + 53 ≤ q) s.heap 53 3 [.ref (κ 4 + 54), .null, .null, .null, .int 0, .null, .null, .null, .int 0] (yk_E κ) 55 H locs := Z
  refine lv_aload_n C.1.1 C.1.2.1 dX3_init_12 rfl (lv_at hl 0 rfl) ?_
  refine lv_bipush (v := 14) C.1.1 C.1.2.1 dX3_init_13 (by decide) ?_
  refine yk_newI (N' := 14) C Z tw_123 (by decide) (by decide) (by decide) (yk_EI (by decide) rfl) (Nat.le_of_ble_eq_true rfl) (Nat.le_of_ble_eq_true rfl) dX3_init_15 (fun H Z => ?_)
  refine W.widen (k := 2) (n := 28) (Nat.le_refl _) (Nat.le_refl _) ?_
  refine yk_putF C Z (k := 1) (id := 55) (N := 9) (T := TX3) rfl inX3 tyX3_ok nmX3 (by decide) rfl rfl hini rfl rfl rfl (Nat.le_of_ble_eq_true rfl) tw_210 dX3_init_17 (fun H locs Z => ?_)
  have Z : yk_Z D κ (fun q => κ 4 + 53 ≤ q) s.heap 53 3 [.ref (κ 4 + 54), .ref (κ 4 + 55), .null, .null, .int 0, .null, .null, .null, .int 0] (yk_E κ) 56 H locs := Z
  refine lv_aload_n C.1.1 C.1.2.1 dX3_init_20 rfl (lv_at hl 0 rfl) ?_
  refine lv_bipush (v := 14) C.1.1 C.1.2.1 dX3_init_21 (by decide) ?_
  refine yk_newI (N' := 14) C Z tw_123 (by decide) (by decide) (by decide) (yk_EI (by decide) rfl) (Nat.le_of_ble_eq_true rfl) (Nat.le_of_ble_eq_true rfl) dX3_init_23 (fun H Z => ?_)
  refine W.widen (k := 3) (n := 42) (Nat.le_refl _) (Nat.le_refl _) ?_
  refine yk_putF C Z (k := 2) (id := 56) (N := 9) (T := TX3) rfl inX3 tyX3_ok nmX3 (by decide) rfl rfl hini rfl rfl rfl (Nat.le_of_ble_eq_true rfl) tw_211 dX3_init_25 (fun H locs Z => ?_)
  have Z : yk_Z D κ (fun q => κ 4 + 53 ≤ q) s.heap 53 3 [.ref (κ 4 + 54), .ref (κ 4 + 55), .ref (κ 4 + 56), .null, .int 0, .null, .null, .null, .int 0] (yk_E κ) 57 H locs := Z
  refine lv_aload_n C.1.1 C.1.2.1 dX3_init_28 rfl (lv_at hl 0 rfl) ?_
  refine lv_bipush (v := 14) C.1.1 C.1.2.1 dX3_init_29 (by decide) ?_
  refine yk_newI (N' := 14) C Z tw_123 (by decide) (by decide) (by decide) (yk_EI (by decide) rfl) (Nat.le_of_ble_eq_true rfl) (Nat.le_of_ble_eq_true rfl) dX3_init_31 (fun H Z => ?_)
  refine W.widen (k := 4) (n := 56) (Nat.le_refl _) (Nat.le_refl _) ?_
  refine yk_putF C Z (k := 3) (id := 57) (N := 9) (T := TX3) rfl inX3 tyX3_ok nmX3 (by decide) rfl rfl hini rfl rfl rfl (Nat.le_of_ble_eq_true rfl) tw_212 dX3_init_33 (fun H locs Z => ?_)
  have Z : yk_Z D κ (fun q => κ 4 + 53 ≤ q) s.heap 53 3 [.ref (κ 4 + 54), .ref (κ 4 + 55), .ref (κ 4 + 56), .ref (κ 4 + 57), .int 0, .null, .null, .null, .int 0] (yk_E κ) 58 H locs := Z
  refine lv_aload_n C.1.1 C.1.2.1 dX3_init_36 rfl (lv_at hl 0 rfl) ?_
  refine lv_iconst (v := 0) C.1.1 C.1.2.1 dX3_init_37 (by decide) ?_
  refine yk_putI C Z (k := 4) (N := 9) (T := TX3) rfl inX3 tyX3_ok nmX3 (by decide) rfl rfl rfl rfl rfl (Nat.le_of_ble_eq_true rfl) tw_213 dX3_init_38 (fun H locs Z => ?_)
  have Z : yk_Z D κ (fun q => κ 4 + 53 ≤ q) s.heap 53 3 [.ref (κ 4 + 54), .ref (κ 4 + 55), .ref (κ 4 + 56), .ref (κ 4 + 57), .int 0, .null, .null, .null, .int 0] (yk_E κ) 58 H locs := Z
  refine lv_aload_n C.1.1 C.1.2.1 dX3_init_41 rfl (lv_at hl 0 rfl) ?_
  refine lv_bipush (v := 14) C.1.1 C.1.2.1 dX3_init_42 (by decide) ?_
  refine yk_newI (N' := 14) C Z tw_123 (by decide) (by decide) (by decide) (yk_EI (by decide) rfl) (Nat.le_of_ble_eq_true rfl) (Nat.le_of_ble_eq_true rfl) dX3_init_44 (fun H Z => ?_)
  refine W.widen (k := 5) (n := 70) (Nat.le_refl _) (Nat.le_refl _) ?_
  refine yk_putF C Z (k := 5) (id := 58) (N := 9) (T := TX3) rfl inX3 tyX3_ok nmX3 (by decide) rfl rfl hini rfl rfl rfl (Nat.le_of_ble_eq_true rfl) tw_214 dX3_init_46 (fun H locs Z => ?_)
  have Z : yk_Z D κ (fun q => κ 4 + 53 ≤ q) s.heap 53 3 [.ref (κ 4 + 54), .ref (κ 4 + 55), .ref (κ 4 + 56), .ref (κ 4 + 57), .int 0, .ref (κ 4 + 58), .null, .null, .int 0] (yk_E κ) 59 H locs := Z
  refine lv_aload_n C.1.1 C.1.2.1 dX3_init_49 rfl (lv_at hl 0 rfl) ?_
  refine lv_bipush (v := 14) C.1.1 C.1.2.1 dX3_init_50 (by decide) ?_
  refine yk_newI (N' := 14) C Z tw_123 (by decide) (by decide) (by decide) (yk_EI (by decide) rfl) (Nat.le_of_ble_eq_true rfl) (Nat.le_of_ble_eq_true rfl) dX3_init_52 (fun H Z => ?_)
  refine W.widen (k := 6) (n := 84) (Nat.le_refl _) (Nat.le_refl _) ?_
  refine yk_putF C Z (k := 6) (id := 59) (N := 9) (T := TX3) rfl inX3 tyX3_ok nmX3 (by decide) rfl rfl hini rfl rfl rfl (Nat.le_of_ble_eq_true rfl) tw_215 dX3_init_54 (fun H locs Z => ?_)
  have Z : yk_Z D κ (fun q => κ 4 + 53 ≤ q) s.heap 53 3 [.ref (κ 4 + 54), .ref (κ 4 + 55), .ref (κ 4 + 56), .ref (κ 4 + 57), .int 0, .ref (κ 4 + 58), .ref (κ 4 + 59), .null, .int 0] (yk_E κ) 60 H locs := Z
  refine lv_aload_n C.1.1 C.1.2.1 dX3_init_57 rfl (lv_at hl 0 rfl) ?_
  refine lv_bipush (v := 14) C.1.1 C.1.2.1 dX3_init_58 (by decide) ?_
  refine yk_newI (N' := 14) C Z tw_123 (by decide) (by decide) (by decide) (yk_EI (by decide) rfl) (Nat.le_of_ble_eq_true rfl) (Nat.le_of_ble_eq_true rfl) dX3_init_60 (fun H Z => ?_)
  refine W.widen (k := 7) (n := 98) (Nat.le_refl _) (Nat.le_refl _) ?_
  refine yk_putF C Z (k := 7) (id := 60) (N := 9) (T := TX3) rfl inX3 tyX3_ok nmX3 (by decide) rfl rfl hini rfl rfl rfl (Nat.le_of_ble_eq_true rfl) tw_216 dX3_init_62 (fun H locs Z => ?_)
  have Z : yk_Z D κ (fun q => κ 4 + 53 ≤ q) s.heap 53 3 [.ref (κ 4 + 54), .ref (κ 4 + 55), .ref (κ 4 + 56), .ref (κ 4 + 57), .int 0, .ref (κ 4 + 58), .ref (κ 4 + 59), .ref (κ 4 + 60), .int 0] (yk_E κ) 61 H locs := Z
  refine lv_aload_n C.1.1 C.1.2.1 dX3_init_65 rfl (lv_at hl 0 rfl) ?_
  refine lv_iconst (v := 0) C.1.1 C.1.2.1 dX3_init_66 (by decide) ?_
  refine yk_putI C Z (k := 8) (N := 9) (T := TX3) rfl inX3 tyX3_ok nmX3 (by decide) rfl rfl rfl rfl rfl (Nat.le_of_ble_eq_true rfl) tw_217 dX3_init_67 (fun H locs Z => ?_)
  have Z : yk_Z D κ (fun q => κ 4 + 53 ≤ q) s.heap 53 3 [.ref (κ 4 + 54), .ref (κ 4 + 55), .ref (κ 4 + 56), .ref (κ 4 + 57), .int 0, .ref (κ 4 + 58), .ref (κ 4 + 59), .ref (κ 4 + 60), .int 0] (yk_E κ) 61 H locs := Z
  exact yk_ret C Z hr hlk (by unfold yk_E; rw [yy_ent_53]; try rfl) (fun _ _ _ => rfl) rfl dX3_init_70
theorem kk_X8 : yk_w RX8 11 yX8_init cX8_init 1 := ⟨⟨tw_277, tw_60, tw_279, tw_280⟩, by decide +kernel⟩
abbrev rk_X8 : Room := { frames := 1, cells := 13, slots := 135, locals := 20 }
set_option maxHeartbeats 4000000 in
set_option maxRecDepth 100000 in
theorem sk_X8 (l : Launch) (D : va_G) (κ : Nat → Nat) {o : Nat} (ho : o ∈ yy_Tds) : yk_M l D κ yX8_init cX8_init 1 rk_X8 o 8 [.null, .null, .null, .null, .null, .null, .null, .int 0, .int 0, .int 0, .int 0] 14 13 135 := by
  refine yk_ofW (by decide) rfl (Nat.le_of_ble_eq_true rfl) ?_
  intro p e s m args below meth c ls C hr hlk hini Z hl
  refine lv_aload_n C.1.1 C.1.2.1 dX8_init_0 rfl (lv_at hl 0 rfl) ?_
  refine yk_obj C tw_281 tw_74 tw_75 hl.1 dX8_init_1 (Nat.le_of_ble_eq_true rfl) (Nat.le_of_ble_eq_true rfl) ?_
  refine lv_aload_n C.1.1 C.1.2.1 dX8_init_4 rfl (lv_at hl 0 rfl) ?_
  refine lv_iconst (v := 2) C.1.1 C.1.2.1 dX8_init_5 (by decide) ?_
  refine lv_bipush (v := 14) C.1.1 C.1.2.1 dX8_init_6 (by decide) ?_
  refine yk_mna (N' := 2) (K' := 14) C Z tw_282 tw_123 (by decide) (by decide) (by decide) (by decide) (by decide) (by decide) (by decide) (by unfold yk_E; rw [yy_ent_Grs (yy_D1 _ ho)]) (fun j hj => yk_EI (yy_G0 _ (yy_D1 _ ho) _ hj) (yy_lenG0 _ (yy_D1 _ ho) _ hj)) (Nat.le_of_ble_eq_true rfl) (Nat.le_of_ble_eq_true rfl) dX8_init_8 (fun H Z => ?_)
  refine W.widen (k := 3) (n := 30) (Nat.le_refl _) (Nat.le_refl _) ?_
  refine yk_putF C Z (k := 0) (id := o + 1) (N := 11) (T := TX8) rfl inX8 tyX8_ok nmX8 (by decide) rfl rfl hini rfl rfl rfl (Nat.le_of_ble_eq_true rfl) tw_283 dX8_init_12 (fun H locs Z => ?_)
  have Z : yk_Z D κ (fun q => κ 4 + o ≤ q) s.heap o 8 [.ref (κ 4 + (o + 1)), .null, .null, .null, .null, .null, .null, .int 0, .int 0, .int 0, .int 0] (yk_E κ) (o + 4) H locs := Z
  refine lv_aload_n C.1.1 C.1.2.1 dX8_init_15 rfl (lv_at hl 0 rfl) ?_
  refine lv_iconst (v := 2) C.1.1 C.1.2.1 dX8_init_16 (by decide) ?_
  refine lv_bipush (v := 14) C.1.1 C.1.2.1 dX8_init_17 (by decide) ?_
  refine yk_mna (N' := 2) (K' := 14) C Z tw_282 tw_123 (by decide) (by decide) (by decide) (by decide) (by decide) (by decide) (by decide) (by unfold yk_E; rw [yy_ent_Grs (yy_D4 _ ho)]) (fun j hj => yk_EI (yy_G0 _ (yy_D4 _ ho) _ hj) (yy_lenG0 _ (yy_D4 _ ho) _ hj)) (Nat.le_of_ble_eq_true rfl) (Nat.le_of_ble_eq_true rfl) dX8_init_19 (fun H Z => ?_)
  refine W.widen (k := 6) (n := 60) (Nat.le_refl _) (Nat.le_refl _) ?_
  refine yk_putF C Z (k := 1) (id := o + 4) (N := 11) (T := TX8) rfl inX8 tyX8_ok nmX8 (by decide) rfl rfl hini rfl rfl rfl (Nat.le_of_ble_eq_true rfl) tw_285 dX8_init_23 (fun H locs Z => ?_)
  have Z : yk_Z D κ (fun q => κ 4 + o ≤ q) s.heap o 8 [.ref (κ 4 + (o + 1)), .ref (κ 4 + (o + 4)), .null, .null, .null, .null, .null, .int 0, .int 0, .int 0, .int 0] (yk_E κ) (o + 7) H locs := Z
  refine lv_aload_n C.1.1 C.1.2.1 dX8_init_26 rfl (lv_at hl 0 rfl) ?_
  refine lv_iconst (v := 2) C.1.1 C.1.2.1 dX8_init_27 (by decide) ?_
  refine lv_bipush (v := 14) C.1.1 C.1.2.1 dX8_init_28 (by decide) ?_
  refine yk_mna (N' := 2) (K' := 14) C Z tw_282 tw_123 (by decide) (by decide) (by decide) (by decide) (by decide) (by decide) (by decide) (by unfold yk_E; rw [yy_ent_Grs (yy_D7 _ ho)]) (fun j hj => yk_EI (yy_G0 _ (yy_D7 _ ho) _ hj) (yy_lenG0 _ (yy_D7 _ ho) _ hj)) (Nat.le_of_ble_eq_true rfl) (Nat.le_of_ble_eq_true rfl) dX8_init_30 (fun H Z => ?_)
  refine W.widen (k := 9) (n := 90) (Nat.le_refl _) (Nat.le_refl _) ?_
  refine yk_putF C Z (k := 2) (id := o + 7) (N := 11) (T := TX8) rfl inX8 tyX8_ok nmX8 (by decide) rfl rfl hini rfl rfl rfl (Nat.le_of_ble_eq_true rfl) tw_287 dX8_init_34 (fun H locs Z => ?_)
  have Z : yk_Z D κ (fun q => κ 4 + o ≤ q) s.heap o 8 [.ref (κ 4 + (o + 1)), .ref (κ 4 + (o + 4)), .ref (κ 4 + (o + 7)), .null, .null, .null, .null, .int 0, .int 0, .int 0, .int 0] (yk_E κ) (o + 10) H locs := Z
  refine lv_aload_n C.1.1 C.1.2.1 dX8_init_37 rfl (lv_at hl 0 rfl) ?_
  refine lv_iconst (v := 3) C.1.1 C.1.2.1 dX8_init_38 (by decide) ?_
  refine yk_newI (N' := 3) C Z tw_123 (by decide) (by decide) (by decide) (yk_EI (yy_D10 _ ho) (yy_lenD10 _ ho)) (Nat.le_of_ble_eq_true rfl) (Nat.le_of_ble_eq_true rfl) dX8_init_39 (fun H Z => ?_)
  refine W.widen (k := 10) (n := 93) (Nat.le_refl _) (Nat.le_refl _) ?_
  refine yk_putF C Z (k := 3) (id := o + 10) (N := 11) (T := TX8) rfl inX8 tyX8_ok nmX8 (by decide) rfl rfl hini rfl rfl rfl (Nat.le_of_ble_eq_true rfl) tw_289 dX8_init_41 (fun H locs Z => ?_)
  have Z : yk_Z D κ (fun q => κ 4 + o ≤ q) s.heap o 8 [.ref (κ 4 + (o + 1)), .ref (κ 4 + (o + 4)), .ref (κ 4 + (o + 7)), .ref (κ 4 + (o + 10)), .null, .null, .null, .int 0, .int 0, .int 0, .int 0] (yk_E κ) (o + 11) H locs := Z
  refine lv_aload_n C.1.1 C.1.2.1 dX8_init_44 rfl (lv_at hl 0 rfl) ?_
  refine lv_bipush (v := 14) C.1.1 C.1.2.1 dX8_init_45 (by decide) ?_
  refine yk_newI (N' := 14) C Z tw_123 (by decide) (by decide) (by decide) (yk_EI (yy_D11 _ ho) (yy_lenD11 _ ho)) (Nat.le_of_ble_eq_true rfl) (Nat.le_of_ble_eq_true rfl) dX8_init_47 (fun H Z => ?_)
  refine W.widen (k := 11) (n := 107) (Nat.le_refl _) (Nat.le_refl _) ?_
  refine yk_putF C Z (k := 4) (id := o + 11) (N := 11) (T := TX8) rfl inX8 tyX8_ok nmX8 (by decide) rfl rfl hini rfl rfl rfl (Nat.le_of_ble_eq_true rfl) tw_291 dX8_init_49 (fun H locs Z => ?_)
  have Z : yk_Z D κ (fun q => κ 4 + o ≤ q) s.heap o 8 [.ref (κ 4 + (o + 1)), .ref (κ 4 + (o + 4)), .ref (κ 4 + (o + 7)), .ref (κ 4 + (o + 10)), .ref (κ 4 + (o + 11)), .null, .null, .int 0, .int 0, .int 0, .int 0] (yk_E κ) (o + 12) H locs := Z
  refine lv_aload_n C.1.1 C.1.2.1 dX8_init_52 rfl (lv_at hl 0 rfl) ?_
  refine lv_bipush (v := 14) C.1.1 C.1.2.1 dX8_init_53 (by decide) ?_
  refine yk_newI (N' := 14) C Z tw_123 (by decide) (by decide) (by decide) (yk_EI (yy_D12 _ ho) (yy_lenD12 _ ho)) (Nat.le_of_ble_eq_true rfl) (Nat.le_of_ble_eq_true rfl) dX8_init_55 (fun H Z => ?_)
  refine W.widen (k := 12) (n := 121) (Nat.le_refl _) (Nat.le_refl _) ?_
  refine yk_putF C Z (k := 5) (id := o + 12) (N := 11) (T := TX8) rfl inX8 tyX8_ok nmX8 (by decide) rfl rfl hini rfl rfl rfl (Nat.le_of_ble_eq_true rfl) tw_293 dX8_init_57 (fun H locs Z => ?_)
  have Z : yk_Z D κ (fun q => κ 4 + o ≤ q) s.heap o 8 [.ref (κ 4 + (o + 1)), .ref (κ 4 + (o + 4)), .ref (κ 4 + (o + 7)), .ref (κ 4 + (o + 10)), .ref (κ 4 + (o + 11)), .ref (κ 4 + (o + 12)), .null, .int 0, .int 0, .int 0, .int 0] (yk_E κ) (o + 13) H locs := Z
  refine lv_aload_n C.1.1 C.1.2.1 dX8_init_60 rfl (lv_at hl 0 rfl) ?_
  refine lv_bipush (v := 14) C.1.1 C.1.2.1 dX8_init_61 (by decide) ?_
  refine yk_newI (N' := 14) C Z tw_123 (by decide) (by decide) (by decide) (yk_EI (yy_D13 _ ho) (yy_lenD13 _ ho)) (Nat.le_of_ble_eq_true rfl) (Nat.le_of_ble_eq_true rfl) dX8_init_63 (fun H Z => ?_)
  refine W.widen (k := 13) (n := 135) (Nat.le_refl _) (Nat.le_refl _) ?_
  refine yk_putF C Z (k := 6) (id := o + 13) (N := 11) (T := TX8) rfl inX8 tyX8_ok nmX8 (by decide) rfl rfl hini rfl rfl rfl (Nat.le_of_ble_eq_true rfl) tw_295 dX8_init_65 (fun H locs Z => ?_)
  have Z : yk_Z D κ (fun q => κ 4 + o ≤ q) s.heap o 8 [.ref (κ 4 + (o + 1)), .ref (κ 4 + (o + 4)), .ref (κ 4 + (o + 7)), .ref (κ 4 + (o + 10)), .ref (κ 4 + (o + 11)), .ref (κ 4 + (o + 12)), .ref (κ 4 + (o + 13)), .int 0, .int 0, .int 0, .int 0] (yk_E κ) (o + 14) H locs := Z
  refine lv_aload_n C.1.1 C.1.2.1 dX8_init_68 rfl (lv_at hl 0 rfl) ?_
  refine lv_iconst (v := 0) C.1.1 C.1.2.1 dX8_init_69 (by decide) ?_
  refine yk_putI C Z (k := 7) (N := 11) (T := TX8) rfl inX8 tyX8_ok nmX8 (by decide) rfl rfl rfl rfl rfl (Nat.le_of_ble_eq_true rfl) tw_297 dX8_init_70 (fun H locs Z => ?_)
  have Z : yk_Z D κ (fun q => κ 4 + o ≤ q) s.heap o 8 [.ref (κ 4 + (o + 1)), .ref (κ 4 + (o + 4)), .ref (κ 4 + (o + 7)), .ref (κ 4 + (o + 10)), .ref (κ 4 + (o + 11)), .ref (κ 4 + (o + 12)), .ref (κ 4 + (o + 13)), .int 0, .int 0, .int 0, .int 0] (yk_E κ) (o + 14) H locs := Z
  refine lv_aload_n C.1.1 C.1.2.1 dX8_init_73 rfl (lv_at hl 0 rfl) ?_
  refine lv_iconst (v := 0) C.1.1 C.1.2.1 dX8_init_74 (by decide) ?_
  refine yk_putI C Z (k := 8) (N := 11) (T := TX8) rfl inX8 tyX8_ok nmX8 (by decide) rfl rfl rfl rfl rfl (Nat.le_of_ble_eq_true rfl) tw_299 dX8_init_75 (fun H locs Z => ?_)
  have Z : yk_Z D κ (fun q => κ 4 + o ≤ q) s.heap o 8 [.ref (κ 4 + (o + 1)), .ref (κ 4 + (o + 4)), .ref (κ 4 + (o + 7)), .ref (κ 4 + (o + 10)), .ref (κ 4 + (o + 11)), .ref (κ 4 + (o + 12)), .ref (κ 4 + (o + 13)), .int 0, .int 0, .int 0, .int 0] (yk_E κ) (o + 14) H locs := Z
  refine lv_aload_n C.1.1 C.1.2.1 dX8_init_78 rfl (lv_at hl 0 rfl) ?_
  refine lv_iconst (v := 0) C.1.1 C.1.2.1 dX8_init_79 (by decide) ?_
  refine yk_putI C Z (k := 9) (N := 11) (T := TX8) rfl inX8 tyX8_ok nmX8 (by decide) rfl rfl rfl rfl rfl (Nat.le_of_ble_eq_true rfl) tw_302 dX8_init_80 (fun H locs Z => ?_)
  have Z : yk_Z D κ (fun q => κ 4 + o ≤ q) s.heap o 8 [.ref (κ 4 + (o + 1)), .ref (κ 4 + (o + 4)), .ref (κ 4 + (o + 7)), .ref (κ 4 + (o + 10)), .ref (κ 4 + (o + 11)), .ref (κ 4 + (o + 12)), .ref (κ 4 + (o + 13)), .int 0, .int 0, .int 0, .int 0] (yk_E κ) (o + 14) H locs := Z
  refine lv_aload_n C.1.1 C.1.2.1 dX8_init_83 rfl (lv_at hl 0 rfl) ?_
  refine lv_iconst (v := 0) C.1.1 C.1.2.1 dX8_init_84 (by decide) ?_
  refine yk_putI C Z (k := 10) (N := 11) (T := TX8) rfl inX8 tyX8_ok nmX8 (by decide) rfl rfl rfl rfl rfl (Nat.le_of_ble_eq_true rfl) tw_305 dX8_init_85 (fun H locs Z => ?_)
  have Z : yk_Z D κ (fun q => κ 4 + o ≤ q) s.heap o 8 [.ref (κ 4 + (o + 1)), .ref (κ 4 + (o + 4)), .ref (κ 4 + (o + 7)), .ref (κ 4 + (o + 10)), .ref (κ 4 + (o + 11)), .ref (κ 4 + (o + 12)), .ref (κ 4 + (o + 13)), .int 0, .int 0, .int 0, .int 0] (yk_E κ) (o + 14) H locs := Z
  exact yk_ret C Z hr hlk (by unfold yk_E; rw [yy_ent_Tds ho, yy_t0_z (yk_n0 yy_Tds_n0 ho)]) (fun _ _ _ => rfl) rfl dX8_init_88
theorem kk_X1 : yk_w RX1 4 yX1_init cX1_init 1 := ⟨⟨tw_171, tw_56, tw_173, tw_174⟩, by decide +kernel⟩
abbrev rk_X1 : Room := { frames := 2, cells := 30, slots := 607, locals := 40 }
set_option maxHeartbeats 4000000 in
set_option maxRecDepth 100000 in
theorem sk_X1 (l : Launch) (D : va_G) (κ : Nat → Nat) : yk_M l D κ yX1_init cX1_init 1 rk_X1 49 1 [.null, .null, .null, .null] 31 30 607 := by
  refine yk_ofW (by decide) rfl (Nat.le_of_ble_eq_true rfl) ?_
  intro p e s m args below meth c ls C hr hlk hini Z hl
  refine lv_aload_n C.1.1 C.1.2.1 dX1_init_0 rfl (lv_at hl 0 rfl) ?_
  refine yk_obj C tw_175 tw_74 tw_75 hl.1 dX1_init_1 (Nat.le_of_ble_eq_true rfl) (Nat.le_of_ble_eq_true rfl) ?_
  refine lv_aload_n C.1.1 C.1.2.1 dX1_init_4 rfl (lv_at hl 0 rfl) ?_
  refine yk_ni (N := 4) (cj := 4) (gs := [.null, .null, .int 0, .int 0]) (rest := [.ref (κ 4 + 49)]) C Z rfl inX4 tyX4_ok (by decide) tw_176 kk_X4 (sk_X4 l D κ) (Or.inl (by decide +kernel)) (fun _ _ _ => rfl) (by decide) ⟨rfl, rfl⟩ ⟨(Nat.le_of_ble_eq_true rfl), (Nat.le_of_ble_eq_true rfl)⟩ ⟨(Nat.le_of_ble_eq_true rfl), (Nat.le_of_ble_eq_true rfl)⟩ hl.1 (Nat.le_of_ble_eq_true rfl) dX1_init_5 dX1_init_8 dX1_init_9 (fun H locs Z => ?_)
  have Z : yk_Z D κ (fun q => κ 4 + 49 ≤ q) s.heap 49 1 [.null, .null, .null, .null] (yk_E κ) 53 H locs := Z
  refine W.widen (k := 3) (n := 32) (Nat.le_refl _) (Nat.le_refl _) ?_
  refine yk_putF C Z (k := 0) (id := 50) (N := 4) (T := TX1) rfl inX1 tyX1_ok nmX1 (by decide) rfl rfl hini rfl rfl rfl (Nat.le_of_ble_eq_true rfl) tw_261 dX1_init_12 (fun H locs Z => ?_)
  have Z : yk_Z D κ (fun q => κ 4 + 49 ≤ q) s.heap 49 1 [.ref (κ 4 + 50), .null, .null, .null] (yk_E κ) 53 H locs := Z
  refine lv_aload_n C.1.1 C.1.2.1 dX1_init_15 rfl (lv_at hl 0 rfl) ?_
  refine yk_ni (N := 9) (cj := 3) (gs := [.null, .null, .null, .null, .int 0, .null, .null, .null, .int 0]) (rest := [.ref (κ 4 + 49)]) C Z rfl inX3 tyX3_ok (by decide) tw_203 kk_X3 (sk_X3 l D κ) (Or.inl (by decide +kernel)) (fun _ _ _ => rfl) (by decide) ⟨rfl, rfl⟩ ⟨(Nat.le_of_ble_eq_true rfl), (Nat.le_of_ble_eq_true rfl)⟩ ⟨(Nat.le_of_ble_eq_true rfl), (Nat.le_of_ble_eq_true rfl)⟩ hl.1 (Nat.le_of_ble_eq_true rfl) dX1_init_16 dX1_init_19 dX1_init_20 (fun H locs Z => ?_)
  have Z : yk_Z D κ (fun q => κ 4 + 49 ≤ q) s.heap 49 1 [.ref (κ 4 + 50), .null, .null, .null] (yk_E κ) 61 H locs := Z
  refine W.widen (k := 11) (n := 139) (Nat.le_refl _) (Nat.le_refl _) ?_
  refine yk_putF C Z (k := 1) (id := 53) (N := 4) (T := TX1) rfl inX1 tyX1_ok nmX1 (by decide) rfl rfl hini rfl rfl rfl (Nat.le_of_ble_eq_true rfl) tw_262 dX1_init_23 (fun H locs Z => ?_)
  have Z : yk_Z D κ (fun q => κ 4 + 49 ≤ q) s.heap 49 1 [.ref (κ 4 + 50), .ref (κ 4 + 53), .null, .null] (yk_E κ) 61 H locs := Z
  refine lv_aload_n C.1.1 C.1.2.1 dX1_init_26 rfl (lv_at hl 0 rfl) ?_
  refine yk_ni (N := 5) (cj := 0) (gs := [.null, .null, .null, .int 0, .int 0]) (rest := [.ref (κ 4 + 49)]) C Z rfl inX0 tyX0_ok (by decide) tw_237 kk_X0 (sk_X0 l D κ (o := 61) (by decide)) (Or.inl (by decide +kernel)) (fun _ _ _ => rfl) (by decide) ⟨rfl, rfl⟩ ⟨(Nat.le_of_ble_eq_true rfl), (Nat.le_of_ble_eq_true rfl)⟩ ⟨(Nat.le_of_ble_eq_true rfl), (Nat.le_of_ble_eq_true rfl)⟩ hl.1 (Nat.le_of_ble_eq_true rfl) dX1_init_27 dX1_init_30 dX1_init_31 (fun H locs Z => ?_)
  have Z : yk_Z D κ (fun q => κ 4 + 49 ≤ q) s.heap 49 1 [.ref (κ 4 + 50), .ref (κ 4 + 53), .null, .null] (yk_E κ) 65 H locs := Z
  refine W.widen (k := 15) (n := 397) (Nat.le_refl _) (Nat.le_refl _) ?_
  refine yk_putF C Z (k := 2) (id := 61) (N := 4) (T := TX1) rfl inX1 tyX1_ok nmX1 (by decide) rfl rfl hini rfl rfl rfl (Nat.le_of_ble_eq_true rfl) tw_263 dX1_init_34 (fun H locs Z => ?_)
  have Z : yk_Z D κ (fun q => κ 4 + 49 ≤ q) s.heap 49 1 [.ref (κ 4 + 50), .ref (κ 4 + 53), .ref (κ 4 + 61), .null] (yk_E κ) 65 H locs := Z
  refine lv_aload_n C.1.1 C.1.2.1 dX1_init_37 rfl (lv_at hl 0 rfl) ?_
  refine lv_bipush (v := 14) C.1.1 C.1.2.1 dX1_init_38 (by decide) ?_
  refine lv_bipush (v := 14) C.1.1 C.1.2.1 dX1_init_40 (by decide) ?_
  refine yk_mna (N' := 14) (K' := 14) C Z tw_259 tw_123 (by decide) (by decide) (by decide) (by decide) (by decide) (by decide) (by decide) (by unfold yk_E; rw [yy_ent_65]; try rfl) (fun j hj => yk_EI (yy_L0 _ hj) (yy_lenL0 _ hj)) (Nat.le_of_ble_eq_true rfl) (Nat.le_of_ble_eq_true rfl) dX1_init_42 (fun H Z => ?_)
  refine W.widen (k := 30) (n := 607) (Nat.le_refl _) (Nat.le_refl _) ?_
  refine yk_putF C Z (k := 3) (id := 65) (N := 4) (T := TX1) rfl inX1 tyX1_ok nmX1 (by decide) rfl rfl hini rfl rfl rfl (Nat.le_of_ble_eq_true rfl) tw_264 dX1_init_46 (fun H locs Z => ?_)
  have Z : yk_Z D κ (fun q => κ 4 + 49 ≤ q) s.heap 49 1 [.ref (κ 4 + 50), .ref (κ 4 + 53), .ref (κ 4 + 61), .ref (κ 4 + 65)] (yk_E κ) 80 H locs := Z
  exact yk_ret C Z hr hlk (by unfold yk_E; rw [yy_ent_49]; try rfl) (fun _ _ _ => rfl) rfl dX1_init_49
theorem kk_X10 : yk_w RX10 20 yX10_init cX10_init 1 := ⟨⟨tw_781, tw_61, tw_789, tw_790⟩, by decide +kernel⟩
abbrev rk_X10 : Room := { frames := 1, cells := 11, slots := 3824, locals := 20 }
set_option maxHeartbeats 4000000 in
set_option maxRecDepth 100000 in
theorem sk_X10 (l : Launch) (D : va_G) (κ : Nat → Nat) : yk_M l D κ yX10_init cX10_init 1 rk_X10 112 10 [.int 0, .null, .int 0, .null, .null, .null, .int 0, .int 0, .int 0, .int 0, .null, .null, .null, .null, .null, .null, .int 0, .int 0, .int 0, .null] 12 11 3824 := by
  refine yk_ofW (by decide) rfl (Nat.le_of_ble_eq_true rfl) ?_
  intro p e s m args below meth c ls C hr hlk hini Z hl
  refine lv_aload_n C.1.1 C.1.2.1 dX10_init_0 rfl (lv_at hl 0 rfl) ?_
  refine yk_obj C tw_791 tw_74 tw_75 hl.1 dX10_init_1 (Nat.le_of_ble_eq_true rfl) (Nat.le_of_ble_eq_true rfl) ?_
  refine lv_aload_n C.1.1 C.1.2.1 dX10_init_4 rfl (lv_at hl 0 rfl) ?_
  refine lv_sipush (v := 640) C.1.1 C.1.2.1 dX10_init_5 (by decide) ?_
  refine yk_newI (N' := 640) C Z tw_123 (by decide) (by decide) (by decide) (yk_EI (by decide) rfl) (Nat.le_of_ble_eq_true rfl) (Nat.le_of_ble_eq_true rfl) dX10_init_8 (fun H Z => ?_)
  refine W.widen (k := 1) (n := 640) (Nat.le_refl _) (Nat.le_refl _) ?_
  refine yk_putF C Z (k := 1) (id := 113) (N := 20) (T := TX10) rfl inX10 tyX10_ok nmX10 (by decide) rfl rfl hini rfl rfl rfl (Nat.le_of_ble_eq_true rfl) tw_793 dX10_init_10 (fun H locs Z => ?_)
  have Z : yk_Z D κ (fun q => κ 4 + 112 ≤ q) s.heap 112 10 [.int 0, .ref (κ 4 + 113), .int 0, .null, .null, .null, .int 0, .int 0, .int 0, .int 0, .null, .null, .null, .null, .null, .null, .int 0, .int 0, .int 0, .null] (yk_E κ) 114 H locs := Z
  refine lv_aload_n C.1.1 C.1.2.1 dX10_init_13 rfl (lv_at hl 0 rfl) ?_
  refine lv_sipush (v := 254) C.1.1 C.1.2.1 dX10_init_14 (by decide) ?_
  refine yk_newI (N' := 254) C Z tw_123 (by decide) (by decide) (by decide) (yk_EI (by decide) rfl) (Nat.le_of_ble_eq_true rfl) (Nat.le_of_ble_eq_true rfl) dX10_init_17 (fun H Z => ?_)
  refine W.widen (k := 2) (n := 894) (Nat.le_refl _) (Nat.le_refl _) ?_
  refine yk_putF C Z (k := 3) (id := 114) (N := 20) (T := TX10) rfl inX10 tyX10_ok nmX10 (by decide) rfl rfl hini rfl rfl rfl (Nat.le_of_ble_eq_true rfl) tw_795 dX10_init_19 (fun H locs Z => ?_)
  have Z : yk_Z D κ (fun q => κ 4 + 112 ≤ q) s.heap 112 10 [.int 0, .ref (κ 4 + 113), .int 0, .ref (κ 4 + 114), .null, .null, .int 0, .int 0, .int 0, .int 0, .null, .null, .null, .null, .null, .null, .int 0, .int 0, .int 0, .null] (yk_E κ) 115 H locs := Z
  refine lv_aload_n C.1.1 C.1.2.1 dX10_init_22 rfl (lv_at hl 0 rfl) ?_
  refine lv_bipush (v := 127) C.1.1 C.1.2.1 dX10_init_23 (by decide) ?_
  refine yk_newI (N' := 127) C Z tw_123 (by decide) (by decide) (by decide) (yk_EI (by decide) rfl) (Nat.le_of_ble_eq_true rfl) (Nat.le_of_ble_eq_true rfl) dX10_init_25 (fun H Z => ?_)
  refine W.widen (k := 3) (n := 1021) (Nat.le_refl _) (Nat.le_refl _) ?_
  refine yk_putF C Z (k := 4) (id := 115) (N := 20) (T := TX10) rfl inX10 tyX10_ok nmX10 (by decide) rfl rfl hini rfl rfl rfl (Nat.le_of_ble_eq_true rfl) tw_796 dX10_init_27 (fun H locs Z => ?_)
  have Z : yk_Z D κ (fun q => κ 4 + 112 ≤ q) s.heap 112 10 [.int 0, .ref (κ 4 + 113), .int 0, .ref (κ 4 + 114), .ref (κ 4 + 115), .null, .int 0, .int 0, .int 0, .int 0, .null, .null, .null, .null, .null, .null, .int 0, .int 0, .int 0, .null] (yk_E κ) 116 H locs := Z
  refine lv_aload_n C.1.1 C.1.2.1 dX10_init_30 rfl (lv_at hl 0 rfl) ?_
  refine lv_sipush (v := 2540) C.1.1 C.1.2.1 dX10_init_31 (by decide) ?_
  refine yk_newI (N' := 2540) C Z tw_123 (by decide) (by decide) (by decide) (yk_EI (by decide) rfl) (Nat.le_of_ble_eq_true rfl) (Nat.le_of_ble_eq_true rfl) dX10_init_34 (fun H Z => ?_)
  refine W.widen (k := 4) (n := 3561) (Nat.le_refl _) (Nat.le_refl _) ?_
  refine yk_putF C Z (k := 5) (id := 116) (N := 20) (T := TX10) rfl inX10 tyX10_ok nmX10 (by decide) rfl rfl hini rfl rfl rfl (Nat.le_of_ble_eq_true rfl) tw_797 dX10_init_36 (fun H locs Z => ?_)
  have Z : yk_Z D κ (fun q => κ 4 + 112 ≤ q) s.heap 112 10 [.int 0, .ref (κ 4 + 113), .int 0, .ref (κ 4 + 114), .ref (κ 4 + 115), .ref (κ 4 + 116), .int 0, .int 0, .int 0, .int 0, .null, .null, .null, .null, .null, .null, .int 0, .int 0, .int 0, .null] (yk_E κ) 117 H locs := Z
  refine lv_aload_n C.1.1 C.1.2.1 dX10_init_39 rfl (lv_at hl 0 rfl) ?_
  refine lv_bipush (v := 28) C.1.1 C.1.2.1 dX10_init_40 (by decide) ?_
  refine yk_newI (N' := 28) C Z tw_123 (by decide) (by decide) (by decide) (yk_EI (by decide) rfl) (Nat.le_of_ble_eq_true rfl) (Nat.le_of_ble_eq_true rfl) dX10_init_42 (fun H Z => ?_)
  refine W.widen (k := 5) (n := 3589) (Nat.le_refl _) (Nat.le_refl _) ?_
  refine yk_putF C Z (k := 10) (id := 117) (N := 20) (T := TX10) rfl inX10 tyX10_ok nmX10 (by decide) rfl rfl hini rfl rfl rfl (Nat.le_of_ble_eq_true rfl) tw_802 dX10_init_44 (fun H locs Z => ?_)
  have Z : yk_Z D κ (fun q => κ 4 + 112 ≤ q) s.heap 112 10 [.int 0, .ref (κ 4 + 113), .int 0, .ref (κ 4 + 114), .ref (κ 4 + 115), .ref (κ 4 + 116), .int 0, .int 0, .int 0, .int 0, .ref (κ 4 + 117), .null, .null, .null, .null, .null, .int 0, .int 0, .int 0, .null] (yk_E κ) 118 H locs := Z
  refine lv_aload_n C.1.1 C.1.2.1 dX10_init_47 rfl (lv_at hl 0 rfl) ?_
  refine lv_bipush (v := 28) C.1.1 C.1.2.1 dX10_init_48 (by decide) ?_
  refine yk_newI (N' := 28) C Z tw_123 (by decide) (by decide) (by decide) (yk_EI (by decide) rfl) (Nat.le_of_ble_eq_true rfl) (Nat.le_of_ble_eq_true rfl) dX10_init_50 (fun H Z => ?_)
  refine W.widen (k := 6) (n := 3617) (Nat.le_refl _) (Nat.le_refl _) ?_
  refine yk_putF C Z (k := 11) (id := 118) (N := 20) (T := TX10) rfl inX10 tyX10_ok nmX10 (by decide) rfl rfl hini rfl rfl rfl (Nat.le_of_ble_eq_true rfl) tw_803 dX10_init_52 (fun H locs Z => ?_)
  have Z : yk_Z D κ (fun q => κ 4 + 112 ≤ q) s.heap 112 10 [.int 0, .ref (κ 4 + 113), .int 0, .ref (κ 4 + 114), .ref (κ 4 + 115), .ref (κ 4 + 116), .int 0, .int 0, .int 0, .int 0, .ref (κ 4 + 117), .ref (κ 4 + 118), .null, .null, .null, .null, .int 0, .int 0, .int 0, .null] (yk_E κ) 119 H locs := Z
  refine lv_aload_n C.1.1 C.1.2.1 dX10_init_55 rfl (lv_at hl 0 rfl) ?_
  refine lv_bipush (v := 28) C.1.1 C.1.2.1 dX10_init_56 (by decide) ?_
  refine yk_newI (N' := 28) C Z tw_123 (by decide) (by decide) (by decide) (yk_EI (by decide) rfl) (Nat.le_of_ble_eq_true rfl) (Nat.le_of_ble_eq_true rfl) dX10_init_58 (fun H Z => ?_)
  refine W.widen (k := 7) (n := 3645) (Nat.le_refl _) (Nat.le_refl _) ?_
  refine yk_putF C Z (k := 12) (id := 119) (N := 20) (T := TX10) rfl inX10 tyX10_ok nmX10 (by decide) rfl rfl hini rfl rfl rfl (Nat.le_of_ble_eq_true rfl) tw_804 dX10_init_60 (fun H locs Z => ?_)
  have Z : yk_Z D κ (fun q => κ 4 + 112 ≤ q) s.heap 112 10 [.int 0, .ref (κ 4 + 113), .int 0, .ref (κ 4 + 114), .ref (κ 4 + 115), .ref (κ 4 + 116), .int 0, .int 0, .int 0, .int 0, .ref (κ 4 + 117), .ref (κ 4 + 118), .ref (κ 4 + 119), .null, .null, .null, .int 0, .int 0, .int 0, .null] (yk_E κ) 120 H locs := Z
  refine lv_aload_n C.1.1 C.1.2.1 dX10_init_63 rfl (lv_at hl 0 rfl) ?_
  refine lv_bipush (v := 28) C.1.1 C.1.2.1 dX10_init_64 (by decide) ?_
  refine yk_newI (N' := 28) C Z tw_123 (by decide) (by decide) (by decide) (yk_EI (by decide) rfl) (Nat.le_of_ble_eq_true rfl) (Nat.le_of_ble_eq_true rfl) dX10_init_66 (fun H Z => ?_)
  refine W.widen (k := 8) (n := 3673) (Nat.le_refl _) (Nat.le_refl _) ?_
  refine yk_putF C Z (k := 13) (id := 120) (N := 20) (T := TX10) rfl inX10 tyX10_ok nmX10 (by decide) rfl rfl hini rfl rfl rfl (Nat.le_of_ble_eq_true rfl) tw_805 dX10_init_68 (fun H locs Z => ?_)
  have Z : yk_Z D κ (fun q => κ 4 + 112 ≤ q) s.heap 112 10 [.int 0, .ref (κ 4 + 113), .int 0, .ref (κ 4 + 114), .ref (κ 4 + 115), .ref (κ 4 + 116), .int 0, .int 0, .int 0, .int 0, .ref (κ 4 + 117), .ref (κ 4 + 118), .ref (κ 4 + 119), .ref (κ 4 + 120), .null, .null, .int 0, .int 0, .int 0, .null] (yk_E κ) 121 H locs := Z
  refine lv_aload_n C.1.1 C.1.2.1 dX10_init_71 rfl (lv_at hl 0 rfl) ?_
  refine lv_bipush (v := 28) C.1.1 C.1.2.1 dX10_init_72 (by decide) ?_
  refine yk_newI (N' := 28) C Z tw_123 (by decide) (by decide) (by decide) (yk_EI (by decide) rfl) (Nat.le_of_ble_eq_true rfl) (Nat.le_of_ble_eq_true rfl) dX10_init_74 (fun H Z => ?_)
  refine W.widen (k := 9) (n := 3701) (Nat.le_refl _) (Nat.le_refl _) ?_
  refine yk_putF C Z (k := 14) (id := 121) (N := 20) (T := TX10) rfl inX10 tyX10_ok nmX10 (by decide) rfl rfl hini rfl rfl rfl (Nat.le_of_ble_eq_true rfl) tw_806 dX10_init_76 (fun H locs Z => ?_)
  have Z : yk_Z D κ (fun q => κ 4 + 112 ≤ q) s.heap 112 10 [.int 0, .ref (κ 4 + 113), .int 0, .ref (κ 4 + 114), .ref (κ 4 + 115), .ref (κ 4 + 116), .int 0, .int 0, .int 0, .int 0, .ref (κ 4 + 117), .ref (κ 4 + 118), .ref (κ 4 + 119), .ref (κ 4 + 120), .ref (κ 4 + 121), .null, .int 0, .int 0, .int 0, .null] (yk_E κ) 122 H locs := Z
  refine lv_aload_n C.1.1 C.1.2.1 dX10_init_79 rfl (lv_at hl 0 rfl) ?_
  refine lv_bipush (v := 42) C.1.1 C.1.2.1 dX10_init_80 (by decide) ?_
  refine yk_newI (N' := 42) C Z tw_123 (by decide) (by decide) (by decide) (yk_EI (by decide) rfl) (Nat.le_of_ble_eq_true rfl) (Nat.le_of_ble_eq_true rfl) dX10_init_82 (fun H Z => ?_)
  refine W.widen (k := 10) (n := 3743) (Nat.le_refl _) (Nat.le_refl _) ?_
  refine yk_putF C Z (k := 15) (id := 122) (N := 20) (T := TX10) rfl inX10 tyX10_ok nmX10 (by decide) rfl rfl hini rfl rfl rfl (Nat.le_of_ble_eq_true rfl) tw_807 dX10_init_84 (fun H locs Z => ?_)
  have Z : yk_Z D κ (fun q => κ 4 + 112 ≤ q) s.heap 112 10 [.int 0, .ref (κ 4 + 113), .int 0, .ref (κ 4 + 114), .ref (κ 4 + 115), .ref (κ 4 + 116), .int 0, .int 0, .int 0, .int 0, .ref (κ 4 + 117), .ref (κ 4 + 118), .ref (κ 4 + 119), .ref (κ 4 + 120), .ref (κ 4 + 121), .ref (κ 4 + 122), .int 0, .int 0, .int 0, .null] (yk_E κ) 123 H locs := Z
  refine lv_aload_n C.1.1 C.1.2.1 dX10_init_87 rfl (lv_at hl 0 rfl) ?_
  refine lv_bipush (v := 81) C.1.1 C.1.2.1 dX10_init_88 (by decide) ?_
  refine yk_newI (N' := 81) C Z tw_123 (by decide) (by decide) (by decide) (yk_EI (by decide) rfl) (Nat.le_of_ble_eq_true rfl) (Nat.le_of_ble_eq_true rfl) dX10_init_90 (fun H Z => ?_)
  refine W.widen (k := 11) (n := 3824) (Nat.le_refl _) (Nat.le_refl _) ?_
  refine yk_putF C Z (k := 19) (id := 123) (N := 20) (T := TX10) rfl inX10 tyX10_ok nmX10 (by decide) rfl rfl hini rfl rfl rfl (Nat.le_of_ble_eq_true rfl) tw_811 dX10_init_92 (fun H locs Z => ?_)
  have Z : yk_Z D κ (fun q => κ 4 + 112 ≤ q) s.heap 112 10 [.int 0, .ref (κ 4 + 113), .int 0, .ref (κ 4 + 114), .ref (κ 4 + 115), .ref (κ 4 + 116), .int 0, .int 0, .int 0, .int 0, .ref (κ 4 + 117), .ref (κ 4 + 118), .ref (κ 4 + 119), .ref (κ 4 + 120), .ref (κ 4 + 121), .ref (κ 4 + 122), .int 0, .int 0, .int 0, .ref (κ 4 + 123)] (yk_E κ) 124 H locs := Z
  exact yk_ret C Z hr hlk (by unfold yk_E; rw [yy_ent_112]; try rfl) (fun _ _ _ => rfl) rfl dX10_init_95
