section
variable {p : Program} {l : Launch} {e : Env} {s : State} {m : MethodId} {args : Array Value} {below : List Frame} {meth : Method} {c : Code} {H : Heap} {locs : List Loc} {ls : Array Slot} {D : va_G} {κ : Nat → Nat} {ext : va_W} {A : Nat → Prop} {τ : yy_T}
/-! MovedLines.fault()I -/
noncomputable def mm_X9_fault : yy_M Int32 :=
  yy_rF 3 1 fun v1 => yy_rt v1
theorem kw_X9_fault : yy_wV RX9 yX9_fault cX9_fault 1 (some .int) 0 := ⟨⟨tw_432, tw_433, tw_51, tw_434⟩, by decide +kernel⟩
abbrev rm_X9_fault : Room := { frames := 0, cells := 0, slots := 0, locals := 0 }
set_option maxHeartbeats 4000000 in
set_option maxRecDepth 100000 in
theorem ww_X9_fault_E {res : Int32 × yy_T} (C : yy_C D κ p m c cX9_fault 1 s args RX9) (hr : meth.sig.returnType = (some .int)) (hlk : meth.locks = false) (Z : yy_Z D κ ext A s.heap τ H locs) (hl : lv_has ls 1 [(0, .ref (κ 4 + 0))]) (h : mm_X9_fault  τ = some res) : W p l e rm_X9_fault s m args below meth c H locs 0 0 (MQ below (yy_Qi D κ ext A res) args s 0 0 A) (F0 m 0 ls []) := by
  unfold mm_X9_fault at h
  refine lv_aload_n C.1.1 C.1.2.1 dX9_fault_0 rfl (lv_at hl 0 rfl) ?_
  refine yg_X9_1 C Z tw_332 dX9_fault_1 ?_
  refine yg_X6_1 C Z tw_127 dX9_fault_4 h (fun v1 h => ?_)
  exact yy_iret C Z hr hlk rfl dX9_fault_7 h
set_option maxHeartbeats 4000000 in
set_option maxRecDepth 100000 in
theorem ss_X9_fault (l : Launch) (D : va_G) (κ : Nat → Nat) (ext : va_W) : yy_Mi l D κ ext yX9_fault cX9_fault 1 (some .int) rm_X9_fault 0 0 [.ref (κ 4 + 0)] (mm_X9_fault ) := by
  intro sz τ res h
  refine yy_ofW (by decide) (Nat.le_of_ble_eq_true rfl) ?_
  intro p e s m args below meth c ls hsz E
  obtain ⟨C, hr, hlk, Z, hl⟩ := E
  subst hsz
  exact ww_X9_fault_E  C hr hlk Z hl h
/-! MovedLines.compared()LMovedLines$Told; -/
noncomputable def mm_X9_compared : yy_M Nat :=
  yy_rF 0 10 fun v1 => yy_br (v1 = 0) (yy_rt 84) (yy_cl (mm_X1_compare 7 10 84) (fun _ => yy_wF 0 10 0 (yy_rt 84)))
theorem kw_X9_compared : yy_wV RX9 yX9_compared cX9_compared 1 (some (.object "MovedLines$Told")) 0 := ⟨⟨tw_441, tw_6, tw_51, tw_442⟩, by decide +kernel⟩
abbrev rm_X9_compared : Room := { frames := 6, cells := 0, slots := 0, locals := 170 }
set_option maxHeartbeats 4000000 in
set_option maxRecDepth 100000 in
theorem ww_X9_compared_E {res : Nat × yy_T} (C : yy_C D κ p m c cX9_compared 1 s args RX9) (hr : meth.sig.returnType = (some (.object "MovedLines$Told"))) (hlk : meth.locks = false) (Z : yy_Z D κ ext A s.heap τ H locs) (hl : lv_has ls 1 [(0, .ref (κ 4 + 0))]) (h : mm_X9_compared  τ = some res) : W p l e rm_X9_compared s m args below meth c H locs 0 0 (MQ below (yy_Qr (fun r => r ∈ yy_Tds) D κ ext A res) args s 0 0 A) (F0 m 0 ls []) := by
  unfold mm_X9_compared at h
  refine lv_aload_n C.1.1 C.1.2.1 dX9_compared_0 rfl (lv_at hl 0 rfl) ?_
  refine yg_X9_10 C Z tw_341 dX9_compared_1 h (fun v1 h => ?_)
  refine yy_if_eq (tgt := 31) C dX9_compared_4 (by decide) h (fun h => ?_) (fun h => ?_)
  · refine lv_aload_n C.1.1 C.1.2.1 dX9_compared_31 rfl (lv_at hl 0 rfl) ?_
    refine yg_X9_8 C Z tw_339 dX9_compared_32 ?_
    exact yy_aret C Z hr hlk (by decide) dX9_compared_35 h
  · refine lv_aload_n C.1.1 C.1.2.1 dX9_compared_7 rfl (lv_at hl 0 rfl) ?_
    refine yg_X9_6 C Z tw_337 dX9_compared_8 ?_
    refine lv_aload_n C.1.1 C.1.2.1 dX9_compared_11 rfl (lv_at hl 0 rfl) ?_
    refine yg_X9_2 C Z tw_333 dX9_compared_12 ?_
    refine lv_aload_n C.1.1 C.1.2.1 dX9_compared_15 rfl (lv_at hl 0 rfl) ?_
    refine yg_X9_3 C Z tw_334 dX9_compared_16 ?_
    refine lv_aload_n C.1.1 C.1.2.1 dX9_compared_19 rfl (lv_at hl 0 rfl) ?_
    refine yg_X9_8 C Z tw_339 dX9_compared_20 ?_
    refine yy_cVv0 (As := [.ref (κ 4 + 7), .ref (κ 4 + 10), .ref (κ 4 + 84)]) (rest := []) (id := 49) (ci := 1) (q := (RX1, TX1, 4)) C Z (ss_X1_compare l D κ ext 7 10 84 (by decide) (by decide) (by decide)) (by decide) (yy_ent_49 _) rfl tw_443 kw_X1_compare ⟨⟨rfl, rfl⟩, ⟨Nat.le_of_ble_eq_true rfl, Nat.le_of_ble_eq_true rfl⟩, Nat.le_of_ble_eq_true rfl, Nat.le_of_ble_eq_true rfl⟩ hl.1 rfl (Nat.le_of_ble_eq_true rfl) dX9_compared_23 h (fun τ H locs Z h => ?_)
    refine lv_aload_n C.1.1 C.1.2.1 dX9_compared_26 rfl (lv_at hl 0 rfl) ?_
    refine lv_iconst (v := 0) C.1.1 C.1.2.1 dX9_compared_27 (by decide) ?_
    refine yp_X9_10 C Z (Or.inl rfl) tw_341 dX9_compared_28 h (fun H locs τ Z h => ?_)
    refine lv_aload_n C.1.1 C.1.2.1 dX9_compared_31 rfl (lv_at hl 0 rfl) ?_
    refine yg_X9_8 C Z tw_339 dX9_compared_32 ?_
    exact yy_aret C Z hr hlk (by decide) dX9_compared_35 h
set_option maxHeartbeats 4000000 in
set_option maxRecDepth 100000 in
theorem ss_X9_compared (l : Launch) (D : va_G) (κ : Nat → Nat) (ext : va_W) : yy_Mr (fun r => r ∈ yy_Tds) l D κ ext yX9_compared cX9_compared 1 (some (.object "MovedLines$Told")) rm_X9_compared 0 0 [.ref (κ 4 + 0)] (mm_X9_compared ) := by
  intro sz τ res h
  refine yy_ofW (by decide) (Nat.le_of_ble_eq_true rfl) ?_
  intro p e s m args below meth c ls hsz E
  obtain ⟨C, hr, hlk, Z, hl⟩ := E
  subst hsz
  exact ww_X9_compared_E  C hr hlk Z hl h
/-! MovedLines.now(I)I -/
noncomputable def mm_X9_now (x1 : Int32) : yy_M Int32 :=
  yy_br (x1 = 0) (yy_rF 7 2 fun v1 => yy_rt v1) (yy_br (x1 = 1) (yy_rF 10 2 fun v2 => yy_rt v2) (yy_br (x1 = 2) (yy_cl (mm_X9_compared ) (fun r3 => yy_rA (r3 + 10) 3 0 fun v5 => yy_rt v5)) (yy_br (x1 = 3) (yy_cl (mm_X9_compared ) (fun r6 => yy_rA (r6 + 10) 3 1 fun v8 => yy_rt v8)) (yy_br (x1 = 4) (yy_cl (mm_X9_compared ) (fun r9 => yy_rF r9 7 fun v11 => yy_rt v11)) (yy_br (x1 = 5) (yy_cl (mm_X9_compared ) (fun r12 => yy_rA (r12 + 10) 3 2 fun v14 => yy_rt v14)) (yy_br (x1 = 6) (yy_rF 7 2 fun v15 => yy_cl (mm_X9_compared ) (fun r16 => yy_cl (mm_X8_allCouples r16) (fun r18 => yy_rt (v15 - r18)))) (yy_br (x1 = 7) (yy_rF 10 2 fun v19 => yy_cl (mm_X9_compared ) (fun r20 => yy_cl (mm_X8_allCouples r20) (fun r22 => yy_rt (v19 - r22)))) (yy_br (x1 = 8) (yy_rF 16 2 fun v23 => yy_rt v23) (yy_br (x1 = 9) (yy_rF 1 1 fun v24 => yy_rt v24) (yy_rt ((-1))))))))))))
theorem kw_X9_now : yy_wV RX9 yX9_now cX9_now 2 (some .int) 1 := ⟨⟨tw_436, tw_437, tw_51, tw_438⟩, by decide +kernel⟩
abbrev rm_X9_now : Room := { frames := 7, cells := 0, slots := 0, locals := 190 }
set_option maxHeartbeats 4000000 in
set_option maxRecDepth 100000 in
theorem ww_X9_now_E {x1 : Int32} {res : Int32 × yy_T} (C : yy_C D κ p m c cX9_now 2 s args RX9) (hr : meth.sig.returnType = (some .int)) (hlk : meth.locks = false) (Z : yy_Z D κ ext A s.heap τ H locs) (hl : lv_has ls 2 [(0, .ref (κ 4 + 0)), (1, .int x1)]) (h : mm_X9_now x1 τ = some res) : W p l e rm_X9_now s m args below meth c H locs 0 0 (MQ below (yy_Qi D κ ext A res) args s 0 0 A) (F0 m 0 ls []) := by
  unfold mm_X9_now at h
  refine lv_iload_n C.1.1 C.1.2.1 dX9_now_0 rfl (lv_at hl 1 rfl) ?_
  rcases yy_br_of h with ⟨hc0, h⟩ | ⟨hc0, h⟩
  · refine lv_tableIn (off := 55) (tgt := 56) C.1.1 C.1.2.1 dX9_now_1 (by rw [hc0]; decide) (by rw [hc0]; decide) (by rw [hc0]; rfl) (by decide) ?_
    refine lv_aload_n C.1.1 C.1.2.1 dX9_now_56 rfl (lv_at hl 0 rfl) ?_
    refine yg_X9_2 C Z tw_333 dX9_now_57 ?_
    refine yg_X2_2 C Z (by decide) tw_114 dX9_now_60 h (fun v1 h => ?_)
    exact yy_iret C Z hr hlk rfl dX9_now_63 h
  · rcases yy_br_of h with ⟨hc1, h⟩ | ⟨hc1, h⟩
    · refine lv_tableIn (off := 63) (tgt := 64) C.1.1 C.1.2.1 dX9_now_1 (by rw [hc1]; decide) (by rw [hc1]; decide) (by rw [hc1]; rfl) (by decide) ?_
      refine lv_aload_n C.1.1 C.1.2.1 dX9_now_64 rfl (lv_at hl 0 rfl) ?_
      refine yg_X9_3 C Z tw_334 dX9_now_65 ?_
      refine yg_X2_2 C Z (by decide) tw_114 dX9_now_68 h (fun v2 h => ?_)
      exact yy_iret C Z hr hlk rfl dX9_now_71 h
    · rcases yy_br_of h with ⟨hc2, h⟩ | ⟨hc2, h⟩
      · refine lv_tableIn (off := 71) (tgt := 72) C.1.1 C.1.2.1 dX9_now_1 (by rw [hc2]; decide) (by rw [hc2]; decide) (by rw [hc2]; rfl) (by decide) ?_
        refine lv_aload_n C.1.1 C.1.2.1 dX9_now_72 rfl (lv_at hl 0 rfl) ?_
        refine yy_cVr0 (As := []) (rest := []) (id := 0) (ci := 9) (q := (RX9, TX9, 11)) C Z (ss_X9_compared l D κ ext ) (by decide) (yy_ent_0 _) rfl tw_439 kw_X9_compared ⟨⟨rfl, rfl⟩, ⟨Nat.le_of_ble_eq_true rfl, Nat.le_of_ble_eq_true rfl⟩, Nat.le_of_ble_eq_true rfl, Nat.le_of_ble_eq_true rfl⟩ hl.1 rfl (Nat.le_of_ble_eq_true rfl) dX9_now_73 h (fun r3 τ H locs hp4 Z h => ?_)
        refine yg_X8_3 C Z hp4 tw_290 dX9_now_76 ?_
        refine lv_iconst (v := 0) C.1.1 C.1.2.1 dX9_now_79 (by decide) ?_
        refine yy_iald C Z (yy_D10 _ hp4) (yy_lenD10 _ hp4) dX9_now_80 h (fun v5 h => ?_)
        exact yy_iret C Z hr hlk rfl dX9_now_81 h
      · rcases yy_br_of h with ⟨hc3, h⟩ | ⟨hc3, h⟩
        · refine lv_tableIn (off := 81) (tgt := 82) C.1.1 C.1.2.1 dX9_now_1 (by rw [hc3]; decide) (by rw [hc3]; decide) (by rw [hc3]; rfl) (by decide) ?_
          refine lv_aload_n C.1.1 C.1.2.1 dX9_now_82 rfl (lv_at hl 0 rfl) ?_
          refine yy_cVr0 (As := []) (rest := []) (id := 0) (ci := 9) (q := (RX9, TX9, 11)) C Z (ss_X9_compared l D κ ext ) (by decide) (yy_ent_0 _) rfl tw_439 kw_X9_compared ⟨⟨rfl, rfl⟩, ⟨Nat.le_of_ble_eq_true rfl, Nat.le_of_ble_eq_true rfl⟩, Nat.le_of_ble_eq_true rfl, Nat.le_of_ble_eq_true rfl⟩ hl.1 rfl (Nat.le_of_ble_eq_true rfl) dX9_now_83 h (fun r6 τ H locs hp7 Z h => ?_)
          refine yg_X8_3 C Z hp7 tw_290 dX9_now_86 ?_
          refine lv_iconst (v := 1) C.1.1 C.1.2.1 dX9_now_89 (by decide) ?_
          refine yy_iald C Z (yy_D10 _ hp7) (yy_lenD10 _ hp7) dX9_now_90 h (fun v8 h => ?_)
          exact yy_iret C Z hr hlk rfl dX9_now_91 h
        · rcases yy_br_of h with ⟨hc4, h⟩ | ⟨hc4, h⟩
          · refine lv_tableIn (off := 91) (tgt := 92) C.1.1 C.1.2.1 dX9_now_1 (by rw [hc4]; decide) (by rw [hc4]; decide) (by rw [hc4]; rfl) (by decide) ?_
            refine lv_aload_n C.1.1 C.1.2.1 dX9_now_92 rfl (lv_at hl 0 rfl) ?_
            refine yy_cVr0 (As := []) (rest := []) (id := 0) (ci := 9) (q := (RX9, TX9, 11)) C Z (ss_X9_compared l D κ ext ) (by decide) (yy_ent_0 _) rfl tw_439 kw_X9_compared ⟨⟨rfl, rfl⟩, ⟨Nat.le_of_ble_eq_true rfl, Nat.le_of_ble_eq_true rfl⟩, Nat.le_of_ble_eq_true rfl, Nat.le_of_ble_eq_true rfl⟩ hl.1 rfl (Nat.le_of_ble_eq_true rfl) dX9_now_93 h (fun r9 τ H locs hp10 Z h => ?_)
            refine yg_X8_7 C Z hp10 tw_298 dX9_now_96 h (fun v11 h => ?_)
            exact yy_iret C Z hr hlk rfl dX9_now_99 h
          · rcases yy_br_of h with ⟨hc5, h⟩ | ⟨hc5, h⟩
            · refine lv_tableIn (off := 99) (tgt := 100) C.1.1 C.1.2.1 dX9_now_1 (by rw [hc5]; decide) (by rw [hc5]; decide) (by rw [hc5]; rfl) (by decide) ?_
              refine lv_aload_n C.1.1 C.1.2.1 dX9_now_100 rfl (lv_at hl 0 rfl) ?_
              refine yy_cVr0 (As := []) (rest := []) (id := 0) (ci := 9) (q := (RX9, TX9, 11)) C Z (ss_X9_compared l D κ ext ) (by decide) (yy_ent_0 _) rfl tw_439 kw_X9_compared ⟨⟨rfl, rfl⟩, ⟨Nat.le_of_ble_eq_true rfl, Nat.le_of_ble_eq_true rfl⟩, Nat.le_of_ble_eq_true rfl, Nat.le_of_ble_eq_true rfl⟩ hl.1 rfl (Nat.le_of_ble_eq_true rfl) dX9_now_101 h (fun r12 τ H locs hp13 Z h => ?_)
              refine yg_X8_3 C Z hp13 tw_290 dX9_now_104 ?_
              refine lv_iconst (v := 2) C.1.1 C.1.2.1 dX9_now_107 (by decide) ?_
              refine yy_iald C Z (yy_D10 _ hp13) (yy_lenD10 _ hp13) dX9_now_108 h (fun v14 h => ?_)
              exact yy_iret C Z hr hlk rfl dX9_now_109 h
            · rcases yy_br_of h with ⟨hc6, h⟩ | ⟨hc6, h⟩
              · refine lv_tableIn (off := 109) (tgt := 110) C.1.1 C.1.2.1 dX9_now_1 (by rw [hc6]; decide) (by rw [hc6]; decide) (by rw [hc6]; rfl) (by decide) ?_
                refine lv_aload_n C.1.1 C.1.2.1 dX9_now_110 rfl (lv_at hl 0 rfl) ?_
                refine yg_X9_2 C Z tw_333 dX9_now_111 ?_
                refine yg_X2_2 C Z (by decide) tw_114 dX9_now_114 h (fun v15 h => ?_)
                refine lv_aload_n C.1.1 C.1.2.1 dX9_now_117 rfl (lv_at hl 0 rfl) ?_
                refine yy_cVr0 (As := []) (rest := [.int v15]) (id := 0) (ci := 9) (q := (RX9, TX9, 11)) C Z (ss_X9_compared l D κ ext ) (by decide) (yy_ent_0 _) rfl tw_439 kw_X9_compared ⟨⟨rfl, rfl⟩, ⟨Nat.le_of_ble_eq_true rfl, Nat.le_of_ble_eq_true rfl⟩, Nat.le_of_ble_eq_true rfl, Nat.le_of_ble_eq_true rfl⟩ hl.1 rfl (Nat.le_of_ble_eq_true rfl) dX9_now_118 h (fun r16 τ H locs hp17 Z h => ?_)
                refine yy_cVi0 (As := []) (rest := [.int v15]) (id := r16) (ci := 8) (q := (RX8, TX8, 11)) C Z (ss_X8_allCouples l D κ ext r16 hp17) (yy_Tds_lt _ hp17) (yy_ent_Tds hp17 _) rfl tw_559 kw_X8_allCouples ⟨⟨rfl, rfl⟩, ⟨Nat.le_of_ble_eq_true rfl, Nat.le_of_ble_eq_true rfl⟩, Nat.le_of_ble_eq_true rfl, Nat.le_of_ble_eq_true rfl⟩ hl.1 rfl (Nat.le_of_ble_eq_true rfl) dX9_now_121 h (fun r18 τ H locs Z h => ?_)
                refine lv_isub C.1.1 C.1.2.1 dX9_now_124 ?_
                exact yy_iret C Z hr hlk rfl dX9_now_125 h
              · rcases yy_br_of h with ⟨hc7, h⟩ | ⟨hc7, h⟩
                · refine lv_tableIn (off := 125) (tgt := 126) C.1.1 C.1.2.1 dX9_now_1 (by rw [hc7]; decide) (by rw [hc7]; decide) (by rw [hc7]; rfl) (by decide) ?_
                  refine lv_aload_n C.1.1 C.1.2.1 dX9_now_126 rfl (lv_at hl 0 rfl) ?_
                  refine yg_X9_3 C Z tw_334 dX9_now_127 ?_
                  refine yg_X2_2 C Z (by decide) tw_114 dX9_now_130 h (fun v19 h => ?_)
                  refine lv_aload_n C.1.1 C.1.2.1 dX9_now_133 rfl (lv_at hl 0 rfl) ?_
                  refine yy_cVr0 (As := []) (rest := [.int v19]) (id := 0) (ci := 9) (q := (RX9, TX9, 11)) C Z (ss_X9_compared l D κ ext ) (by decide) (yy_ent_0 _) rfl tw_439 kw_X9_compared ⟨⟨rfl, rfl⟩, ⟨Nat.le_of_ble_eq_true rfl, Nat.le_of_ble_eq_true rfl⟩, Nat.le_of_ble_eq_true rfl, Nat.le_of_ble_eq_true rfl⟩ hl.1 rfl (Nat.le_of_ble_eq_true rfl) dX9_now_134 h (fun r20 τ H locs hp21 Z h => ?_)
                  refine yy_cVi0 (As := []) (rest := [.int v19]) (id := r20) (ci := 8) (q := (RX8, TX8, 11)) C Z (ss_X8_allCouples l D κ ext r20 hp21) (yy_Tds_lt _ hp21) (yy_ent_Tds hp21 _) rfl tw_559 kw_X8_allCouples ⟨⟨rfl, rfl⟩, ⟨Nat.le_of_ble_eq_true rfl, Nat.le_of_ble_eq_true rfl⟩, Nat.le_of_ble_eq_true rfl, Nat.le_of_ble_eq_true rfl⟩ hl.1 rfl (Nat.le_of_ble_eq_true rfl) dX9_now_137 h (fun r22 τ H locs Z h => ?_)
                  refine lv_isub C.1.1 C.1.2.1 dX9_now_140 ?_
                  exact yy_iret C Z hr hlk rfl dX9_now_141 h
                · rcases yy_br_of h with ⟨hc8, h⟩ | ⟨hc8, h⟩
                  · refine lv_tableIn (off := 141) (tgt := 142) C.1.1 C.1.2.1 dX9_now_1 (by rw [hc8]; decide) (by rw [hc8]; decide) (by rw [hc8]; rfl) (by decide) ?_
                    refine lv_aload_n C.1.1 C.1.2.1 dX9_now_142 rfl (lv_at hl 0 rfl) ?_
                    refine yg_X9_5 C Z tw_336 dX9_now_143 ?_
                    refine yg_X5_2 C Z tw_159 dX9_now_146 h (fun v23 h => ?_)
                    exact yy_iret C Z hr hlk rfl dX9_now_149 h
                  · rcases yy_br_of h with ⟨hc9, h⟩ | ⟨hc9, h⟩
                    · refine lv_tableIn (off := 149) (tgt := 150) C.1.1 C.1.2.1 dX9_now_1 (by rw [hc9]; decide) (by rw [hc9]; decide) (by rw [hc9]; rfl) (by decide) ?_
                      refine lv_aload_n C.1.1 C.1.2.1 dX9_now_150 rfl (lv_at hl 0 rfl) ?_
                      refine yg_X9_0 C Z tw_331 dX9_now_151 ?_
                      refine yg_X7_1 C Z tw_85 dX9_now_154 h (fun v24 h => ?_)
                      exact yy_iret C Z hr hlk rfl dX9_now_157 h
                    · refine lv_tableOut (tgt := 158) C.1.1 C.1.2.1 dX9_now_1 (yy_out 10 (fun k hk => by rcases (show k = 0 ∨ k = 1 ∨ k = 2 ∨ k = 3 ∨ k = 4 ∨ k = 5 ∨ k = 6 ∨ k = 7 ∨ k = 8 ∨ k = 9 by omega) with rfl | rfl | rfl | rfl | rfl | rfl | rfl | rfl | rfl | rfl <;> assumption)) (by decide) ?_
                      refine lv_iconst (v := (-1)) C.1.1 C.1.2.1 dX9_now_158 (by decide) ?_
                      exact yy_iret C Z hr hlk rfl dX9_now_159 h
set_option maxHeartbeats 4000000 in
set_option maxRecDepth 100000 in
theorem ss_X9_now (l : Launch) (D : va_G) (κ : Nat → Nat) (ext : va_W) (x1 : Int32) : yy_Mi l D κ ext yX9_now cX9_now 2 (some .int) rm_X9_now 0 0 [.ref (κ 4 + 0), .int x1] (mm_X9_now x1) := by
  intro sz τ res h
  refine yy_ofW (by decide) (Nat.le_of_ble_eq_true rfl) ?_
  intro p e s m args below meth c ls hsz E
  obtain ⟨C, hr, hlk, Z, hl⟩ := E
  subst hsz
  exact ww_X9_now_E  C hr hlk Z hl h
/-! MovedLines.hasLine(II)Z -/
noncomputable def mm_X9_hasLine (x1 : Int32) (x2 : Int32) : yy_M Int32 :=
  yy_cl (mm_X9_isEdition x1) (fun r1 => yy_br (r1 = 0) (yy_rt 0) (yy_cl (mm_X9_editionOf x1) (fun r2 => yy_cl (mm_X2_has r2 x2) (fun r4 => yy_br (r4 = 0) (yy_rt 0) (yy_rt 1)))))
theorem kw_X9_hasLine : yy_wV RX9 yX9_hasLine cX9_hasLine 3 (some .boolean) 2 := ⟨⟨tw_569, tw_17, tw_51, tw_570⟩, by decide +kernel⟩
abbrev rm_X9_hasLine : Room := { frames := 1, cells := 0, slots := 0, locals := 21 }
set_option maxHeartbeats 4000000 in
set_option maxRecDepth 100000 in
theorem ww_X9_hasLine_E {x1 : Int32} {x2 : Int32} {res : Int32 × yy_T} (C : yy_C D κ p m c cX9_hasLine 3 s args RX9) (hr : meth.sig.returnType = (some .boolean)) (hlk : meth.locks = false) (Z : yy_Z D κ ext A s.heap τ H locs) (hl : lv_has ls 3 [(0, .ref (κ 4 + 0)), (1, .int x1), (2, .int x2)]) (h : mm_X9_hasLine x1 x2 τ = some res) : W p l e rm_X9_hasLine s m args below meth c H locs 0 0 (MQ below (yy_Qi D κ ext A res) args s 0 0 A) (F0 m 0 ls []) := by
  unfold mm_X9_hasLine at h
  refine lv_iload_n C.1.1 C.1.2.1 dX9_hasLine_0 rfl (lv_at hl 1 rfl) ?_
  refine yy_cSi0 (As := [.int x1]) (rest := [])  C Z (ss_X9_isEdition l D κ ext x1) tw_381 kw_X9_isEdition ⟨⟨rfl, rfl⟩, ⟨Nat.le_of_ble_eq_true rfl, Nat.le_of_ble_eq_true rfl⟩, Nat.le_of_ble_eq_true rfl, Nat.le_of_ble_eq_true rfl⟩ hl.1 rfl (Nat.le_of_ble_eq_true rfl) dX9_hasLine_1 h (fun r1 τ H locs Z h => ?_)
  refine yy_if_eq (tgt := 23) C dX9_hasLine_4 (by decide) h (fun h => ?_) (fun h => ?_)
  · refine lv_iconst (v := 0) C.1.1 C.1.2.1 dX9_hasLine_23 (by decide) ?_
    exact yy_iret C Z hr hlk rfl dX9_hasLine_24 h
  · refine lv_aload_n C.1.1 C.1.2.1 dX9_hasLine_7 rfl (lv_at hl 0 rfl) ?_
    refine lv_iload_n C.1.1 C.1.2.1 dX9_hasLine_8 rfl (lv_at hl 1 rfl) ?_
    refine yy_cVr0 (As := [.int x1]) (rest := []) (id := 0) (ci := 9) (q := (RX9, TX9, 11)) C Z (ss_X9_editionOf l D κ ext x1) (by decide) (yy_ent_0 _) rfl tw_408 kw_X9_editionOf ⟨⟨rfl, rfl⟩, ⟨Nat.le_of_ble_eq_true rfl, Nat.le_of_ble_eq_true rfl⟩, Nat.le_of_ble_eq_true rfl, Nat.le_of_ble_eq_true rfl⟩ hl.1 rfl (Nat.le_of_ble_eq_true rfl) dX9_hasLine_9 h (fun r2 τ H locs hp3 Z h => ?_)
    refine lv_iload_n C.1.1 C.1.2.1 dX9_hasLine_12 rfl (lv_at hl 2 rfl) ?_
    refine yy_cVi0 (As := [.int x2]) (rest := []) (id := r2) (ci := 2) (q := (RX2, TX2, 3)) C Z (ss_X2_has l D κ ext r2 x2 hp3) (yy_Eds_lt _ hp3) (yy_ent_Eds hp3 _) rfl tw_571 kw_X2_has ⟨⟨rfl, rfl⟩, ⟨Nat.le_of_ble_eq_true rfl, Nat.le_of_ble_eq_true rfl⟩, Nat.le_of_ble_eq_true rfl, Nat.le_of_ble_eq_true rfl⟩ hl.1 rfl (Nat.le_of_ble_eq_true rfl) dX9_hasLine_13 h (fun r4 τ H locs Z h => ?_)
    refine yy_if_eq (tgt := 23) C dX9_hasLine_16 (by decide) h (fun h => ?_) (fun h => ?_)
    · refine lv_iconst (v := 0) C.1.1 C.1.2.1 dX9_hasLine_23 (by decide) ?_
      exact yy_iret C Z hr hlk rfl dX9_hasLine_24 h
    · refine lv_iconst (v := 1) C.1.1 C.1.2.1 dX9_hasLine_19 (by decide) ?_
      refine lv_goto (tgt := 24) C.1.1 C.1.2.1 dX9_hasLine_20 (by decide) ?_
      exact yy_iret C Z hr hlk rfl dX9_hasLine_24 h
set_option maxHeartbeats 4000000 in
set_option maxRecDepth 100000 in
theorem ss_X9_hasLine (l : Launch) (D : va_G) (κ : Nat → Nat) (ext : va_W) (x1 : Int32) (x2 : Int32) : yy_Mi l D κ ext yX9_hasLine cX9_hasLine 3 (some .boolean) rm_X9_hasLine 0 0 [.ref (κ 4 + 0), .int x1, .int x2] (mm_X9_hasLine x1 x2) := by
  intro sz τ res h
  refine yy_ofW (by decide) (Nat.le_of_ble_eq_true rfl) ?_
  intro p e s m args below meth c ls hsz E
  obtain ⟨C, hr, hlk, Z, hl⟩ := E
  subst hsz
  exact ww_X9_hasLine_E  C hr hlk Z hl h
/-! MovedLines.letter(IIII)I -/
noncomputable def mm_X9_letter (x1 : Int32) (x2 : Int32) (x3 : Int32) (x4 : Int32) : yy_M Int32 :=
  yy_cl (mm_X9_hasLine x1 x2) (fun r1 => yy_br (r1 = 0) (yy_rt ((-1))) (yy_cl (mm_X9_editionOf x1) (fun r2 => yy_cl (mm_X2_lettersOf r2 x2 x3) (fun r4 => yy_br (r4 = 0) (yy_rt ((-1))) (yy_br (x4 = ((-1))) (yy_rt r4) (yy_br (x4 < 0) (yy_rt ((-1))) (yy_br (r4 ≤ x4) (yy_rt ((-1))) (yy_cl (mm_X9_editionOf x1) (fun r5 => yy_cl (mm_X2_wordAt r5 x2 x3) (fun r7 => yy_cl (mm_X9_letterIn r7 x4) (fun r8 => yy_rt r8)))))))))))
theorem kw_X9_letter : yy_wV RX9 yX9_letter cX9_letter 6 (some .int) 4 := ⟨⟨tw_564, tw_565, tw_51, tw_566⟩, by decide +kernel⟩
abbrev rm_X9_letter : Room := { frames := 4, cells := 0, slots := 0, locals := 88 }
set_option maxHeartbeats 4000000 in
set_option maxRecDepth 100000 in
theorem ww_X9_letter_E {x1 : Int32} {x2 : Int32} {x3 : Int32} {x4 : Int32} {res : Int32 × yy_T} (C : yy_C D κ p m c cX9_letter 6 s args RX9) (hr : meth.sig.returnType = (some .int)) (hlk : meth.locks = false) (Z : yy_Z D κ ext A s.heap τ H locs) (hl : lv_has ls 6 [(0, .ref (κ 4 + 0)), (1, .int x1), (2, .int x2), (3, .int x3), (4, .int x4)]) (h : mm_X9_letter x1 x2 x3 x4 τ = some res) : W p l e rm_X9_letter s m args below meth c H locs 0 0 (MQ below (yy_Qi D κ ext A res) args s 0 0 A) (F0 m 0 ls []) := by
  unfold mm_X9_letter at h
  refine lv_aload_n C.1.1 C.1.2.1 dX9_letter_0 rfl (lv_at hl 0 rfl) ?_
  refine lv_iload_n C.1.1 C.1.2.1 dX9_letter_1 rfl (lv_at hl 1 rfl) ?_
  refine lv_iload_n C.1.1 C.1.2.1 dX9_letter_2 rfl (lv_at hl 2 rfl) ?_
  refine yy_cVi0 (As := [.int x1, .int x2]) (rest := []) (id := 0) (ci := 9) (q := (RX9, TX9, 11)) C Z (ss_X9_hasLine l D κ ext x1 x2) (by decide) (yy_ent_0 _) rfl tw_567 kw_X9_hasLine ⟨⟨rfl, rfl⟩, ⟨Nat.le_of_ble_eq_true rfl, Nat.le_of_ble_eq_true rfl⟩, Nat.le_of_ble_eq_true rfl, Nat.le_of_ble_eq_true rfl⟩ hl.1 rfl (Nat.le_of_ble_eq_true rfl) dX9_letter_3 h (fun r1 τ H locs Z h => ?_)
  refine yy_if_ne (tgt := 11) C dX9_letter_6 (by decide) h (fun h => ?_) (fun h => ?_)
  · refine lv_aload_n C.1.1 C.1.2.1 dX9_letter_11 rfl (lv_at hl 0 rfl) ?_
    refine lv_iload_n C.1.1 C.1.2.1 dX9_letter_12 rfl (lv_at hl 1 rfl) ?_
    refine yy_cVr0 (As := [.int x1]) (rest := []) (id := 0) (ci := 9) (q := (RX9, TX9, 11)) C Z (ss_X9_editionOf l D κ ext x1) (by decide) (yy_ent_0 _) rfl tw_408 kw_X9_editionOf ⟨⟨rfl, rfl⟩, ⟨Nat.le_of_ble_eq_true rfl, Nat.le_of_ble_eq_true rfl⟩, Nat.le_of_ble_eq_true rfl, Nat.le_of_ble_eq_true rfl⟩ hl.1 rfl (Nat.le_of_ble_eq_true rfl) dX9_letter_13 h (fun r2 τ H locs hp3 Z h => ?_)
    refine lv_iload_n C.1.1 C.1.2.1 dX9_letter_16 rfl (lv_at hl 2 rfl) ?_
    refine lv_iload_n C.1.1 C.1.2.1 dX9_letter_17 rfl (lv_at hl 3 rfl) ?_
    refine yy_cVi0 (As := [.int x2, .int x3]) (rest := []) (id := r2) (ci := 2) (q := (RX2, TX2, 3)) C Z (ss_X2_lettersOf l D κ ext r2 x2 x3 hp3) (yy_Eds_lt _ hp3) (yy_ent_Eds hp3 _) rfl tw_572 kw_X2_lettersOf ⟨⟨rfl, rfl⟩, ⟨Nat.le_of_ble_eq_true rfl, Nat.le_of_ble_eq_true rfl⟩, Nat.le_of_ble_eq_true rfl, Nat.le_of_ble_eq_true rfl⟩ hl.1 rfl (Nat.le_of_ble_eq_true rfl) dX9_letter_18 h (fun r4 τ H locs Z h => ?_)
    refine lv_istore (lv' := [(5, .int r4), (0, .ref (κ 4 + 0)), (1, .int x1), (2, .int x2), (3, .int x3), (4, .int x4)]) C.1.1 C.1.2.1 dX9_letter_21 hl (by decide) rfl (fun ls hl => ?_)
    refine lv_iload C.1.1 C.1.2.1 dX9_letter_23 (lv_at hl 0 rfl) ?_
    refine yy_if_ne (tgt := 30) C dX9_letter_25 (by decide) h (fun h => ?_) (fun h => ?_)
    · refine lv_iload C.1.1 C.1.2.1 dX9_letter_30 (lv_at hl 5 rfl) ?_
      refine lv_iconst (v := (-1)) C.1.1 C.1.2.1 dX9_letter_32 (by decide) ?_
      refine yy_icmp_ne (tgt := 39) C dX9_letter_33 (by decide) h (fun h => ?_) (fun h => ?_)
      · refine lv_iload C.1.1 C.1.2.1 dX9_letter_39 (lv_at hl 5 rfl) ?_
        refine yy_if_lt (tgt := 69) C dX9_letter_41 (by decide) h (fun h => ?_) (fun h => ?_)
        · refine lv_iconst (v := (-1)) C.1.1 C.1.2.1 dX9_letter_69 (by decide) ?_
          exact yy_iret C Z hr hlk rfl dX9_letter_70 h
        · refine lv_iload C.1.1 C.1.2.1 dX9_letter_44 (lv_at hl 5 rfl) ?_
          refine lv_iload C.1.1 C.1.2.1 dX9_letter_46 (lv_at hl 0 rfl) ?_
          refine yy_icmp_ge (tgt := 69) C dX9_letter_48 (by decide) h (fun h => ?_) (fun h => ?_)
          · refine lv_iconst (v := (-1)) C.1.1 C.1.2.1 dX9_letter_69 (by decide) ?_
            exact yy_iret C Z hr hlk rfl dX9_letter_70 h
          · refine lv_aload_n C.1.1 C.1.2.1 dX9_letter_51 rfl (lv_at hl 1 rfl) ?_
            refine lv_iload_n C.1.1 C.1.2.1 dX9_letter_52 rfl (lv_at hl 2 rfl) ?_
            refine yy_cVr0 (As := [.int x1]) (rest := []) (id := 0) (ci := 9) (q := (RX9, TX9, 11)) C Z (ss_X9_editionOf l D κ ext x1) (by decide) (yy_ent_0 _) rfl tw_408 kw_X9_editionOf ⟨⟨rfl, rfl⟩, ⟨Nat.le_of_ble_eq_true rfl, Nat.le_of_ble_eq_true rfl⟩, Nat.le_of_ble_eq_true rfl, Nat.le_of_ble_eq_true rfl⟩ hl.1 rfl (Nat.le_of_ble_eq_true rfl) dX9_letter_53 h (fun r5 τ H locs hp6 Z h => ?_)
            refine lv_iload_n C.1.1 C.1.2.1 dX9_letter_56 rfl (lv_at hl 3 rfl) ?_
            refine lv_iload_n C.1.1 C.1.2.1 dX9_letter_57 rfl (lv_at hl 4 rfl) ?_
            refine yy_cVi0 (As := [.int x2, .int x3]) (rest := []) (id := r5) (ci := 2) (q := (RX2, TX2, 3)) C Z (ss_X2_wordAt l D κ ext r5 x2 x3 hp6) (yy_Eds_lt _ hp6) (yy_ent_Eds hp6 _) rfl tw_584 kw_X2_wordAt ⟨⟨rfl, rfl⟩, ⟨Nat.le_of_ble_eq_true rfl, Nat.le_of_ble_eq_true rfl⟩, Nat.le_of_ble_eq_true rfl, Nat.le_of_ble_eq_true rfl⟩ hl.1 rfl (Nat.le_of_ble_eq_true rfl) dX9_letter_58 h (fun r7 τ H locs Z h => ?_)
            refine lv_iload C.1.1 C.1.2.1 dX9_letter_61 (lv_at hl 5 rfl) ?_
            refine yy_cSi0 (As := [.int r7, .int x4]) (rest := [])  C Z (ss_X9_letterIn l D κ ext r7 x4) tw_585 kw_X9_letterIn ⟨⟨rfl, rfl⟩, ⟨Nat.le_of_ble_eq_true rfl, Nat.le_of_ble_eq_true rfl⟩, Nat.le_of_ble_eq_true rfl, Nat.le_of_ble_eq_true rfl⟩ hl.1 rfl (Nat.le_of_ble_eq_true rfl) dX9_letter_63 h (fun r8 τ H locs Z h => ?_)
            refine lv_goto (tgt := 70) C.1.1 C.1.2.1 dX9_letter_66 (by decide) ?_
            exact yy_iret C Z hr hlk rfl dX9_letter_70 h
      · refine lv_iload C.1.1 C.1.2.1 dX9_letter_36 (lv_at hl 0 rfl) ?_
        exact yy_iret C Z hr hlk rfl dX9_letter_38 h
    · refine lv_iconst (v := (-1)) C.1.1 C.1.2.1 dX9_letter_28 (by decide) ?_
      exact yy_iret C Z hr hlk rfl dX9_letter_29 h
  · refine lv_iconst (v := (-1)) C.1.1 C.1.2.1 dX9_letter_9 (by decide) ?_
    exact yy_iret C Z hr hlk rfl dX9_letter_10 h
set_option maxHeartbeats 4000000 in
set_option maxRecDepth 100000 in
theorem ss_X9_letter (l : Launch) (D : va_G) (κ : Nat → Nat) (ext : va_W) (x1 : Int32) (x2 : Int32) (x3 : Int32) (x4 : Int32) : yy_Mi l D κ ext yX9_letter cX9_letter 6 (some .int) rm_X9_letter 0 0 [.ref (κ 4 + 0), .int x1, .int x2, .int x3, .int x4] (mm_X9_letter x1 x2 x3 x4) := by
  intro sz τ res h
  refine yy_ofW (by decide) (Nat.le_of_ble_eq_true rfl) ?_
  intro p e s m args below meth c ls hsz E
  obtain ⟨C, hr, hlk, Z, hl⟩ := E
  subst hsz
  exact ww_X9_letter_E  C hr hlk Z hl h
/-! MovedLines.block(II)I -/
noncomputable def mm_X9_block (x1 : Int32) (x2 : Int32) : yy_M Int32 :=
  yy_cl (mm_X9_compared ) (fun r1 => yy_br (x1 < 0) (yy_rt ((-1))) (yy_rF r1 7 fun v3 => yy_br (x1 < v3) (yy_br (x2 = 0) (yy_rA (r1 + 11) 14 x1 fun v4 => yy_rt v4) (yy_br (x2 = 1) (yy_rA (r1 + 12) 14 x1 fun v5 => yy_rt v5) (yy_br (x2 = 2) (yy_rA (r1 + 13) 14 x1 fun v6 => yy_rt v6) (yy_rt ((-1)))))) (yy_rt ((-1)))))
theorem kw_X9_block : yy_wV RX9 yX9_block cX9_block 4 (some .int) 2 := ⟨⟨tw_587, tw_588, tw_51, tw_589⟩, by decide +kernel⟩
abbrev rm_X9_block : Room := { frames := 7, cells := 0, slots := 0, locals := 190 }
set_option maxHeartbeats 4000000 in
set_option maxRecDepth 100000 in
theorem ww_X9_block_E {x1 : Int32} {x2 : Int32} {res : Int32 × yy_T} (C : yy_C D κ p m c cX9_block 4 s args RX9) (hr : meth.sig.returnType = (some .int)) (hlk : meth.locks = false) (Z : yy_Z D κ ext A s.heap τ H locs) (hl : lv_has ls 4 [(0, .ref (κ 4 + 0)), (1, .int x1), (2, .int x2)]) (h : mm_X9_block x1 x2 τ = some res) : W p l e rm_X9_block s m args below meth c H locs 0 0 (MQ below (yy_Qi D κ ext A res) args s 0 0 A) (F0 m 0 ls []) := by
  unfold mm_X9_block at h
  refine lv_aload_n C.1.1 C.1.2.1 dX9_block_0 rfl (lv_at hl 0 rfl) ?_
  refine yy_cVr0 (As := []) (rest := []) (id := 0) (ci := 9) (q := (RX9, TX9, 11)) C Z (ss_X9_compared l D κ ext ) (by decide) (yy_ent_0 _) rfl tw_439 kw_X9_compared ⟨⟨rfl, rfl⟩, ⟨Nat.le_of_ble_eq_true rfl, Nat.le_of_ble_eq_true rfl⟩, Nat.le_of_ble_eq_true rfl, Nat.le_of_ble_eq_true rfl⟩ hl.1 rfl (Nat.le_of_ble_eq_true rfl) dX9_block_1 h (fun r1 τ H locs hp2 Z h => ?_)
  refine lv_astore_n (lv' := [(3, .ref (κ 4 + r1)), (0, .ref (κ 4 + 0)), (1, .int x1), (2, .int x2)]) C.1.1 C.1.2.1 dX9_block_4 rfl hl (by decide) rfl (fun ls hl => ?_)
  refine lv_iload_n C.1.1 C.1.2.1 dX9_block_5 rfl (lv_at hl 2 rfl) ?_
  refine yy_if_lt (tgt := 17) C dX9_block_6 (by decide) h (fun h => ?_) (fun h => ?_)
  · refine lv_iconst (v := (-1)) C.1.1 C.1.2.1 dX9_block_17 (by decide) ?_
    exact yy_iret C Z hr hlk rfl dX9_block_18 h
  · refine lv_iload_n C.1.1 C.1.2.1 dX9_block_9 rfl (lv_at hl 2 rfl) ?_
    refine lv_aload_n C.1.1 C.1.2.1 dX9_block_10 rfl (lv_at hl 0 rfl) ?_
    refine yg_X8_7 C Z hp2 tw_298 dX9_block_11 h (fun v3 h => ?_)
    refine yy_icmp_lt (tgt := 19) C dX9_block_14 (by decide) h (fun h => ?_) (fun h => ?_)
    · refine lv_iload_n C.1.1 C.1.2.1 dX9_block_19 rfl (lv_at hl 3 rfl) ?_
      rcases yy_br_of h with ⟨hc0, h⟩ | ⟨hc0, h⟩
      · refine lv_tableIn (off := 28) (tgt := 48) C.1.1 C.1.2.1 dX9_block_20 (by rw [hc0]; decide) (by rw [hc0]; decide) (by rw [hc0]; rfl) (by decide) ?_
        refine lv_aload_n C.1.1 C.1.2.1 dX9_block_48 rfl (lv_at hl 0 rfl) ?_
        refine yg_X8_4 C Z hp2 tw_292 dX9_block_49 ?_
        refine lv_iload_n C.1.1 C.1.2.1 dX9_block_52 rfl (lv_at hl 2 rfl) ?_
        refine yy_iald C Z (yy_D11 _ hp2) (yy_lenD11 _ hp2) dX9_block_53 h (fun v4 h => ?_)
        exact yy_iret C Z hr hlk rfl dX9_block_54 h
      · rcases yy_br_of h with ⟨hc1, h⟩ | ⟨hc1, h⟩
        · refine lv_tableIn (off := 35) (tgt := 55) C.1.1 C.1.2.1 dX9_block_20 (by rw [hc1]; decide) (by rw [hc1]; decide) (by rw [hc1]; rfl) (by decide) ?_
          refine lv_aload_n C.1.1 C.1.2.1 dX9_block_55 rfl (lv_at hl 0 rfl) ?_
          refine yg_X8_5 C Z hp2 tw_294 dX9_block_56 ?_
          refine lv_iload_n C.1.1 C.1.2.1 dX9_block_59 rfl (lv_at hl 2 rfl) ?_
          refine yy_iald C Z (yy_D12 _ hp2) (yy_lenD12 _ hp2) dX9_block_60 h (fun v5 h => ?_)
          exact yy_iret C Z hr hlk rfl dX9_block_61 h
        · rcases yy_br_of h with ⟨hc2, h⟩ | ⟨hc2, h⟩
          · refine lv_tableIn (off := 42) (tgt := 62) C.1.1 C.1.2.1 dX9_block_20 (by rw [hc2]; decide) (by rw [hc2]; decide) (by rw [hc2]; rfl) (by decide) ?_
            refine lv_aload_n C.1.1 C.1.2.1 dX9_block_62 rfl (lv_at hl 0 rfl) ?_
            refine yg_X8_6 C Z hp2 tw_296 dX9_block_63 ?_
            refine lv_iload_n C.1.1 C.1.2.1 dX9_block_66 rfl (lv_at hl 2 rfl) ?_
            refine yy_iald C Z (yy_D13 _ hp2) (yy_lenD13 _ hp2) dX9_block_67 h (fun v6 h => ?_)
            exact yy_iret C Z hr hlk rfl dX9_block_68 h
          · refine lv_tableOut (tgt := 69) C.1.1 C.1.2.1 dX9_block_20 (yy_out 3 (fun k hk => by rcases (show k = 0 ∨ k = 1 ∨ k = 2 by omega) with rfl | rfl | rfl <;> assumption)) (by decide) ?_
            refine lv_iconst (v := (-1)) C.1.1 C.1.2.1 dX9_block_69 (by decide) ?_
            exact yy_iret C Z hr hlk rfl dX9_block_70 h
    · refine lv_iconst (v := (-1)) C.1.1 C.1.2.1 dX9_block_17 (by decide) ?_
      exact yy_iret C Z hr hlk rfl dX9_block_18 h
set_option maxHeartbeats 4000000 in
set_option maxRecDepth 100000 in
theorem ss_X9_block (l : Launch) (D : va_G) (κ : Nat → Nat) (ext : va_W) (x1 : Int32) (x2 : Int32) : yy_Mi l D κ ext yX9_block cX9_block 4 (some .int) rm_X9_block 0 0 [.ref (κ 4 + 0), .int x1, .int x2] (mm_X9_block x1 x2) := by
  intro sz τ res h
  refine yy_ofW (by decide) (Nat.le_of_ble_eq_true rfl) ?_
  intro p e s m args below meth c ls hsz E
  obtain ⟨C, hr, hlk, Z, hl⟩ := E
  subst hsz
  exact ww_X9_block_E  C hr hlk Z hl h
/-! MovedLines.measureWords(II)I -/
noncomputable def mm_X9_measureWords (x1 : Int32) (x2 : Int32) : yy_M Int32 :=
  yy_cl (mm_X2_sizeOf 7 x1) (fun r1 => yy_cl (mm_X0_setFirst 80 (7 + 2) (x1 * 8) r1) (fun _ => yy_cl (mm_X2_sizeOf 10 x2) (fun r2 => yy_cl (mm_X0_setSecond 80 (10 + 2) (x2 * 8) r2) (fun _ => yy_cl (mm_X0_measure 80) (fun r3 => yy_rt r3)))))
theorem kw_X9_measureWords : yy_wV RX9 yX9_measureWords cX9_measureWords 3 (some .int) 2 := ⟨⟨tw_596, tw_18, tw_51, tw_597⟩, by decide +kernel⟩
abbrev rm_X9_measureWords : Room := { frames := 3, cells := 0, slots := 0, locals := 94 }
set_option maxHeartbeats 4000000 in
set_option maxRecDepth 100000 in
theorem ww_X9_measureWords_E {x1 : Int32} {x2 : Int32} {res : Int32 × yy_T} (C : yy_C D κ p m c cX9_measureWords 3 s args RX9) (hr : meth.sig.returnType = (some .int)) (hlk : meth.locks = false) (Z : yy_Z D κ ext A s.heap τ H locs) (hl : lv_has ls 3 [(0, .ref (κ 4 + 0)), (1, .int x1), (2, .int x2)]) (h : mm_X9_measureWords x1 x2 τ = some res) : W p l e rm_X9_measureWords s m args below meth c H locs 0 0 (MQ below (yy_Qi D κ ext A res) args s 0 0 A) (F0 m 0 ls []) := by
  unfold mm_X9_measureWords at h
  refine lv_aload_n C.1.1 C.1.2.1 dX9_measureWords_0 rfl (lv_at hl 0 rfl) ?_
  refine yg_X9_7 C Z tw_338 dX9_measureWords_1 ?_
  refine lv_aload_n C.1.1 C.1.2.1 dX9_measureWords_4 rfl (lv_at hl 0 rfl) ?_
  refine yg_X9_2 C Z tw_333 dX9_measureWords_5 ?_
  refine yg_X2_1 C Z (by decide) tw_110 dX9_measureWords_8 ?_
  refine lv_iload_n C.1.1 C.1.2.1 dX9_measureWords_11 rfl (lv_at hl 1 rfl) ?_
  refine lv_bipush (v := 8) C.1.1 C.1.2.1 dX9_measureWords_12 (by decide) ?_
  refine lv_imul C.1.1 C.1.2.1 dX9_measureWords_14 ?_
  refine lv_aload_n C.1.1 C.1.2.1 dX9_measureWords_15 rfl (lv_at hl 0 rfl) ?_
  refine yg_X9_2 C Z tw_333 dX9_measureWords_16 ?_
  refine lv_iload_n C.1.1 C.1.2.1 dX9_measureWords_19 rfl (lv_at hl 1 rfl) ?_
  refine yy_cVi0 (As := [.int x1]) (rest := [.int (x1 * 8), .ref (κ 4 + (7 + 2)), .ref (κ 4 + 80)]) (id := 7) (ci := 2) (q := (RX2, TX2, 3)) C Z (ss_X2_sizeOf l D κ ext 7 x1 (by decide)) (yy_Eds_lt _ (by decide)) (yy_ent_Eds (by decide) _) rfl tw_598 kw_X2_sizeOf ⟨⟨rfl, rfl⟩, ⟨Nat.le_of_ble_eq_true rfl, Nat.le_of_ble_eq_true rfl⟩, Nat.le_of_ble_eq_true rfl, Nat.le_of_ble_eq_true rfl⟩ hl.1 rfl (Nat.le_of_ble_eq_true rfl) dX9_measureWords_20 h (fun r1 τ H locs Z h => ?_)
  refine yy_cVv0 (As := [.ref (κ 4 + (7 + 2)), .int (x1 * 8), .int r1]) (rest := []) (id := 80) (ci := 0) (q := (RX0, TX0, 5)) C Z (ss_X0_setFirst l D κ ext 80 (7 + 2) (x1 * 8) r1 (by decide) (yy_E2 _ (by decide))) (yy_Crs_lt _ (by decide)) (yy_ent_Crs (by decide) _) rfl tw_599 kw_X0_setFirst ⟨⟨rfl, rfl⟩, ⟨Nat.le_of_ble_eq_true rfl, Nat.le_of_ble_eq_true rfl⟩, Nat.le_of_ble_eq_true rfl, Nat.le_of_ble_eq_true rfl⟩ hl.1 rfl (Nat.le_of_ble_eq_true rfl) dX9_measureWords_23 h (fun τ H locs Z h => ?_)
  refine lv_aload_n C.1.1 C.1.2.1 dX9_measureWords_26 rfl (lv_at hl 0 rfl) ?_
  refine yg_X9_7 C Z tw_338 dX9_measureWords_27 ?_
  refine lv_aload_n C.1.1 C.1.2.1 dX9_measureWords_30 rfl (lv_at hl 0 rfl) ?_
  refine yg_X9_3 C Z tw_334 dX9_measureWords_31 ?_
  refine yg_X2_1 C Z (by decide) tw_110 dX9_measureWords_34 ?_
  refine lv_iload_n C.1.1 C.1.2.1 dX9_measureWords_37 rfl (lv_at hl 2 rfl) ?_
  refine lv_bipush (v := 8) C.1.1 C.1.2.1 dX9_measureWords_38 (by decide) ?_
  refine lv_imul C.1.1 C.1.2.1 dX9_measureWords_40 ?_
  refine lv_aload_n C.1.1 C.1.2.1 dX9_measureWords_41 rfl (lv_at hl 0 rfl) ?_
  refine yg_X9_3 C Z tw_334 dX9_measureWords_42 ?_
  refine lv_iload_n C.1.1 C.1.2.1 dX9_measureWords_45 rfl (lv_at hl 2 rfl) ?_
  refine yy_cVi0 (As := [.int x2]) (rest := [.int (x2 * 8), .ref (κ 4 + (10 + 2)), .ref (κ 4 + 80)]) (id := 10) (ci := 2) (q := (RX2, TX2, 3)) C Z (ss_X2_sizeOf l D κ ext 10 x2 (by decide)) (yy_Eds_lt _ (by decide)) (yy_ent_Eds (by decide) _) rfl tw_598 kw_X2_sizeOf ⟨⟨rfl, rfl⟩, ⟨Nat.le_of_ble_eq_true rfl, Nat.le_of_ble_eq_true rfl⟩, Nat.le_of_ble_eq_true rfl, Nat.le_of_ble_eq_true rfl⟩ hl.1 rfl (Nat.le_of_ble_eq_true rfl) dX9_measureWords_46 h (fun r2 τ H locs Z h => ?_)
  refine yy_cVv0 (As := [.ref (κ 4 + (10 + 2)), .int (x2 * 8), .int r2]) (rest := []) (id := 80) (ci := 0) (q := (RX0, TX0, 5)) C Z (ss_X0_setSecond l D κ ext 80 (10 + 2) (x2 * 8) r2 (by decide) (yy_E2 _ (by decide))) (yy_Crs_lt _ (by decide)) (yy_ent_Crs (by decide) _) rfl tw_600 kw_X0_setSecond ⟨⟨rfl, rfl⟩, ⟨Nat.le_of_ble_eq_true rfl, Nat.le_of_ble_eq_true rfl⟩, Nat.le_of_ble_eq_true rfl, Nat.le_of_ble_eq_true rfl⟩ hl.1 rfl (Nat.le_of_ble_eq_true rfl) dX9_measureWords_49 h (fun τ H locs Z h => ?_)
  refine lv_aload_n C.1.1 C.1.2.1 dX9_measureWords_52 rfl (lv_at hl 0 rfl) ?_
  refine yg_X9_7 C Z tw_338 dX9_measureWords_53 ?_
  refine yy_cVi0 (As := []) (rest := []) (id := 80) (ci := 0) (q := (RX0, TX0, 5)) C Z (ss_X0_measure l D κ ext 80 (by decide)) (yy_Crs_lt _ (by decide)) (yy_ent_Crs (by decide) _) rfl tw_601 kw_X0_measure ⟨⟨rfl, rfl⟩, ⟨Nat.le_of_ble_eq_true rfl, Nat.le_of_ble_eq_true rfl⟩, Nat.le_of_ble_eq_true rfl, Nat.le_of_ble_eq_true rfl⟩ hl.1 rfl (Nat.le_of_ble_eq_true rfl) dX9_measureWords_56 h (fun r3 τ H locs Z h => ?_)
  exact yy_iret C Z hr hlk rfl dX9_measureWords_59 h
set_option maxHeartbeats 4000000 in
set_option maxRecDepth 100000 in
theorem ss_X9_measureWords (l : Launch) (D : va_G) (κ : Nat → Nat) (ext : va_W) (x1 : Int32) (x2 : Int32) : yy_Mi l D κ ext yX9_measureWords cX9_measureWords 3 (some .int) rm_X9_measureWords 0 0 [.ref (κ 4 + 0), .int x1, .int x2] (mm_X9_measureWords x1 x2) := by
  intro sz τ res h
  refine yy_ofW (by decide) (Nat.le_of_ble_eq_true rfl) ?_
  intro p e s m args below meth c ls hsz E
  obtain ⟨C, hr, hlk, Z, hl⟩ := E
  subst hsz
  exact ww_X9_measureWords_E  C hr hlk Z hl h
/-! MovedLines.shared(II)I -/
noncomputable def mm_X9_shared (x1 : Int32) (x2 : Int32) : yy_M Int32 :=
  yy_cl (mm_X9_hasLine 0 x1) (fun r1 => yy_br (r1 = 0) (yy_rt ((-1))) (yy_cl (mm_X9_hasLine 1 x2) (fun r2 => yy_br (r2 = 0) (yy_rt ((-1))) (yy_cl (mm_X9_measureWords x1 x2) (fun r3 => yy_rt r3)))))
theorem kw_X9_shared : yy_wV RX9 yX9_shared cX9_shared 3 (some .int) 2 := ⟨⟨tw_591, tw_592, tw_51, tw_593⟩, by decide +kernel⟩
abbrev rm_X9_shared : Room := { frames := 4, cells := 0, slots := 0, locals := 116 }
set_option maxHeartbeats 4000000 in
set_option maxRecDepth 100000 in
theorem ww_X9_shared_E {x1 : Int32} {x2 : Int32} {res : Int32 × yy_T} (C : yy_C D κ p m c cX9_shared 3 s args RX9) (hr : meth.sig.returnType = (some .int)) (hlk : meth.locks = false) (Z : yy_Z D κ ext A s.heap τ H locs) (hl : lv_has ls 3 [(0, .ref (κ 4 + 0)), (1, .int x1), (2, .int x2)]) (h : mm_X9_shared x1 x2 τ = some res) : W p l e rm_X9_shared s m args below meth c H locs 0 0 (MQ below (yy_Qi D κ ext A res) args s 0 0 A) (F0 m 0 ls []) := by
  unfold mm_X9_shared at h
  refine lv_aload_n C.1.1 C.1.2.1 dX9_shared_0 rfl (lv_at hl 0 rfl) ?_
  refine lv_iconst (v := 0) C.1.1 C.1.2.1 dX9_shared_1 (by decide) ?_
  refine lv_iload_n C.1.1 C.1.2.1 dX9_shared_2 rfl (lv_at hl 1 rfl) ?_
  refine yy_cVi0 (As := [.int 0, .int x1]) (rest := []) (id := 0) (ci := 9) (q := (RX9, TX9, 11)) C Z (ss_X9_hasLine l D κ ext 0 x1) (by decide) (yy_ent_0 _) rfl tw_567 kw_X9_hasLine ⟨⟨rfl, rfl⟩, ⟨Nat.le_of_ble_eq_true rfl, Nat.le_of_ble_eq_true rfl⟩, Nat.le_of_ble_eq_true rfl, Nat.le_of_ble_eq_true rfl⟩ hl.1 rfl (Nat.le_of_ble_eq_true rfl) dX9_shared_3 h (fun r1 τ H locs Z h => ?_)
  refine yy_if_eq (tgt := 18) C dX9_shared_6 (by decide) h (fun h => ?_) (fun h => ?_)
  · refine lv_iconst (v := (-1)) C.1.1 C.1.2.1 dX9_shared_18 (by decide) ?_
    exact yy_iret C Z hr hlk rfl dX9_shared_19 h
  · refine lv_aload_n C.1.1 C.1.2.1 dX9_shared_9 rfl (lv_at hl 0 rfl) ?_
    refine lv_iconst (v := 1) C.1.1 C.1.2.1 dX9_shared_10 (by decide) ?_
    refine lv_iload_n C.1.1 C.1.2.1 dX9_shared_11 rfl (lv_at hl 2 rfl) ?_
    refine yy_cVi0 (As := [.int 1, .int x2]) (rest := []) (id := 0) (ci := 9) (q := (RX9, TX9, 11)) C Z (ss_X9_hasLine l D κ ext 1 x2) (by decide) (yy_ent_0 _) rfl tw_567 kw_X9_hasLine ⟨⟨rfl, rfl⟩, ⟨Nat.le_of_ble_eq_true rfl, Nat.le_of_ble_eq_true rfl⟩, Nat.le_of_ble_eq_true rfl, Nat.le_of_ble_eq_true rfl⟩ hl.1 rfl (Nat.le_of_ble_eq_true rfl) dX9_shared_12 h (fun r2 τ H locs Z h => ?_)
    refine yy_if_ne (tgt := 20) C dX9_shared_15 (by decide) h (fun h => ?_) (fun h => ?_)
    · refine lv_aload_n C.1.1 C.1.2.1 dX9_shared_20 rfl (lv_at hl 0 rfl) ?_
      refine lv_iload_n C.1.1 C.1.2.1 dX9_shared_21 rfl (lv_at hl 1 rfl) ?_
      refine lv_iload_n C.1.1 C.1.2.1 dX9_shared_22 rfl (lv_at hl 2 rfl) ?_
      refine yy_cVi0 (As := [.int x1, .int x2]) (rest := []) (id := 0) (ci := 9) (q := (RX9, TX9, 11)) C Z (ss_X9_measureWords l D κ ext x1 x2) (by decide) (yy_ent_0 _) rfl tw_594 kw_X9_measureWords ⟨⟨rfl, rfl⟩, ⟨Nat.le_of_ble_eq_true rfl, Nat.le_of_ble_eq_true rfl⟩, Nat.le_of_ble_eq_true rfl, Nat.le_of_ble_eq_true rfl⟩ hl.1 rfl (Nat.le_of_ble_eq_true rfl) dX9_shared_23 h (fun r3 τ H locs Z h => ?_)
      exact yy_iret C Z hr hlk rfl dX9_shared_26 h
    · refine lv_iconst (v := (-1)) C.1.1 C.1.2.1 dX9_shared_18 (by decide) ?_
      exact yy_iret C Z hr hlk rfl dX9_shared_19 h
set_option maxHeartbeats 4000000 in
set_option maxRecDepth 100000 in
theorem ss_X9_shared (l : Launch) (D : va_G) (κ : Nat → Nat) (ext : va_W) (x1 : Int32) (x2 : Int32) : yy_Mi l D κ ext yX9_shared cX9_shared 3 (some .int) rm_X9_shared 0 0 [.ref (κ 4 + 0), .int x1, .int x2] (mm_X9_shared x1 x2) := by
  intro sz τ res h
  refine yy_ofW (by decide) (Nat.le_of_ble_eq_true rfl) ?_
  intro p e s m args below meth c ls hsz E
  obtain ⟨C, hr, hlk, Z, hl⟩ := E
  subst hsz
  exact ww_X9_shared_E  C hr hlk Z hl h
/-! MovedLines.stays(III)I -/
noncomputable def mm_X9_stays (x1 : Int32) (x2 : Int32) (x3 : Int32) : yy_M Int32 :=
  yy_cl (mm_X9_hasLine 0 x1) (fun r1 => yy_br (r1 = 0) (yy_rt ((-1))) (yy_cl (mm_X9_hasLine 1 x3) (fun r2 => yy_br (r2 = 0) (yy_rt ((-1))) (yy_cl (mm_X9_measureWords x1 x3) (fun r3 => yy_cl (mm_X0_partnerOf 80 x2) (fun r4 => yy_rt r4))))))
theorem kw_X9_stays : yy_wV RX9 yX9_stays cX9_stays 4 (some .int) 3 := ⟨⟨tw_603, tw_604, tw_51, tw_605⟩, by decide +kernel⟩
abbrev rm_X9_stays : Room := { frames := 4, cells := 0, slots := 0, locals := 116 }
set_option maxHeartbeats 4000000 in
set_option maxRecDepth 100000 in
theorem ww_X9_stays_E {x1 : Int32} {x2 : Int32} {x3 : Int32} {res : Int32 × yy_T} (C : yy_C D κ p m c cX9_stays 4 s args RX9) (hr : meth.sig.returnType = (some .int)) (hlk : meth.locks = false) (Z : yy_Z D κ ext A s.heap τ H locs) (hl : lv_has ls 4 [(0, .ref (κ 4 + 0)), (1, .int x1), (2, .int x2), (3, .int x3)]) (h : mm_X9_stays x1 x2 x3 τ = some res) : W p l e rm_X9_stays s m args below meth c H locs 0 0 (MQ below (yy_Qi D κ ext A res) args s 0 0 A) (F0 m 0 ls []) := by
  unfold mm_X9_stays at h
  refine lv_aload_n C.1.1 C.1.2.1 dX9_stays_0 rfl (lv_at hl 0 rfl) ?_
  refine lv_iconst (v := 0) C.1.1 C.1.2.1 dX9_stays_1 (by decide) ?_
  refine lv_iload_n C.1.1 C.1.2.1 dX9_stays_2 rfl (lv_at hl 1 rfl) ?_
  refine yy_cVi0 (As := [.int 0, .int x1]) (rest := []) (id := 0) (ci := 9) (q := (RX9, TX9, 11)) C Z (ss_X9_hasLine l D κ ext 0 x1) (by decide) (yy_ent_0 _) rfl tw_567 kw_X9_hasLine ⟨⟨rfl, rfl⟩, ⟨Nat.le_of_ble_eq_true rfl, Nat.le_of_ble_eq_true rfl⟩, Nat.le_of_ble_eq_true rfl, Nat.le_of_ble_eq_true rfl⟩ hl.1 rfl (Nat.le_of_ble_eq_true rfl) dX9_stays_3 h (fun r1 τ H locs Z h => ?_)
  refine yy_if_eq (tgt := 18) C dX9_stays_6 (by decide) h (fun h => ?_) (fun h => ?_)
  · refine lv_iconst (v := (-1)) C.1.1 C.1.2.1 dX9_stays_18 (by decide) ?_
    exact yy_iret C Z hr hlk rfl dX9_stays_19 h
  · refine lv_aload_n C.1.1 C.1.2.1 dX9_stays_9 rfl (lv_at hl 0 rfl) ?_
    refine lv_iconst (v := 1) C.1.1 C.1.2.1 dX9_stays_10 (by decide) ?_
    refine lv_iload_n C.1.1 C.1.2.1 dX9_stays_11 rfl (lv_at hl 3 rfl) ?_
    refine yy_cVi0 (As := [.int 1, .int x3]) (rest := []) (id := 0) (ci := 9) (q := (RX9, TX9, 11)) C Z (ss_X9_hasLine l D κ ext 1 x3) (by decide) (yy_ent_0 _) rfl tw_567 kw_X9_hasLine ⟨⟨rfl, rfl⟩, ⟨Nat.le_of_ble_eq_true rfl, Nat.le_of_ble_eq_true rfl⟩, Nat.le_of_ble_eq_true rfl, Nat.le_of_ble_eq_true rfl⟩ hl.1 rfl (Nat.le_of_ble_eq_true rfl) dX9_stays_12 h (fun r2 τ H locs Z h => ?_)
    refine yy_if_ne (tgt := 20) C dX9_stays_15 (by decide) h (fun h => ?_) (fun h => ?_)
    · refine lv_aload_n C.1.1 C.1.2.1 dX9_stays_20 rfl (lv_at hl 0 rfl) ?_
      refine lv_iload_n C.1.1 C.1.2.1 dX9_stays_21 rfl (lv_at hl 1 rfl) ?_
      refine lv_iload_n C.1.1 C.1.2.1 dX9_stays_22 rfl (lv_at hl 3 rfl) ?_
      refine yy_cVi0 (As := [.int x1, .int x3]) (rest := []) (id := 0) (ci := 9) (q := (RX9, TX9, 11)) C Z (ss_X9_measureWords l D κ ext x1 x3) (by decide) (yy_ent_0 _) rfl tw_594 kw_X9_measureWords ⟨⟨rfl, rfl⟩, ⟨Nat.le_of_ble_eq_true rfl, Nat.le_of_ble_eq_true rfl⟩, Nat.le_of_ble_eq_true rfl, Nat.le_of_ble_eq_true rfl⟩ hl.1 rfl (Nat.le_of_ble_eq_true rfl) dX9_stays_23 h (fun r3 τ H locs Z h => ?_)
      refine lv_pop C.1.1 C.1.2.1 dX9_stays_26 rfl ?_
      refine lv_aload_n C.1.1 C.1.2.1 dX9_stays_27 rfl (lv_at hl 0 rfl) ?_
      refine yg_X9_7 C Z tw_338 dX9_stays_28 ?_
      refine lv_iload_n C.1.1 C.1.2.1 dX9_stays_31 rfl (lv_at hl 2 rfl) ?_
      refine yy_cVi0 (As := [.int x2]) (rest := []) (id := 80) (ci := 0) (q := (RX0, TX0, 5)) C Z (ss_X0_partnerOf l D κ ext 80 x2 (by decide)) (yy_Crs_lt _ (by decide)) (yy_ent_Crs (by decide) _) rfl tw_606 kw_X0_partnerOf ⟨⟨rfl, rfl⟩, ⟨Nat.le_of_ble_eq_true rfl, Nat.le_of_ble_eq_true rfl⟩, Nat.le_of_ble_eq_true rfl, Nat.le_of_ble_eq_true rfl⟩ hl.1 rfl (Nat.le_of_ble_eq_true rfl) dX9_stays_32 h (fun r4 τ H locs Z h => ?_)
      exact yy_iret C Z hr hlk rfl dX9_stays_35 h
    · refine lv_iconst (v := (-1)) C.1.1 C.1.2.1 dX9_stays_18 (by decide) ?_
      exact yy_iret C Z hr hlk rfl dX9_stays_19 h
set_option maxHeartbeats 4000000 in
set_option maxRecDepth 100000 in
theorem ss_X9_stays (l : Launch) (D : va_G) (κ : Nat → Nat) (ext : va_W) (x1 : Int32) (x2 : Int32) (x3 : Int32) : yy_Mi l D κ ext yX9_stays cX9_stays 4 (some .int) rm_X9_stays 0 0 [.ref (κ 4 + 0), .int x1, .int x2, .int x3] (mm_X9_stays x1 x2 x3) := by
  intro sz τ res h
  refine yy_ofW (by decide) (Nat.le_of_ble_eq_true rfl) ?_
  intro p e s m args below meth c ls hsz E
  obtain ⟨C, hr, hlk, Z, hl⟩ := E
  subst hsz
  exact ww_X9_stays_E  C hr hlk Z hl h
/-! MovedLines.most()I -/
noncomputable def mm_X9_most : yy_M Int32 :=
  yy_cl (mm_X1_mostLines 7 10) (fun r1 => yy_rt r1)
theorem kw_X9_most : yy_wV RX9 yX9_most cX9_most 1 (some .int) 0 := ⟨⟨tw_615, tw_616, tw_51, tw_617⟩, by decide +kernel⟩
abbrev rm_X9_most : Room := { frames := 5, cells := 0, slots := 0, locals := 116 }
set_option maxHeartbeats 4000000 in
set_option maxRecDepth 100000 in
theorem ww_X9_most_E {res : Int32 × yy_T} (C : yy_C D κ p m c cX9_most 1 s args RX9) (hr : meth.sig.returnType = (some .int)) (hlk : meth.locks = false) (Z : yy_Z D κ ext A s.heap τ H locs) (hl : lv_has ls 1 [(0, .ref (κ 4 + 0))]) (h : mm_X9_most  τ = some res) : W p l e rm_X9_most s m args below meth c H locs 0 0 (MQ below (yy_Qi D κ ext A res) args s 0 0 A) (F0 m 0 ls []) := by
  unfold mm_X9_most at h
  refine lv_aload_n C.1.1 C.1.2.1 dX9_most_0 rfl (lv_at hl 0 rfl) ?_
  refine yg_X9_6 C Z tw_337 dX9_most_1 ?_
  refine lv_aload_n C.1.1 C.1.2.1 dX9_most_4 rfl (lv_at hl 0 rfl) ?_
  refine yg_X9_2 C Z tw_333 dX9_most_5 ?_
  refine lv_aload_n C.1.1 C.1.2.1 dX9_most_8 rfl (lv_at hl 0 rfl) ?_
  refine yg_X9_3 C Z tw_334 dX9_most_9 ?_
  refine yy_cVi0 (As := [.ref (κ 4 + 7), .ref (κ 4 + 10)]) (rest := []) (id := 49) (ci := 1) (q := (RX1, TX1, 4)) C Z (ss_X1_mostLines l D κ ext 7 10 (by decide) (by decide)) (by decide) (yy_ent_49 _) rfl tw_618 kw_X1_mostLines ⟨⟨rfl, rfl⟩, ⟨Nat.le_of_ble_eq_true rfl, Nat.le_of_ble_eq_true rfl⟩, Nat.le_of_ble_eq_true rfl, Nat.le_of_ble_eq_true rfl⟩ hl.1 rfl (Nat.le_of_ble_eq_true rfl) dX9_most_12 h (fun r1 τ H locs Z h => ?_)
  exact yy_iret C Z hr hlk rfl dX9_most_15 h
set_option maxHeartbeats 4000000 in
set_option maxRecDepth 100000 in
theorem ss_X9_most (l : Launch) (D : va_G) (κ : Nat → Nat) (ext : va_W) : yy_Mi l D κ ext yX9_most cX9_most 1 (some .int) rm_X9_most 0 0 [.ref (κ 4 + 0)] (mm_X9_most ) := by
  intro sz τ res h
  refine yy_ofW (by decide) (Nat.le_of_ble_eq_true rfl) ?_
  intro p e s m args below meth c ls hsz E
  obtain ⟨C, hr, hlk, Z, hl⟩ := E
  subst hsz
  exact ww_X9_most_E  C hr hlk Z hl h
/-! MovedLines.changes()I -/
noncomputable def mm_X9_changes : yy_M Int32 :=
  yy_cl (mm_X9_compared ) (fun r1 => yy_rF r1 10 fun v3 => yy_rt v3)
theorem kw_X9_changes : yy_wV RX9 yX9_changes cX9_changes 1 (some .int) 0 := ⟨⟨tw_623, tw_624, tw_51, tw_625⟩, by decide +kernel⟩
abbrev rm_X9_changes : Room := { frames := 7, cells := 0, slots := 0, locals := 190 }
set_option maxHeartbeats 4000000 in
set_option maxRecDepth 100000 in
theorem ww_X9_changes_E {res : Int32 × yy_T} (C : yy_C D κ p m c cX9_changes 1 s args RX9) (hr : meth.sig.returnType = (some .int)) (hlk : meth.locks = false) (Z : yy_Z D κ ext A s.heap τ H locs) (hl : lv_has ls 1 [(0, .ref (κ 4 + 0))]) (h : mm_X9_changes  τ = some res) : W p l e rm_X9_changes s m args below meth c H locs 0 0 (MQ below (yy_Qi D κ ext A res) args s 0 0 A) (F0 m 0 ls []) := by
  unfold mm_X9_changes at h
  refine lv_aload_n C.1.1 C.1.2.1 dX9_changes_0 rfl (lv_at hl 0 rfl) ?_
  refine yy_cVr0 (As := []) (rest := []) (id := 0) (ci := 9) (q := (RX9, TX9, 11)) C Z (ss_X9_compared l D κ ext ) (by decide) (yy_ent_0 _) rfl tw_439 kw_X9_compared ⟨⟨rfl, rfl⟩, ⟨Nat.le_of_ble_eq_true rfl, Nat.le_of_ble_eq_true rfl⟩, Nat.le_of_ble_eq_true rfl, Nat.le_of_ble_eq_true rfl⟩ hl.1 rfl (Nat.le_of_ble_eq_true rfl) dX9_changes_1 h (fun r1 τ H locs hp2 Z h => ?_)
  refine yg_X8_10 C Z hp2 tw_307 dX9_changes_4 h (fun v3 h => ?_)
  exact yy_iret C Z hr hlk rfl dX9_changes_7 h
set_option maxHeartbeats 4000000 in
set_option maxRecDepth 100000 in
theorem ss_X9_changes (l : Launch) (D : va_G) (κ : Nat → Nat) (ext : va_W) : yy_Mi l D κ ext yX9_changes cX9_changes 1 (some .int) rm_X9_changes 0 0 [.ref (κ 4 + 0)] (mm_X9_changes ) := by
  intro sz τ res h
  refine yy_ofW (by decide) (Nat.le_of_ble_eq_true rfl) ?_
  intro p e s m args below meth c ls hsz E
  obtain ⟨C, hr, hlk, Z, hl⟩ := E
  subst hsz
  exact ww_X9_changes_E  C hr hlk Z hl h
/-! MovedLines.anchors(I)I -/
noncomputable def mm_X9_anchors (x1 : Int32) : yy_M Int32 :=
  yy_br (x1 = 0) (yy_cl (mm_X9_compared ) (fun r4 => yy_rF r4 8 fun v6 => yy_rt v6)) (yy_br (x1 = 1) (yy_cl (mm_X9_compared ) (fun r1 => yy_rF r1 9 fun v3 => yy_rt v3)) (yy_rt ((-1))))
theorem kw_X9_anchors : yy_wV RX9 yX9_anchors cX9_anchors 2 (some .int) 1 := ⟨⟨tw_627, tw_628, tw_51, tw_629⟩, by decide +kernel⟩
abbrev rm_X9_anchors : Room := { frames := 7, cells := 0, slots := 0, locals := 190 }
set_option maxHeartbeats 4000000 in
set_option maxRecDepth 100000 in
theorem ww_X9_anchors_E {x1 : Int32} {res : Int32 × yy_T} (C : yy_C D κ p m c cX9_anchors 2 s args RX9) (hr : meth.sig.returnType = (some .int)) (hlk : meth.locks = false) (Z : yy_Z D κ ext A s.heap τ H locs) (hl : lv_has ls 2 [(0, .ref (κ 4 + 0)), (1, .int x1)]) (h : mm_X9_anchors x1 τ = some res) : W p l e rm_X9_anchors s m args below meth c H locs 0 0 (MQ below (yy_Qi D κ ext A res) args s 0 0 A) (F0 m 0 ls []) := by
  unfold mm_X9_anchors at h
  refine lv_iload_n C.1.1 C.1.2.1 dX9_anchors_0 rfl (lv_at hl 1 rfl) ?_
  refine yy_if_ne (tgt := 12) C dX9_anchors_1 (by decide) h (fun h => ?_) (fun h => ?_)
  · refine lv_iload_n C.1.1 C.1.2.1 dX9_anchors_12 rfl (lv_at hl 1 rfl) ?_
    refine lv_iconst (v := 1) C.1.1 C.1.2.1 dX9_anchors_13 (by decide) ?_
    refine yy_icmp_ne (tgt := 27) C dX9_anchors_14 (by decide) h (fun h => ?_) (fun h => ?_)
    · refine lv_iconst (v := (-1)) C.1.1 C.1.2.1 dX9_anchors_27 (by decide) ?_
      exact yy_iret C Z hr hlk rfl dX9_anchors_28 h
    · refine lv_aload_n C.1.1 C.1.2.1 dX9_anchors_17 rfl (lv_at hl 0 rfl) ?_
      refine yy_cVr0 (As := []) (rest := []) (id := 0) (ci := 9) (q := (RX9, TX9, 11)) C Z (ss_X9_compared l D κ ext ) (by decide) (yy_ent_0 _) rfl tw_439 kw_X9_compared ⟨⟨rfl, rfl⟩, ⟨Nat.le_of_ble_eq_true rfl, Nat.le_of_ble_eq_true rfl⟩, Nat.le_of_ble_eq_true rfl, Nat.le_of_ble_eq_true rfl⟩ hl.1 rfl (Nat.le_of_ble_eq_true rfl) dX9_anchors_18 h (fun r1 τ H locs hp2 Z h => ?_)
      refine yg_X8_9 C Z hp2 tw_304 dX9_anchors_21 h (fun v3 h => ?_)
      refine lv_goto (tgt := 28) C.1.1 C.1.2.1 dX9_anchors_24 (by decide) ?_
      exact yy_iret C Z hr hlk rfl dX9_anchors_28 h
  · refine lv_aload_n C.1.1 C.1.2.1 dX9_anchors_4 rfl (lv_at hl 0 rfl) ?_
    refine yy_cVr0 (As := []) (rest := []) (id := 0) (ci := 9) (q := (RX9, TX9, 11)) C Z (ss_X9_compared l D κ ext ) (by decide) (yy_ent_0 _) rfl tw_439 kw_X9_compared ⟨⟨rfl, rfl⟩, ⟨Nat.le_of_ble_eq_true rfl, Nat.le_of_ble_eq_true rfl⟩, Nat.le_of_ble_eq_true rfl, Nat.le_of_ble_eq_true rfl⟩ hl.1 rfl (Nat.le_of_ble_eq_true rfl) dX9_anchors_5 h (fun r4 τ H locs hp5 Z h => ?_)
    refine yg_X8_8 C Z hp5 tw_301 dX9_anchors_8 h (fun v6 h => ?_)
    exact yy_iret C Z hr hlk rfl dX9_anchors_11 h
set_option maxHeartbeats 4000000 in
set_option maxRecDepth 100000 in
theorem ss_X9_anchors (l : Launch) (D : va_G) (κ : Nat → Nat) (ext : va_W) (x1 : Int32) : yy_Mi l D κ ext yX9_anchors cX9_anchors 2 (some .int) rm_X9_anchors 0 0 [.ref (κ 4 + 0), .int x1] (mm_X9_anchors x1) := by
  intro sz τ res h
  refine yy_ofW (by decide) (Nat.le_of_ble_eq_true rfl) ?_
  intro p e s m args below meth c ls hsz E
  obtain ⟨C, hr, hlk, Z, hl⟩ := E
  subst hsz
  exact ww_X9_anchors_E  C hr hlk Z hl h
/-! MovedLines.otherThan(I)I -/
noncomputable def mm_X9_otherThan (x0 : Int32) : yy_M Int32 :=
  yy_br (x0 = 0) (yy_rt 1) (yy_rt 0)
theorem kw_X9_otherThan : yy_wS RX9 yX9_otherThan cX9_otherThan 1 (some .int) 1 := ⟨⟨tw_635, tw_51, tw_636⟩, by decide +kernel⟩
abbrev rm_X9_otherThan : Room := { frames := 0, cells := 0, slots := 0, locals := 0 }
set_option maxHeartbeats 4000000 in
set_option maxRecDepth 100000 in
theorem ww_X9_otherThan_E {x0 : Int32} {res : Int32 × yy_T} (C : yy_C D κ p m c cX9_otherThan 1 s args RX9) (hr : meth.sig.returnType = (some .int)) (hlk : meth.locks = false) (Z : yy_Z D κ ext A s.heap τ H locs) (hl : lv_has ls 1 [(0, .int x0)]) (h : mm_X9_otherThan x0 τ = some res) : W p l e rm_X9_otherThan s m args below meth c H locs 0 0 (MQ below (yy_Qi D κ ext A res) args s 0 0 A) (F0 m 0 ls []) := by
  unfold mm_X9_otherThan at h
  refine lv_iload_n C.1.1 C.1.2.1 dX9_otherThan_0 rfl (lv_at hl 0 rfl) ?_
  refine yy_if_ne (tgt := 8) C dX9_otherThan_1 (by decide) h (fun h => ?_) (fun h => ?_)
  · refine lv_iconst (v := 0) C.1.1 C.1.2.1 dX9_otherThan_8 (by decide) ?_
    exact yy_iret C Z hr hlk rfl dX9_otherThan_9 h
  · refine lv_iconst (v := 1) C.1.1 C.1.2.1 dX9_otherThan_4 (by decide) ?_
    refine lv_goto (tgt := 9) C.1.1 C.1.2.1 dX9_otherThan_5 (by decide) ?_
    exact yy_iret C Z hr hlk rfl dX9_otherThan_9 h
set_option maxHeartbeats 4000000 in
set_option maxRecDepth 100000 in
theorem ss_X9_otherThan (l : Launch) (D : va_G) (κ : Nat → Nat) (ext : va_W) (x0 : Int32) : yy_Mi l D κ ext yX9_otherThan cX9_otherThan 1 (some .int) rm_X9_otherThan 0 0 [.int x0] (mm_X9_otherThan x0) := by
  intro sz τ res h
  refine yy_ofW (by decide) (Nat.le_of_ble_eq_true rfl) ?_
  intro p e s m args below meth c ls hsz E
  obtain ⟨C, hr, hlk, Z, hl⟩ := E
  subst hsz
  exact ww_X9_otherThan_E  C hr hlk Z hl h
/-! MovedLines.would(III)I -/
noncomputable def mm_X9_would_87 (t0 : Nat) (t1 : Nat) : yy_M Int32 :=
  yy_cl (mm_X1_compare t1 t0 98) (fun _ => yy_cl (mm_X9_compared ) (fun r9 => yy_cl (mm_X8_differencesFrom r9 98) (fun r11 => yy_rt r11)))
noncomputable def mm_X9_would_71 (x1 : Int32) (t0 : Nat) : yy_M Int32 :=
  yy_br (x1 = 1) (mm_X9_would_87 13 t0) (mm_X9_would_87 10 t0)
noncomputable def mm_X9_would (x1 : Int32) (x2 : Int32) (x3 : Int32) : yy_M Int32 :=
  yy_cl (mm_X9_hasLine x1 x2) (fun r1 => yy_br (r1 = 0) (yy_rt ((-1))) (yy_cl (mm_X9_otherThan x1) (fun r2 => yy_cl (mm_X9_hasLine r2 x3) (fun r3 => yy_br (r3 = 0) (yy_rt ((-1))) (yy_cl (mm_X9_editionOf x1) (fun r4 => yy_cl (mm_X2_copyAll 13 r4) (fun _ => yy_cl (mm_X9_otherThan x1) (fun r6 => yy_cl (mm_X9_editionOf r6) (fun r7 => yy_cl (mm_X2_setLine 13 x2 r7 x3) (fun _ => yy_br (x1 = 0) (mm_X9_would_71 x1 13) (mm_X9_would_71 x1 7)))))))))))
theorem kw_X9_would : yy_wV RX9 yX9_would cX9_would 4 (some .int) 3 := ⟨⟨tw_631, tw_632, tw_51, tw_633⟩, by decide +kernel⟩
abbrev rm_X9_would : Room := { frames := 7, cells := 0, slots := 0, locals := 190 }
set_option maxHeartbeats 4000000 in
set_option maxRecDepth 100000 in
theorem ww_X9_would_87 {t0 : Nat} {t1 : Nat} (ht0 : t0 ∈ yy_Eds) (ht1 : t1 ∈ yy_Eds) {res : Int32 × yy_T} (C : yy_C D κ p m c cX9_would 4 s args RX9) (hr : meth.sig.returnType = (some .int)) (hlk : meth.locks = false) (Z : yy_Z D κ ext A s.heap τ H locs) (hl : lv_has ls 4 [(0, .ref (κ 4 + 0))]) (h : mm_X9_would_87 t0 t1 τ = some res) : W p l e rm_X9_would s m args below meth c H locs 0 0 (MQ below (yy_Qi D κ ext A res) args s 0 0 A) (F0 m 87 ls [.ref (κ 4 + t0), .ref (κ 4 + t1), .ref (κ 4 + 49)]) := by
  unfold mm_X9_would_87 at h
  refine lv_aload_n C.1.1 C.1.2.1 dX9_would_87 rfl (lv_at hl 0 rfl) ?_
  refine yg_X9_9 C Z tw_340 dX9_would_88 ?_
  refine yy_cVv0 (As := [.ref (κ 4 + t1), .ref (κ 4 + t0), .ref (κ 4 + 98)]) (rest := []) (id := 49) (ci := 1) (q := (RX1, TX1, 4)) C Z (ss_X1_compare l D κ ext t1 t0 98 ht1 ht0 (by decide)) (by decide) (yy_ent_49 _) rfl tw_443 kw_X1_compare ⟨⟨rfl, rfl⟩, ⟨Nat.le_of_ble_eq_true rfl, Nat.le_of_ble_eq_true rfl⟩, Nat.le_of_ble_eq_true rfl, Nat.le_of_ble_eq_true rfl⟩ hl.1 rfl (Nat.le_of_ble_eq_true rfl) dX9_would_91 h (fun τ H locs Z h => ?_)
  refine lv_aload_n C.1.1 C.1.2.1 dX9_would_94 rfl (lv_at hl 0 rfl) ?_
  refine yy_cVr0 (As := []) (rest := []) (id := 0) (ci := 9) (q := (RX9, TX9, 11)) C Z (ss_X9_compared l D κ ext ) (by decide) (yy_ent_0 _) rfl tw_439 kw_X9_compared ⟨⟨rfl, rfl⟩, ⟨Nat.le_of_ble_eq_true rfl, Nat.le_of_ble_eq_true rfl⟩, Nat.le_of_ble_eq_true rfl, Nat.le_of_ble_eq_true rfl⟩ hl.1 rfl (Nat.le_of_ble_eq_true rfl) dX9_would_95 h (fun r9 τ H locs hp10 Z h => ?_)
  refine lv_aload_n C.1.1 C.1.2.1 dX9_would_98 rfl (lv_at hl 0 rfl) ?_
  refine yg_X9_9 C Z tw_340 dX9_would_99 ?_
  refine yy_cVi0 (As := [.ref (κ 4 + 98)]) (rest := []) (id := r9) (ci := 8) (q := (RX8, TX8, 11)) C Z (ss_X8_differencesFrom l D κ ext r9 98 hp10 (by decide)) (yy_Tds_lt _ hp10) (yy_ent_Tds hp10 _) rfl tw_638 kw_X8_differencesFrom ⟨⟨rfl, rfl⟩, ⟨Nat.le_of_ble_eq_true rfl, Nat.le_of_ble_eq_true rfl⟩, Nat.le_of_ble_eq_true rfl, Nat.le_of_ble_eq_true rfl⟩ hl.1 rfl (Nat.le_of_ble_eq_true rfl) dX9_would_102 h (fun r11 τ H locs Z h => ?_)
  exact yy_iret C Z hr hlk rfl dX9_would_105 h
set_option maxHeartbeats 4000000 in
set_option maxRecDepth 100000 in
theorem ww_X9_would_71 {x1 : Int32} {t0 : Nat} (ht0 : t0 ∈ yy_Eds) {res : Int32 × yy_T} (C : yy_C D κ p m c cX9_would 4 s args RX9) (hr : meth.sig.returnType = (some .int)) (hlk : meth.locks = false) (Z : yy_Z D κ ext A s.heap τ H locs) (hl : lv_has ls 4 [(0, .ref (κ 4 + 0)), (1, .int x1)]) (h : mm_X9_would_71 x1 t0 τ = some res) : W p l e rm_X9_would s m args below meth c H locs 0 0 (MQ below (yy_Qi D κ ext A res) args s 0 0 A) (F0 m 71 ls [.ref (κ 4 + t0), .ref (κ 4 + 49)]) := by
  unfold mm_X9_would_71 at h
  refine lv_iload_n C.1.1 C.1.2.1 dX9_would_71 rfl (lv_at hl 1 rfl) ?_
  refine lv_iconst (v := 1) C.1.1 C.1.2.1 dX9_would_72 (by decide) ?_
  refine yy_icmp_ne (tgt := 83) C dX9_would_73 (by decide) h (fun h => ?_) (fun h => ?_)
  · refine lv_aload_n C.1.1 C.1.2.1 dX9_would_83 rfl (lv_at hl 0 rfl) ?_
    refine yg_X9_3 C Z tw_334 dX9_would_84 ?_
    exact ww_X9_would_87 (by decide) ht0 C hr hlk Z (lv_sub hl [0] rfl) h
  · refine lv_aload_n C.1.1 C.1.2.1 dX9_would_76 rfl (lv_at hl 0 rfl) ?_
    refine yg_X9_4 C Z tw_335 dX9_would_77 ?_
    refine lv_goto (tgt := 87) C.1.1 C.1.2.1 dX9_would_80 (by decide) ?_
    exact ww_X9_would_87 (by decide) ht0 C hr hlk Z (lv_sub hl [0] rfl) h
set_option maxHeartbeats 4000000 in
set_option maxRecDepth 100000 in
theorem ww_X9_would_E {x1 : Int32} {x2 : Int32} {x3 : Int32} {res : Int32 × yy_T} (C : yy_C D κ p m c cX9_would 4 s args RX9) (hr : meth.sig.returnType = (some .int)) (hlk : meth.locks = false) (Z : yy_Z D κ ext A s.heap τ H locs) (hl : lv_has ls 4 [(0, .ref (κ 4 + 0)), (1, .int x1), (2, .int x2), (3, .int x3)]) (h : mm_X9_would x1 x2 x3 τ = some res) : W p l e rm_X9_would s m args below meth c H locs 0 0 (MQ below (yy_Qi D κ ext A res) args s 0 0 A) (F0 m 0 ls []) := by
  unfold mm_X9_would at h
  refine lv_aload_n C.1.1 C.1.2.1 dX9_would_0 rfl (lv_at hl 0 rfl) ?_
  refine lv_iload_n C.1.1 C.1.2.1 dX9_would_1 rfl (lv_at hl 1 rfl) ?_
  refine lv_iload_n C.1.1 C.1.2.1 dX9_would_2 rfl (lv_at hl 2 rfl) ?_
  refine yy_cVi0 (As := [.int x1, .int x2]) (rest := []) (id := 0) (ci := 9) (q := (RX9, TX9, 11)) C Z (ss_X9_hasLine l D κ ext x1 x2) (by decide) (yy_ent_0 _) rfl tw_567 kw_X9_hasLine ⟨⟨rfl, rfl⟩, ⟨Nat.le_of_ble_eq_true rfl, Nat.le_of_ble_eq_true rfl⟩, Nat.le_of_ble_eq_true rfl, Nat.le_of_ble_eq_true rfl⟩ hl.1 rfl (Nat.le_of_ble_eq_true rfl) dX9_would_3 h (fun r1 τ H locs Z h => ?_)
  refine yy_if_eq (tgt := 21) C dX9_would_6 (by decide) h (fun h => ?_) (fun h => ?_)
  · refine lv_iconst (v := (-1)) C.1.1 C.1.2.1 dX9_would_21 (by decide) ?_
    exact yy_iret C Z hr hlk rfl dX9_would_22 h
  · refine lv_aload_n C.1.1 C.1.2.1 dX9_would_9 rfl (lv_at hl 0 rfl) ?_
    refine lv_iload_n C.1.1 C.1.2.1 dX9_would_10 rfl (lv_at hl 1 rfl) ?_
    refine yy_cSi0 (As := [.int x1]) (rest := [.ref (κ 4 + 0)])  C Z (ss_X9_otherThan l D κ ext x1) tw_634 kw_X9_otherThan ⟨⟨rfl, rfl⟩, ⟨Nat.le_of_ble_eq_true rfl, Nat.le_of_ble_eq_true rfl⟩, Nat.le_of_ble_eq_true rfl, Nat.le_of_ble_eq_true rfl⟩ hl.1 rfl (Nat.le_of_ble_eq_true rfl) dX9_would_11 h (fun r2 τ H locs Z h => ?_)
    refine lv_iload_n C.1.1 C.1.2.1 dX9_would_14 rfl (lv_at hl 3 rfl) ?_
    refine yy_cVi0 (As := [.int r2, .int x3]) (rest := []) (id := 0) (ci := 9) (q := (RX9, TX9, 11)) C Z (ss_X9_hasLine l D κ ext r2 x3) (by decide) (yy_ent_0 _) rfl tw_567 kw_X9_hasLine ⟨⟨rfl, rfl⟩, ⟨Nat.le_of_ble_eq_true rfl, Nat.le_of_ble_eq_true rfl⟩, Nat.le_of_ble_eq_true rfl, Nat.le_of_ble_eq_true rfl⟩ hl.1 rfl (Nat.le_of_ble_eq_true rfl) dX9_would_15 h (fun r3 τ H locs Z h => ?_)
    refine yy_if_ne (tgt := 23) C dX9_would_18 (by decide) h (fun h => ?_) (fun h => ?_)
    · refine lv_aload_n C.1.1 C.1.2.1 dX9_would_23 rfl (lv_at hl 0 rfl) ?_
      refine yg_X9_4 C Z tw_335 dX9_would_24 ?_
      refine lv_aload_n C.1.1 C.1.2.1 dX9_would_27 rfl (lv_at hl 0 rfl) ?_
      refine lv_iload_n C.1.1 C.1.2.1 dX9_would_28 rfl (lv_at hl 1 rfl) ?_
      refine yy_cVr0 (As := [.int x1]) (rest := [.ref (κ 4 + 13)]) (id := 0) (ci := 9) (q := (RX9, TX9, 11)) C Z (ss_X9_editionOf l D κ ext x1) (by decide) (yy_ent_0 _) rfl tw_408 kw_X9_editionOf ⟨⟨rfl, rfl⟩, ⟨Nat.le_of_ble_eq_true rfl, Nat.le_of_ble_eq_true rfl⟩, Nat.le_of_ble_eq_true rfl, Nat.le_of_ble_eq_true rfl⟩ hl.1 rfl (Nat.le_of_ble_eq_true rfl) dX9_would_29 h (fun r4 τ H locs hp5 Z h => ?_)
      refine yy_cVv0 (As := [.ref (κ 4 + r4)]) (rest := []) (id := 13) (ci := 2) (q := (RX2, TX2, 3)) C Z (ss_X2_copyAll l D κ ext 13 r4 (by decide) hp5) (yy_Eds_lt _ (by decide)) (yy_ent_Eds (by decide) _) rfl tw_412 kw_X2_copyAll ⟨⟨rfl, rfl⟩, ⟨Nat.le_of_ble_eq_true rfl, Nat.le_of_ble_eq_true rfl⟩, Nat.le_of_ble_eq_true rfl, Nat.le_of_ble_eq_true rfl⟩ hl.1 rfl (Nat.le_of_ble_eq_true rfl) dX9_would_32 h (fun τ H locs Z h => ?_)
      refine lv_aload_n C.1.1 C.1.2.1 dX9_would_35 rfl (lv_at hl 0 rfl) ?_
      refine yg_X9_4 C Z tw_335 dX9_would_36 ?_
      refine lv_iload_n C.1.1 C.1.2.1 dX9_would_39 rfl (lv_at hl 2 rfl) ?_
      refine lv_aload_n C.1.1 C.1.2.1 dX9_would_40 rfl (lv_at hl 0 rfl) ?_
      refine lv_iload_n C.1.1 C.1.2.1 dX9_would_41 rfl (lv_at hl 1 rfl) ?_
      refine yy_cSi0 (As := [.int x1]) (rest := [.ref (κ 4 + 0), .int x2, .ref (κ 4 + 13)])  C Z (ss_X9_otherThan l D κ ext x1) tw_634 kw_X9_otherThan ⟨⟨rfl, rfl⟩, ⟨Nat.le_of_ble_eq_true rfl, Nat.le_of_ble_eq_true rfl⟩, Nat.le_of_ble_eq_true rfl, Nat.le_of_ble_eq_true rfl⟩ hl.1 rfl (Nat.le_of_ble_eq_true rfl) dX9_would_42 h (fun r6 τ H locs Z h => ?_)
      refine yy_cVr0 (As := [.int r6]) (rest := [.int x2, .ref (κ 4 + 13)]) (id := 0) (ci := 9) (q := (RX9, TX9, 11)) C Z (ss_X9_editionOf l D κ ext r6) (by decide) (yy_ent_0 _) rfl tw_408 kw_X9_editionOf ⟨⟨rfl, rfl⟩, ⟨Nat.le_of_ble_eq_true rfl, Nat.le_of_ble_eq_true rfl⟩, Nat.le_of_ble_eq_true rfl, Nat.le_of_ble_eq_true rfl⟩ hl.1 rfl (Nat.le_of_ble_eq_true rfl) dX9_would_45 h (fun r7 τ H locs hp8 Z h => ?_)
      refine lv_iload_n C.1.1 C.1.2.1 dX9_would_48 rfl (lv_at hl 3 rfl) ?_
      refine yy_cVv0 (As := [.int x2, .ref (κ 4 + r7), .int x3]) (rest := []) (id := 13) (ci := 2) (q := (RX2, TX2, 3)) C Z (ss_X2_setLine l D κ ext 13 x2 r7 x3 (by decide) hp8) (yy_Eds_lt _ (by decide)) (yy_ent_Eds (by decide) _) rfl tw_637 kw_X2_setLine ⟨⟨rfl, rfl⟩, ⟨Nat.le_of_ble_eq_true rfl, Nat.le_of_ble_eq_true rfl⟩, Nat.le_of_ble_eq_true rfl, Nat.le_of_ble_eq_true rfl⟩ hl.1 rfl (Nat.le_of_ble_eq_true rfl) dX9_would_49 h (fun τ H locs Z h => ?_)
      refine lv_aload_n C.1.1 C.1.2.1 dX9_would_52 rfl (lv_at hl 0 rfl) ?_
      refine yg_X9_6 C Z tw_337 dX9_would_53 ?_
      refine lv_iload_n C.1.1 C.1.2.1 dX9_would_56 rfl (lv_at hl 1 rfl) ?_
      refine yy_if_ne (tgt := 67) C dX9_would_57 (by decide) h (fun h => ?_) (fun h => ?_)
      · refine lv_aload_n C.1.1 C.1.2.1 dX9_would_67 rfl (lv_at hl 0 rfl) ?_
        refine yg_X9_2 C Z tw_333 dX9_would_68 ?_
        exact ww_X9_would_71 (by decide) C hr hlk Z (lv_sub hl [0, 1] rfl) h
      · refine lv_aload_n C.1.1 C.1.2.1 dX9_would_60 rfl (lv_at hl 0 rfl) ?_
        refine yg_X9_4 C Z tw_335 dX9_would_61 ?_
        refine lv_goto (tgt := 71) C.1.1 C.1.2.1 dX9_would_64 (by decide) ?_
        exact ww_X9_would_71 (by decide) C hr hlk Z (lv_sub hl [0, 1] rfl) h
    · refine lv_iconst (v := (-1)) C.1.1 C.1.2.1 dX9_would_21 (by decide) ?_
      exact yy_iret C Z hr hlk rfl dX9_would_22 h
set_option maxHeartbeats 4000000 in
set_option maxRecDepth 100000 in
theorem ss_X9_would (l : Launch) (D : va_G) (κ : Nat → Nat) (ext : va_W) (x1 : Int32) (x2 : Int32) (x3 : Int32) : yy_Mi l D κ ext yX9_would cX9_would 4 (some .int) rm_X9_would 0 0 [.ref (κ 4 + 0), .int x1, .int x2, .int x3] (mm_X9_would x1 x2 x3) := by
  intro sz τ res h
  refine yy_ofW (by decide) (Nat.le_of_ble_eq_true rfl) ?_
  intro p e s m args below meth c ls hsz E
  obtain ⟨C, hr, hlk, Z, hl⟩ := E
  subst hsz
  exact ww_X9_would_E  C hr hlk Z hl h
/-! MovedLines.startStep(I)LMovedLines$Edition; -/
noncomputable def mm_X9_startStep (x1 : Int32) : yy_M Nat :=
  yy_cl (mm_X9_editionOf x1) (fun r1 => yy_cl (mm_X5_keep x1 r1) (fun _ => yy_wF 0 10 1 (yy_cl (mm_X9_editionOf x1) (fun r3 => yy_rt r3))))
theorem kw_X9_startStep : yy_wV RX9 yX9_startStep cX9_startStep 2 (some (.object "MovedLines$Edition")) 1 := ⟨⟨tw_648, tw_20, tw_51, tw_649⟩, by decide +kernel⟩
abbrev rm_X9_startStep : Room := { frames := 4, cells := 0, slots := 0, locals := 115 }
set_option maxHeartbeats 4000000 in
set_option maxRecDepth 100000 in
theorem ww_X9_startStep_E {x1 : Int32} {res : Nat × yy_T} (C : yy_C D κ p m c cX9_startStep 2 s args RX9) (hr : meth.sig.returnType = (some (.object "MovedLines$Edition"))) (hlk : meth.locks = false) (Z : yy_Z D κ ext A s.heap τ H locs) (hl : lv_has ls 2 [(0, .ref (κ 4 + 0)), (1, .int x1)]) (h : mm_X9_startStep x1 τ = some res) : W p l e rm_X9_startStep s m args below meth c H locs 0 0 (MQ below (yy_Qr (fun r => r ∈ yy_Eds) D κ ext A res) args s 0 0 A) (F0 m 0 ls []) := by
  unfold mm_X9_startStep at h
  refine lv_aload_n C.1.1 C.1.2.1 dX9_startStep_0 rfl (lv_at hl 0 rfl) ?_
  refine yg_X9_5 C Z tw_336 dX9_startStep_1 ?_
  refine lv_iload_n C.1.1 C.1.2.1 dX9_startStep_4 rfl (lv_at hl 1 rfl) ?_
  refine lv_aload_n C.1.1 C.1.2.1 dX9_startStep_5 rfl (lv_at hl 0 rfl) ?_
  refine lv_iload_n C.1.1 C.1.2.1 dX9_startStep_6 rfl (lv_at hl 1 rfl) ?_
  refine yy_cVr0 (As := [.int x1]) (rest := [.int x1, .ref (κ 4 + 16)]) (id := 0) (ci := 9) (q := (RX9, TX9, 11)) C Z (ss_X9_editionOf l D κ ext x1) (by decide) (yy_ent_0 _) rfl tw_408 kw_X9_editionOf ⟨⟨rfl, rfl⟩, ⟨Nat.le_of_ble_eq_true rfl, Nat.le_of_ble_eq_true rfl⟩, Nat.le_of_ble_eq_true rfl, Nat.le_of_ble_eq_true rfl⟩ hl.1 rfl (Nat.le_of_ble_eq_true rfl) dX9_startStep_7 h (fun r1 τ H locs hp2 Z h => ?_)
  refine yy_cVv0 (As := [.int x1, .ref (κ 4 + r1)]) (rest := []) (id := 16) (ci := 5) (q := (RX5, TX5, 4)) C Z (ss_X5_keep l D κ ext x1 r1 hp2) (by decide) (yy_ent_16 _) rfl tw_650 kw_X5_keep ⟨⟨rfl, rfl⟩, ⟨Nat.le_of_ble_eq_true rfl, Nat.le_of_ble_eq_true rfl⟩, Nat.le_of_ble_eq_true rfl, Nat.le_of_ble_eq_true rfl⟩ hl.1 rfl (Nat.le_of_ble_eq_true rfl) dX9_startStep_10 h (fun τ H locs Z h => ?_)
  refine lv_aload_n C.1.1 C.1.2.1 dX9_startStep_13 rfl (lv_at hl 0 rfl) ?_
  refine lv_iconst (v := 1) C.1.1 C.1.2.1 dX9_startStep_14 (by decide) ?_
  refine yp_X9_10 C Z (Or.inr rfl) tw_341 dX9_startStep_15 h (fun H locs τ Z h => ?_)
  refine lv_aload_n C.1.1 C.1.2.1 dX9_startStep_18 rfl (lv_at hl 0 rfl) ?_
  refine lv_iload_n C.1.1 C.1.2.1 dX9_startStep_19 rfl (lv_at hl 1 rfl) ?_
  refine yy_cVr0 (As := [.int x1]) (rest := []) (id := 0) (ci := 9) (q := (RX9, TX9, 11)) C Z (ss_X9_editionOf l D κ ext x1) (by decide) (yy_ent_0 _) rfl tw_408 kw_X9_editionOf ⟨⟨rfl, rfl⟩, ⟨Nat.le_of_ble_eq_true rfl, Nat.le_of_ble_eq_true rfl⟩, Nat.le_of_ble_eq_true rfl, Nat.le_of_ble_eq_true rfl⟩ hl.1 rfl (Nat.le_of_ble_eq_true rfl) dX9_startStep_20 h (fun r3 τ H locs hp4 Z h => ?_)
  exact yy_aret C Z hr hlk hp4 dX9_startStep_23 h
set_option maxHeartbeats 4000000 in
set_option maxRecDepth 100000 in
theorem ss_X9_startStep (l : Launch) (D : va_G) (κ : Nat → Nat) (ext : va_W) (x1 : Int32) : yy_Mr (fun r => r ∈ yy_Eds) l D κ ext yX9_startStep cX9_startStep 2 (some (.object "MovedLines$Edition")) rm_X9_startStep 0 0 [.ref (κ 4 + 0), .int x1] (mm_X9_startStep x1) := by
  intro sz τ res h
  refine yy_ofW (by decide) (Nat.le_of_ble_eq_true rfl) ?_
  intro p e s m args below meth c ls hsz E
  obtain ⟨C, hr, hlk, Z, hl⟩ := E
  subst hsz
  exact ww_X9_startStep_E  C hr hlk Z hl h
end
