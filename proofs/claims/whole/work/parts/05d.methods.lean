section
variable {p : Program} {l : Launch} {e : Env} {s : State} {m : MethodId} {args : Array Value} {below : List Frame} {meth : Method} {c : Code} {H : Heap} {locs : List Loc} {ls : Array Slot} {D : va_G} {κ : Nat → Nat} {ext : va_W} {A : Nat → Prop} {τ : yy_T}
/-! MovedLines$Keeper.keep(LMovedLines$Kinds;LMovedLines$Told;)V -/
noncomputable def mm_X3_keep_85 (k2 : Nat) (x3 : Int32) : yy_M ((Int32) ⊕ ((Unit))) :=
  yy_rt (.inl (x3 + 1))
noncomputable def mm_X3_keep_72 (k2 : Nat) (x3 : Int32) (x4 : Int32) : yy_M ((Int32) ⊕ ((Unit))) :=
  yy_br (x4 ≤ 0) (mm_X3_keep_85 k2 x3) (yy_cl (mm_X3_keepRun x3 x4 k2) (fun _ => mm_X3_keep_85 k2 x3))
noncomputable def mm_X3_keep_21b (k2 : Nat) (x3 : Int32) : yy_M ((Int32) ⊕ ((Unit))) :=
  yy_rF 53 4 fun v3 => yy_br (v3 ≤ x3) (yy_rt (.inr ())) (yy_br (14 ≤ x3) (yy_rt (.inr ())) (yy_cl (mm_X3_keepEnds x3 k2) (fun _ => yy_cl (mm_X3_findAnchors x3) (fun _ => yy_cl (mm_X3_measureRuns ) (fun r4 => yy_br (x3 = 0) (yy_rF 53 8 fun v5 => yy_wF k2 8 v5 (yy_wF k2 9 r4 (mm_X3_keep_72 k2 x3 r4))) (mm_X3_keep_72 k2 x3 r4))))))
noncomputable def mm_X3_keep_91 : yy_M Unit :=
  yy_rt ()
noncomputable def mm_X3_keep_21 (k2 : Nat) (x3 : Int32) : yy_M Unit :=
  yy_cl (yy_lp (fun (w : Int32) => mm_X3_keep_21b k2 w) x3) (fun w => mm_X3_keep_91 )
noncomputable def mm_X3_keep (k2 : Nat) : yy_M Unit :=
  yy_wF 53 4 0 (yy_rF 50 2 fun v1 => yy_rF 50 3 fun v2 => yy_cl (mm_X3_addRange 0 v1 0 v2) (fun _ => mm_X3_keep_21 k2 0))
theorem kw_X3_keep : yy_wV RX3 yX3_keep cX3_keep 5 none 2 := ⟨⟨tw_463, tw_464, tw_58, tw_465⟩, by decide +kernel⟩
abbrev rm_X3_keep : Room := { frames := 3, cells := 0, slots := 0, locals := 73 }
set_option maxHeartbeats 4000000 in
set_option maxRecDepth 100000 in
theorem ww_X3_keep_85 {k2 : Nat} {x3 : Int32} (hk2 : k2 ∈ yy_Tds) {res : ((Int32) ⊕ ((Unit))) × yy_T} {Q : State → Prop} (C : yy_C D κ p m c cX3_keep 5 s args RX3) (Z : yy_Z D κ ext A s.heap τ H locs) (hl : lv_has ls 5 [(0, .ref (κ 4 + 53)), (1, .ref (κ 4 + 50)), (2, .ref (κ 4 + k2)), (3, .int x3)]) (h : mm_X3_keep_85 k2 x3 τ = some res)
    (kI : ∀ (w : Int32) (τ1 : yy_T) (H1 : Heap) (locs1 : List Loc) (ls1 : Array Slot), res = (.inl w, τ1) → yy_Z D κ ext A s.heap τ1 H1 locs1 → lv_has ls1 5 [(0, .ref (κ 4 + 53)), (1, .ref (κ 4 + 50)), (2, .ref (κ 4 + k2)), (3, .int w)] → W p l e rm_X3_keep s m args below meth c H1 locs1 0 0 Q (F0 m 21 ls1 [])) : W p l e rm_X3_keep s m args below meth c H locs 0 0 Q (F0 m 85 ls []) := by
  unfold mm_X3_keep_85 at h
  refine lv_iinc (v := x3 + 1) (lv' := [(3, .int (x3 + 1)), (0, .ref (κ 4 + 53)), (1, .ref (κ 4 + 50)), (2, .ref (κ 4 + k2))]) C.1.1 C.1.2.1 dX3_keep_85 hl (k := 3) rfl (by rfl) (by decide) rfl (fun ls hl => ?_)
  refine lv_goto (tgt := 21) C.1.1 C.1.2.1 dX3_keep_88 (by decide) ?_
  exact kI _ _ _ _ _ (yy_rt_of h) Z (lv_sub hl [1, 2, 3, 0] rfl)
set_option maxHeartbeats 4000000 in
set_option maxRecDepth 100000 in
theorem ww_X3_keep_72 {k2 : Nat} {x3 : Int32} {x4 : Int32} (hk2 : k2 ∈ yy_Tds) {res : ((Int32) ⊕ ((Unit))) × yy_T} {Q : State → Prop} (C : yy_C D κ p m c cX3_keep 5 s args RX3) (Z : yy_Z D κ ext A s.heap τ H locs) (hl : lv_has ls 5 [(0, .ref (κ 4 + 53)), (1, .ref (κ 4 + 50)), (2, .ref (κ 4 + k2)), (3, .int x3), (4, .int x4)]) (h : mm_X3_keep_72 k2 x3 x4 τ = some res)
    (kI : ∀ (w : Int32) (τ1 : yy_T) (H1 : Heap) (locs1 : List Loc) (ls1 : Array Slot), res = (.inl w, τ1) → yy_Z D κ ext A s.heap τ1 H1 locs1 → lv_has ls1 5 [(0, .ref (κ 4 + 53)), (1, .ref (κ 4 + 50)), (2, .ref (κ 4 + k2)), (3, .int w)] → W p l e rm_X3_keep s m args below meth c H1 locs1 0 0 Q (F0 m 21 ls1 [])) : W p l e rm_X3_keep s m args below meth c H locs 0 0 Q (F0 m 72 ls []) := by
  unfold mm_X3_keep_72 at h
  refine lv_iload C.1.1 C.1.2.1 dX3_keep_72 (lv_at hl 4 rfl) ?_
  refine yy_if_le (tgt := 85) C dX3_keep_74 (by decide) h (fun h => ?_) (fun h => ?_)
  · exact ww_X3_keep_85 hk2 C Z (lv_sub hl [0, 1, 2, 3] rfl) h kI
  · refine lv_aload_n C.1.1 C.1.2.1 dX3_keep_77 rfl (lv_at hl 0 rfl) ?_
    refine lv_iload_n C.1.1 C.1.2.1 dX3_keep_78 rfl (lv_at hl 3 rfl) ?_
    refine lv_iload C.1.1 C.1.2.1 dX3_keep_79 (lv_at hl 4 rfl) ?_
    refine lv_aload_n C.1.1 C.1.2.1 dX3_keep_81 rfl (lv_at hl 2 rfl) ?_
    refine yy_cVv0 (As := [.int x3, .int x4, .ref (κ 4 + k2)]) (rest := []) (id := 53) (ci := 3) (q := (RX3, TX3, 9)) C Z (ss_X3_keepRun l D κ ext x3 x4 k2 hk2) (by decide) (yy_ent_53 _) rfl tw_500 kw_X3_keepRun ⟨⟨rfl, rfl⟩, ⟨Nat.le_of_ble_eq_true rfl, Nat.le_of_ble_eq_true rfl⟩, Nat.le_of_ble_eq_true rfl, Nat.le_of_ble_eq_true rfl⟩ hl.1 rfl (Nat.le_of_ble_eq_true rfl) dX3_keep_82 h (fun τ H locs Z h => ?_)
    exact ww_X3_keep_85 hk2 C Z (lv_sub hl [0, 1, 2, 3] rfl) h kI
set_option maxHeartbeats 4000000 in
set_option maxRecDepth 100000 in
theorem ww_X3_keep_21b {k2 : Nat} {x3 : Int32} (hk2 : k2 ∈ yy_Tds) {res : ((Int32) ⊕ ((Unit))) × yy_T} {Q : State → Prop} (C : yy_C D κ p m c cX3_keep 5 s args RX3) (Z : yy_Z D κ ext A s.heap τ H locs) (hl : lv_has ls 5 [(0, .ref (κ 4 + 53)), (1, .ref (κ 4 + 50)), (2, .ref (κ 4 + k2)), (3, .int x3)]) (h : mm_X3_keep_21b k2 x3 τ = some res)
    (kI : ∀ (w : Int32) (τ1 : yy_T) (H1 : Heap) (locs1 : List Loc) (ls1 : Array Slot), res = (.inl w, τ1) → yy_Z D κ ext A s.heap τ1 H1 locs1 → lv_has ls1 5 [(0, .ref (κ 4 + 53)), (1, .ref (κ 4 + 50)), (2, .ref (κ 4 + k2)), (3, .int w)] → W p l e rm_X3_keep s m args below meth c H1 locs1 0 0 Q (F0 m 21 ls1 []))
    (kR0 : ∀ (w : Unit) (τ1 : yy_T) (H1 : Heap) (locs1 : List Loc) (ls1 : Array Slot), res = (.inr w, τ1) → yy_Z D κ ext A s.heap τ1 H1 locs1 → lv_has ls1 5 [] → W p l e rm_X3_keep s m args below meth c H1 locs1 0 0 Q (F0 m 91 ls1 [])) : W p l e rm_X3_keep s m args below meth c H locs 0 0 Q (F0 m 21 ls []) := by
  unfold mm_X3_keep_21b at h
  refine lv_iload_n C.1.1 C.1.2.1 dX3_keep_21 rfl (lv_at hl 3 rfl) ?_
  refine lv_aload_n C.1.1 C.1.2.1 dX3_keep_22 rfl (lv_at hl 0 rfl) ?_
  refine yg_X3_4 C Z tw_213 dX3_keep_23 h (fun v3 h => ?_)
  refine yy_icmp_ge (tgt := 91) C dX3_keep_26 (by decide) h (fun h => ?_) (fun h => ?_)
  · exact kR0 _ _ _ _ _ (yy_rt_of h) Z (lv_sub hl [] rfl)
  · refine lv_iload_n C.1.1 C.1.2.1 dX3_keep_29 rfl (lv_at hl 3 rfl) ?_
    refine lv_bipush (v := 14) C.1.1 C.1.2.1 dX3_keep_30 (by decide) ?_
    refine yy_icmp_ge (tgt := 91) C dX3_keep_32 (by decide) h (fun h => ?_) (fun h => ?_)
    · exact kR0 _ _ _ _ _ (yy_rt_of h) Z (lv_sub hl [] rfl)
    · refine lv_aload_n C.1.1 C.1.2.1 dX3_keep_35 rfl (lv_at hl 0 rfl) ?_
      refine lv_iload_n C.1.1 C.1.2.1 dX3_keep_36 rfl (lv_at hl 3 rfl) ?_
      refine lv_aload_n C.1.1 C.1.2.1 dX3_keep_37 rfl (lv_at hl 1 rfl) ?_
      refine lv_aload_n C.1.1 C.1.2.1 dX3_keep_38 rfl (lv_at hl 2 rfl) ?_
      refine yy_cVv0 (As := [.int x3, .ref (κ 4 + 50), .ref (κ 4 + k2)]) (rest := []) (id := 53) (ci := 3) (q := (RX3, TX3, 9)) C Z (ss_X3_keepEnds l D κ ext x3 k2 hk2) (by decide) (yy_ent_53 _) rfl tw_470 kw_X3_keepEnds ⟨⟨rfl, rfl⟩, ⟨Nat.le_of_ble_eq_true rfl, Nat.le_of_ble_eq_true rfl⟩, Nat.le_of_ble_eq_true rfl, Nat.le_of_ble_eq_true rfl⟩ hl.1 rfl (Nat.le_of_ble_eq_true rfl) dX3_keep_39 h (fun τ H locs Z h => ?_)
      refine lv_aload_n C.1.1 C.1.2.1 dX3_keep_42 rfl (lv_at hl 0 rfl) ?_
      refine lv_iload_n C.1.1 C.1.2.1 dX3_keep_43 rfl (lv_at hl 3 rfl) ?_
      refine lv_aload_n C.1.1 C.1.2.1 dX3_keep_44 rfl (lv_at hl 1 rfl) ?_
      refine yy_cVv0 (As := [.int x3, .ref (κ 4 + 50)]) (rest := []) (id := 53) (ci := 3) (q := (RX3, TX3, 9)) C Z (ss_X3_findAnchors l D κ ext x3) (by decide) (yy_ent_53 _) rfl tw_486 kw_X3_findAnchors ⟨⟨rfl, rfl⟩, ⟨Nat.le_of_ble_eq_true rfl, Nat.le_of_ble_eq_true rfl⟩, Nat.le_of_ble_eq_true rfl, Nat.le_of_ble_eq_true rfl⟩ hl.1 rfl (Nat.le_of_ble_eq_true rfl) dX3_keep_45 h (fun τ H locs Z h => ?_)
      refine lv_aload_n C.1.1 C.1.2.1 dX3_keep_48 rfl (lv_at hl 0 rfl) ?_
      refine yy_cVi0 (As := []) (rest := []) (id := 53) (ci := 3) (q := (RX3, TX3, 9)) C Z (ss_X3_measureRuns l D κ ext ) (by decide) (yy_ent_53 _) rfl tw_493 kw_X3_measureRuns ⟨⟨rfl, rfl⟩, ⟨Nat.le_of_ble_eq_true rfl, Nat.le_of_ble_eq_true rfl⟩, Nat.le_of_ble_eq_true rfl, Nat.le_of_ble_eq_true rfl⟩ hl.1 rfl (Nat.le_of_ble_eq_true rfl) dX3_keep_49 h (fun r4 τ H locs Z h => ?_)
      refine lv_istore (lv' := [(4, .int r4), (0, .ref (κ 4 + 53)), (1, .ref (κ 4 + 50)), (2, .ref (κ 4 + k2)), (3, .int x3)]) C.1.1 C.1.2.1 dX3_keep_52 hl (by decide) rfl (fun ls hl => ?_)
      refine lv_iload_n C.1.1 C.1.2.1 dX3_keep_54 rfl (lv_at hl 4 rfl) ?_
      refine yy_if_ne (tgt := 72) C dX3_keep_55 (by decide) h (fun h => ?_) (fun h => ?_)
      · exact ww_X3_keep_72 hk2 C Z (lv_sub hl [1, 2, 3, 4, 0] rfl) h kI
      · refine lv_aload_n C.1.1 C.1.2.1 dX3_keep_58 rfl (lv_at hl 3 rfl) ?_
        refine lv_aload_n C.1.1 C.1.2.1 dX3_keep_59 rfl (lv_at hl 1 rfl) ?_
        refine yg_X3_8 C Z tw_217 dX3_keep_60 h (fun v5 h => ?_)
        refine yp_X8_8 C Z hk2 tw_300 dX3_keep_63 h (fun H locs τ Z h => ?_)
        refine lv_aload_n C.1.1 C.1.2.1 dX3_keep_66 rfl (lv_at hl 3 rfl) ?_
        refine lv_iload C.1.1 C.1.2.1 dX3_keep_67 (lv_at hl 0 rfl) ?_
        refine yp_X8_9 C Z hk2 tw_303 dX3_keep_69 h (fun H locs τ Z h => ?_)
        exact ww_X3_keep_72 hk2 C Z (lv_sub hl [1, 2, 3, 4, 0] rfl) h kI
set_option maxHeartbeats 4000000 in
set_option maxRecDepth 100000 in
theorem ww_X3_keep_91 {res : Unit × yy_T} (C : yy_C D κ p m c cX3_keep 5 s args RX3) (hr : meth.sig.returnType = none) (hlk : meth.locks = false) (Z : yy_Z D κ ext A s.heap τ H locs) (hl : lv_has ls 5 []) (h : mm_X3_keep_91  τ = some res) : W p l e rm_X3_keep s m args below meth c H locs 0 0 (MQ below (yy_Qv D κ ext A res) args s 0 0 A) (F0 m 91 ls []) := by
  unfold mm_X3_keep_91 at h
  exact yy_vret C Z hr hlk dX3_keep_91 h
set_option maxHeartbeats 4000000 in
set_option maxRecDepth 100000 in
theorem ww_X3_keep_21 {k2 : Nat} {x3 : Int32} (hk2 : k2 ∈ yy_Tds) {res : Unit × yy_T} (C : yy_C D κ p m c cX3_keep 5 s args RX3) (hr : meth.sig.returnType = none) (hlk : meth.locks = false) (Z : yy_Z D κ ext A s.heap τ H locs) (hl : lv_has ls 5 [(0, .ref (κ 4 + 53)), (1, .ref (κ 4 + 50)), (2, .ref (κ 4 + k2)), (3, .int x3)]) (h : mm_X3_keep_21 k2 x3 τ = some res) : W p l e rm_X3_keep s m args below meth c H locs 0 0 (MQ below (yy_Qv D κ ext A res) args s 0 0 A) (F0 m 21 ls []) := by
  unfold mm_X3_keep_21 at h
  refine yy_loop h (fun (w : Int32) (τ : yy_T) => ∀ (H : Heap) (locs : List Loc) (ls : Array Slot), yy_Z D κ ext A s.heap τ H locs → lv_has ls 5 [(0, .ref (κ 4 + 53)), (1, .ref (κ 4 + 50)), (2, .ref (κ 4 + k2)), (3, .int w)] → W p l e rm_X3_keep s m args below meth c H locs 0 0 (MQ below (yy_Qv D κ ext A res) args s 0 0 A) (F0 m 21 ls [])) ?_ H locs ls Z hl
  intro w τ y hy hI hX H locs ls Z hl
  refine ww_X3_keep_21b hk2 C Z hl hy (fun w τ H locs ls ey Z hl => hI w τ ey H locs ls Z hl) (fun w τ H locs ls ey Z hl => ?_)
  · have h := hX _ _ ey
    exact ww_X3_keep_91  C hr hlk Z (lv_sub hl [] rfl) h
set_option maxHeartbeats 4000000 in
set_option maxRecDepth 100000 in
theorem ww_X3_keep_E {k2 : Nat} (hk2 : k2 ∈ yy_Tds) {res : Unit × yy_T} (C : yy_C D κ p m c cX3_keep 5 s args RX3) (hr : meth.sig.returnType = none) (hlk : meth.locks = false) (Z : yy_Z D κ ext A s.heap τ H locs) (hl : lv_has ls 5 [(0, .ref (κ 4 + 53)), (1, .ref (κ 4 + 50)), (2, .ref (κ 4 + k2))]) (h : mm_X3_keep k2 τ = some res) : W p l e rm_X3_keep s m args below meth c H locs 0 0 (MQ below (yy_Qv D κ ext A res) args s 0 0 A) (F0 m 0 ls []) := by
  unfold mm_X3_keep at h
  refine lv_aload_n C.1.1 C.1.2.1 dX3_keep_0 rfl (lv_at hl 0 rfl) ?_
  refine lv_iconst (v := 0) C.1.1 C.1.2.1 dX3_keep_1 (by decide) ?_
  refine yp_X3_4 C Z tw_213 dX3_keep_2 h (fun H locs τ Z h => ?_)
  refine lv_aload_n C.1.1 C.1.2.1 dX3_keep_5 rfl (lv_at hl 0 rfl) ?_
  refine lv_iconst (v := 0) C.1.1 C.1.2.1 dX3_keep_6 (by decide) ?_
  refine lv_aload_n C.1.1 C.1.2.1 dX3_keep_7 rfl (lv_at hl 1 rfl) ?_
  refine yg_X4_2 C Z tw_189 dX3_keep_8 h (fun v1 h => ?_)
  refine lv_iconst (v := 0) C.1.1 C.1.2.1 dX3_keep_11 (by decide) ?_
  refine lv_aload_n C.1.1 C.1.2.1 dX3_keep_12 rfl (lv_at hl 1 rfl) ?_
  refine yg_X4_3 C Z tw_192 dX3_keep_13 h (fun v2 h => ?_)
  refine yy_cVv0 (As := [.int 0, .int v1, .int 0, .int v2]) (rest := []) (id := 53) (ci := 3) (q := (RX3, TX3, 9)) C Z (ss_X3_addRange l D κ ext 0 v1 0 v2) (by decide) (yy_ent_53 _) rfl tw_466 kw_X3_addRange ⟨⟨rfl, rfl⟩, ⟨Nat.le_of_ble_eq_true rfl, Nat.le_of_ble_eq_true rfl⟩, Nat.le_of_ble_eq_true rfl, Nat.le_of_ble_eq_true rfl⟩ hl.1 rfl (Nat.le_of_ble_eq_true rfl) dX3_keep_16 h (fun τ H locs Z h => ?_)
  refine lv_iconst (v := 0) C.1.1 C.1.2.1 dX3_keep_19 (by decide) ?_
  refine lv_istore_n (lv' := [(3, .int 0), (0, .ref (κ 4 + 53)), (1, .ref (κ 4 + 50)), (2, .ref (κ 4 + k2))]) C.1.1 C.1.2.1 dX3_keep_20 rfl hl (by decide) rfl (fun ls hl => ?_)
  exact ww_X3_keep_21 hk2 C hr hlk Z (lv_sub hl [1, 2, 3, 0] rfl) h
set_option maxHeartbeats 4000000 in
set_option maxRecDepth 100000 in
theorem ss_X3_keep (l : Launch) (D : va_G) (κ : Nat → Nat) (ext : va_W) (k2 : Nat) (hk2 : k2 ∈ yy_Tds) : yy_Mv l D κ ext yX3_keep cX3_keep 5 none rm_X3_keep 0 0 [.ref (κ 4 + 53), .ref (κ 4 + 50), .ref (κ 4 + k2)] (mm_X3_keep k2) := by
  intro sz τ res h
  refine yy_ofW (by decide) (Nat.le_of_ble_eq_true rfl) ?_
  intro p e s m args below meth c ls hsz E
  obtain ⟨C, hr, hlk, Z, hl⟩ := E
  subst hsz
  exact ww_X3_keep_E hk2 C hr hlk Z hl h
/-! MovedLines$Edition.isLike(ILMovedLines$Edition;I)Z -/
noncomputable def mm_X2_isLike_48b (k0 : Nat) (x1 : Int32) (k2 : Nat) (x4 : Int32) (x5 : Int32) (x6 : Int32) : yy_M ((Int32) ⊕ ((Unit) ⊕ (Unit))) :=
  yy_rA (k0 + 1) 14 x1 fun v5 => yy_br (v5 ≤ x6) (yy_rt (.inr (.inl ()))) (yy_rA (k0 + 2) 112 (x4 + x6) fun v6 => yy_rA (k2 + 2) 112 (x5 + x6) fun v7 => yy_br (v6 = v7) (yy_rt (.inl (x6 + 1))) (yy_rt (.inr (.inr ()))))
noncomputable def mm_X2_isLike_90 : yy_M Int32 :=
  yy_rt 1
noncomputable def mm_X2_isLike_82 : yy_M Int32 :=
  yy_rt 0
noncomputable def mm_X2_isLike_48 (k0 : Nat) (x1 : Int32) (k2 : Nat) (x4 : Int32) (x5 : Int32) (x6 : Int32) : yy_M Int32 :=
  yy_cl (yy_lp (fun (w : Int32) => mm_X2_isLike_48b k0 x1 k2 x4 x5 w) x6) (Sum.elim (fun w => mm_X2_isLike_90 ) (fun w => mm_X2_isLike_82 ))
noncomputable def mm_X2_isLike (k0 : Nat) (x1 : Int32) (k2 : Nat) (x3 : Int32) : yy_M Int32 :=
  yy_cl (mm_X2_has k0 x1) (fun r1 => yy_br (r1 = 0) (yy_rt 0) (yy_cl (mm_X2_has k2 x3) (fun r2 => yy_br (r2 = 0) (yy_rt 0) (yy_rA (k0 + 1) 14 x1 fun v3 => yy_rA (k2 + 1) 14 x3 fun v4 => yy_br (v3 = v4) (mm_X2_isLike_48 k0 x1 k2 (x1 * 8) (x3 * 8) 0) (yy_rt 0)))))
theorem kw_X2_isLike : yy_wV RX2 yX2_isLike cX2_isLike 7 (some .boolean) 3 := ⟨⟨tw_455, tw_456, tw_54, tw_457⟩, by decide +kernel⟩
abbrev rm_X2_isLike : Room := { frames := 1, cells := 0, slots := 0, locals := 21 }
set_option maxHeartbeats 4000000 in
set_option maxRecDepth 100000 in
theorem ww_X2_isLike_48b {k0 : Nat} {x1 : Int32} {k2 : Nat} {x4 : Int32} {x5 : Int32} {x6 : Int32} (hk0 : k0 ∈ yy_Eds) (hk2 : k2 ∈ yy_Eds) {res : ((Int32) ⊕ ((Unit) ⊕ (Unit))) × yy_T} {Q : State → Prop} (C : yy_C D κ p m c cX2_isLike 7 s args RX2) (Z : yy_Z D κ ext A s.heap τ H locs) (hl : lv_has ls 7 [(0, .ref (κ 4 + k0)), (1, .int x1), (2, .ref (κ 4 + k2)), (4, .int x4), (5, .int x5), (6, .int x6)]) (h : mm_X2_isLike_48b k0 x1 k2 x4 x5 x6 τ = some res)
    (kI : ∀ (w : Int32) (τ1 : yy_T) (H1 : Heap) (locs1 : List Loc) (ls1 : Array Slot), res = (.inl w, τ1) → yy_Z D κ ext A s.heap τ1 H1 locs1 → lv_has ls1 7 [(0, .ref (κ 4 + k0)), (1, .int x1), (2, .ref (κ 4 + k2)), (4, .int x4), (5, .int x5), (6, .int w)] → W p l e rm_X2_isLike s m args below meth c H1 locs1 0 0 Q (F0 m 48 ls1 []))
    (kR0 : ∀ (w : Unit) (τ1 : yy_T) (H1 : Heap) (locs1 : List Loc) (ls1 : Array Slot), res = (.inr (.inl w), τ1) → yy_Z D κ ext A s.heap τ1 H1 locs1 → lv_has ls1 7 [] → W p l e rm_X2_isLike s m args below meth c H1 locs1 0 0 Q (F0 m 90 ls1 []))
    (kR1 : ∀ (w : Unit) (τ1 : yy_T) (H1 : Heap) (locs1 : List Loc) (ls1 : Array Slot), res = (.inr (.inr w), τ1) → yy_Z D κ ext A s.heap τ1 H1 locs1 → lv_has ls1 7 [] → W p l e rm_X2_isLike s m args below meth c H1 locs1 0 0 Q (F0 m 82 ls1 [])) : W p l e rm_X2_isLike s m args below meth c H locs 0 0 Q (F0 m 48 ls []) := by
  unfold mm_X2_isLike_48b at h
  refine lv_iload C.1.1 C.1.2.1 dX2_isLike_48 (lv_at hl 5 rfl) ?_
  refine lv_aload_n C.1.1 C.1.2.1 dX2_isLike_50 rfl (lv_at hl 0 rfl) ?_
  refine yg_X2_0 C Z hk0 tw_105 dX2_isLike_51 ?_
  refine lv_iload_n C.1.1 C.1.2.1 dX2_isLike_54 rfl (lv_at hl 1 rfl) ?_
  refine yy_iald C Z (yy_E1 _ hk0) (yy_lenE1 _ hk0) dX2_isLike_55 h (fun v5 h => ?_)
  refine yy_icmp_ge (tgt := 90) C dX2_isLike_56 (by decide) h (fun h => ?_) (fun h => ?_)
  · exact kR0 _ _ _ _ _ (yy_rt_of h) Z (lv_sub hl [] rfl)
  · refine lv_aload_n C.1.1 C.1.2.1 dX2_isLike_59 rfl (lv_at hl 0 rfl) ?_
    refine yg_X2_1 C Z hk0 tw_107 dX2_isLike_60 ?_
    refine lv_iload C.1.1 C.1.2.1 dX2_isLike_63 (lv_at hl 3 rfl) ?_
    refine lv_iload C.1.1 C.1.2.1 dX2_isLike_65 (lv_at hl 5 rfl) ?_
    refine lv_iadd C.1.1 C.1.2.1 dX2_isLike_67 ?_
    refine yy_iald C Z (yy_E2 _ hk0) (yy_lenE2 _ hk0) dX2_isLike_68 h (fun v6 h => ?_)
    refine lv_aload_n C.1.1 C.1.2.1 dX2_isLike_69 rfl (lv_at hl 2 rfl) ?_
    refine yg_X2_1 C Z hk2 tw_107 dX2_isLike_70 ?_
    refine lv_iload C.1.1 C.1.2.1 dX2_isLike_73 (lv_at hl 4 rfl) ?_
    refine lv_iload C.1.1 C.1.2.1 dX2_isLike_75 (lv_at hl 5 rfl) ?_
    refine lv_iadd C.1.1 C.1.2.1 dX2_isLike_77 ?_
    refine yy_iald C Z (yy_E2 _ hk2) (yy_lenE2 _ hk2) dX2_isLike_78 h (fun v7 h => ?_)
    refine yy_icmp_eq (tgt := 84) C dX2_isLike_79 (by decide) h (fun h => ?_) (fun h => ?_)
    · refine lv_iinc (v := x6 + 1) (lv' := [(6, .int (x6 + 1)), (0, .ref (κ 4 + k0)), (1, .int x1), (2, .ref (κ 4 + k2)), (4, .int x4), (5, .int x5)]) C.1.1 C.1.2.1 dX2_isLike_84 hl (k := 5) rfl (by rfl) (by decide) rfl (fun ls hl => ?_)
      refine lv_goto (tgt := 48) C.1.1 C.1.2.1 dX2_isLike_87 (by decide) ?_
      exact kI _ _ _ _ _ (yy_rt_of h) Z (lv_sub hl [1, 2, 3, 4, 5, 0] rfl)
    · exact kR1 _ _ _ _ _ (yy_rt_of h) Z (lv_sub hl [] rfl)
set_option maxHeartbeats 4000000 in
set_option maxRecDepth 100000 in
theorem ww_X2_isLike_90 {res : Int32 × yy_T} (C : yy_C D κ p m c cX2_isLike 7 s args RX2) (hr : meth.sig.returnType = (some .boolean)) (hlk : meth.locks = false) (Z : yy_Z D κ ext A s.heap τ H locs) (hl : lv_has ls 7 []) (h : mm_X2_isLike_90  τ = some res) : W p l e rm_X2_isLike s m args below meth c H locs 0 0 (MQ below (yy_Qi D κ ext A res) args s 0 0 A) (F0 m 90 ls []) := by
  unfold mm_X2_isLike_90 at h
  refine lv_iconst (v := 1) C.1.1 C.1.2.1 dX2_isLike_90 (by decide) ?_
  exact yy_iret C Z hr hlk rfl dX2_isLike_91 h
set_option maxHeartbeats 4000000 in
set_option maxRecDepth 100000 in
theorem ww_X2_isLike_82 {res : Int32 × yy_T} (C : yy_C D κ p m c cX2_isLike 7 s args RX2) (hr : meth.sig.returnType = (some .boolean)) (hlk : meth.locks = false) (Z : yy_Z D κ ext A s.heap τ H locs) (hl : lv_has ls 7 []) (h : mm_X2_isLike_82  τ = some res) : W p l e rm_X2_isLike s m args below meth c H locs 0 0 (MQ below (yy_Qi D κ ext A res) args s 0 0 A) (F0 m 82 ls []) := by
  unfold mm_X2_isLike_82 at h
  refine lv_iconst (v := 0) C.1.1 C.1.2.1 dX2_isLike_82 (by decide) ?_
  exact yy_iret C Z hr hlk rfl dX2_isLike_83 h
set_option maxHeartbeats 4000000 in
set_option maxRecDepth 100000 in
theorem ww_X2_isLike_48 {k0 : Nat} {x1 : Int32} {k2 : Nat} {x4 : Int32} {x5 : Int32} {x6 : Int32} (hk0 : k0 ∈ yy_Eds) (hk2 : k2 ∈ yy_Eds) {res : Int32 × yy_T} (C : yy_C D κ p m c cX2_isLike 7 s args RX2) (hr : meth.sig.returnType = (some .boolean)) (hlk : meth.locks = false) (Z : yy_Z D κ ext A s.heap τ H locs) (hl : lv_has ls 7 [(0, .ref (κ 4 + k0)), (1, .int x1), (2, .ref (κ 4 + k2)), (4, .int x4), (5, .int x5), (6, .int x6)]) (h : mm_X2_isLike_48 k0 x1 k2 x4 x5 x6 τ = some res) : W p l e rm_X2_isLike s m args below meth c H locs 0 0 (MQ below (yy_Qi D κ ext A res) args s 0 0 A) (F0 m 48 ls []) := by
  unfold mm_X2_isLike_48 at h
  refine yy_loop h (fun (w : Int32) (τ : yy_T) => ∀ (H : Heap) (locs : List Loc) (ls : Array Slot), yy_Z D κ ext A s.heap τ H locs → lv_has ls 7 [(0, .ref (κ 4 + k0)), (1, .int x1), (2, .ref (κ 4 + k2)), (4, .int x4), (5, .int x5), (6, .int w)] → W p l e rm_X2_isLike s m args below meth c H locs 0 0 (MQ below (yy_Qi D κ ext A res) args s 0 0 A) (F0 m 48 ls [])) ?_ H locs ls Z hl
  intro w τ y hy hI hX H locs ls Z hl
  refine ww_X2_isLike_48b hk0 hk2 C Z hl hy (fun w τ H locs ls ey Z hl => hI w τ ey H locs ls Z hl) (fun w τ H locs ls ey Z hl => ?_) (fun w τ H locs ls ey Z hl => ?_)
  · have h := hX _ _ ey
    exact ww_X2_isLike_90  C hr hlk Z (lv_sub hl [] rfl) h
  · have h := hX _ _ ey
    exact ww_X2_isLike_82  C hr hlk Z (lv_sub hl [] rfl) h
set_option maxHeartbeats 4000000 in
set_option maxRecDepth 100000 in
theorem ww_X2_isLike_E {k0 : Nat} {x1 : Int32} {k2 : Nat} {x3 : Int32} (hk0 : k0 ∈ yy_Eds) (hk2 : k2 ∈ yy_Eds) {res : Int32 × yy_T} (C : yy_C D κ p m c cX2_isLike 7 s args RX2) (hr : meth.sig.returnType = (some .boolean)) (hlk : meth.locks = false) (Z : yy_Z D κ ext A s.heap τ H locs) (hl : lv_has ls 7 [(0, .ref (κ 4 + k0)), (1, .int x1), (2, .ref (κ 4 + k2)), (3, .int x3)]) (h : mm_X2_isLike k0 x1 k2 x3 τ = some res) : W p l e rm_X2_isLike s m args below meth c H locs 0 0 (MQ below (yy_Qi D κ ext A res) args s 0 0 A) (F0 m 0 ls []) := by
  unfold mm_X2_isLike at h
  refine lv_aload_n C.1.1 C.1.2.1 dX2_isLike_0 rfl (lv_at hl 0 rfl) ?_
  refine lv_iload_n C.1.1 C.1.2.1 dX2_isLike_1 rfl (lv_at hl 1 rfl) ?_
  refine yy_cVi0 (As := [.int x1]) (rest := []) (id := k0) (ci := 2) (q := (RX2, TX2, 3)) C Z (ss_X2_has l D κ ext k0 x1 hk0) (yy_Eds_lt _ hk0) (yy_ent_Eds hk0 _) rfl tw_420 kw_X2_has ⟨⟨rfl, rfl⟩, ⟨Nat.le_of_ble_eq_true rfl, Nat.le_of_ble_eq_true rfl⟩, Nat.le_of_ble_eq_true rfl, Nat.le_of_ble_eq_true rfl⟩ hl.1 rfl (Nat.le_of_ble_eq_true rfl) dX2_isLike_2 h (fun r1 τ H locs Z h => ?_)
  refine yy_if_eq (tgt := 31) C dX2_isLike_5 (by decide) h (fun h => ?_) (fun h => ?_)
  · refine lv_iconst (v := 0) C.1.1 C.1.2.1 dX2_isLike_31 (by decide) ?_
    exact yy_iret C Z hr hlk rfl dX2_isLike_32 h
  · refine lv_aload_n C.1.1 C.1.2.1 dX2_isLike_8 rfl (lv_at hl 2 rfl) ?_
    refine lv_iload_n C.1.1 C.1.2.1 dX2_isLike_9 rfl (lv_at hl 3 rfl) ?_
    refine yy_cVi0 (As := [.int x3]) (rest := []) (id := k2) (ci := 2) (q := (RX2, TX2, 3)) C Z (ss_X2_has l D κ ext k2 x3 hk2) (yy_Eds_lt _ hk2) (yy_ent_Eds hk2 _) rfl tw_420 kw_X2_has ⟨⟨rfl, rfl⟩, ⟨Nat.le_of_ble_eq_true rfl, Nat.le_of_ble_eq_true rfl⟩, Nat.le_of_ble_eq_true rfl, Nat.le_of_ble_eq_true rfl⟩ hl.1 rfl (Nat.le_of_ble_eq_true rfl) dX2_isLike_10 h (fun r2 τ H locs Z h => ?_)
    refine yy_if_eq (tgt := 31) C dX2_isLike_13 (by decide) h (fun h => ?_) (fun h => ?_)
    · refine lv_iconst (v := 0) C.1.1 C.1.2.1 dX2_isLike_31 (by decide) ?_
      exact yy_iret C Z hr hlk rfl dX2_isLike_32 h
    · refine lv_aload_n C.1.1 C.1.2.1 dX2_isLike_16 rfl (lv_at hl 0 rfl) ?_
      refine yg_X2_0 C Z hk0 tw_105 dX2_isLike_17 ?_
      refine lv_iload_n C.1.1 C.1.2.1 dX2_isLike_20 rfl (lv_at hl 1 rfl) ?_
      refine yy_iald C Z (yy_E1 _ hk0) (yy_lenE1 _ hk0) dX2_isLike_21 h (fun v3 h => ?_)
      refine lv_aload_n C.1.1 C.1.2.1 dX2_isLike_22 rfl (lv_at hl 2 rfl) ?_
      refine yg_X2_0 C Z hk2 tw_105 dX2_isLike_23 ?_
      refine lv_iload_n C.1.1 C.1.2.1 dX2_isLike_26 rfl (lv_at hl 3 rfl) ?_
      refine yy_iald C Z (yy_E1 _ hk2) (yy_lenE1 _ hk2) dX2_isLike_27 h (fun v4 h => ?_)
      refine yy_icmp_eq (tgt := 33) C dX2_isLike_28 (by decide) h (fun h => ?_) (fun h => ?_)
      · refine lv_iload_n C.1.1 C.1.2.1 dX2_isLike_33 rfl (lv_at hl 1 rfl) ?_
        refine lv_bipush (v := 8) C.1.1 C.1.2.1 dX2_isLike_34 (by decide) ?_
        refine lv_imul C.1.1 C.1.2.1 dX2_isLike_36 ?_
        refine lv_istore (lv' := [(4, .int (x1 * 8)), (0, .ref (κ 4 + k0)), (1, .int x1), (2, .ref (κ 4 + k2)), (3, .int x3)]) C.1.1 C.1.2.1 dX2_isLike_37 hl (by decide) rfl (fun ls hl => ?_)
        refine lv_iload_n C.1.1 C.1.2.1 dX2_isLike_39 rfl (lv_at hl 4 rfl) ?_
        refine lv_bipush (v := 8) C.1.1 C.1.2.1 dX2_isLike_40 (by decide) ?_
        refine lv_imul C.1.1 C.1.2.1 dX2_isLike_42 ?_
        refine lv_istore (lv' := [(5, .int (x3 * 8)), (4, .int (x1 * 8)), (0, .ref (κ 4 + k0)), (1, .int x1), (2, .ref (κ 4 + k2)), (3, .int x3)]) C.1.1 C.1.2.1 dX2_isLike_43 hl (by decide) rfl (fun ls hl => ?_)
        refine lv_iconst (v := 0) C.1.1 C.1.2.1 dX2_isLike_45 (by decide) ?_
        refine lv_istore (lv' := [(6, .int 0), (5, .int (x3 * 8)), (4, .int (x1 * 8)), (0, .ref (κ 4 + k0)), (1, .int x1), (2, .ref (κ 4 + k2)), (3, .int x3)]) C.1.1 C.1.2.1 dX2_isLike_46 hl (by decide) rfl (fun ls hl => ?_)
        exact ww_X2_isLike_48 hk0 hk2 C hr hlk Z (lv_sub hl [3, 4, 5, 2, 1, 0] rfl) h
      · refine lv_iconst (v := 0) C.1.1 C.1.2.1 dX2_isLike_31 (by decide) ?_
        exact yy_iret C Z hr hlk rfl dX2_isLike_32 h
set_option maxHeartbeats 4000000 in
set_option maxRecDepth 100000 in
theorem ss_X2_isLike (l : Launch) (D : va_G) (κ : Nat → Nat) (ext : va_W) (k0 : Nat) (x1 : Int32) (k2 : Nat) (x3 : Int32) (hk0 : k0 ∈ yy_Eds) (hk2 : k2 ∈ yy_Eds) : yy_Mi l D κ ext yX2_isLike cX2_isLike 7 (some .boolean) rm_X2_isLike 0 0 [.ref (κ 4 + k0), .int x1, .ref (κ 4 + k2), .int x3] (mm_X2_isLike k0 x1 k2 x3) := by
  intro sz τ res h
  refine yy_ofW (by decide) (Nat.le_of_ble_eq_true rfl) ?_
  intro p e s m args below meth c ls hsz E
  obtain ⟨C, hr, hlk, Z, hl⟩ := E
  subst hsz
  exact ww_X2_isLike_E hk0 hk2 C hr hlk Z hl h
/-! MovedLines$Kinds.firstLike(LMovedLines$Edition;ILMovedLines$Edition;I)I -/
noncomputable def mm_X4_firstLike_3b (k0 : Nat) (x1 : Int32) (k2 : Nat) (x3 : Int32) (x4 : Int32) : yy_M ((Int32) ⊕ ((Int32))) :=
  yy_br (x3 ≤ x4) (yy_rt (.inr x4)) (yy_cl (mm_X2_isLike k0 x1 k2 x4) (fun r1 => yy_br (r1 = 0) (yy_rt (.inl (x4 + 1))) (yy_rt (.inr x4))))
noncomputable def mm_X4_firstLike_26 (x4 : Int32) : yy_M Int32 :=
  yy_rt x4
noncomputable def mm_X4_firstLike_3 (k0 : Nat) (x1 : Int32) (k2 : Nat) (x3 : Int32) (x4 : Int32) : yy_M Int32 :=
  yy_cl (yy_lp (fun (w : Int32) => mm_X4_firstLike_3b k0 x1 k2 x3 w) x4) (fun w => mm_X4_firstLike_26 w)
noncomputable def mm_X4_firstLike (k0 : Nat) (x1 : Int32) (k2 : Nat) (x3 : Int32) : yy_M Int32 :=
  mm_X4_firstLike_3 k0 x1 k2 x3 0
theorem kw_X4_firstLike : yy_wS RX4 yX4_firstLike cX4_firstLike 5 (some .int) 4 := ⟨⟨tw_452, tw_57, tw_453⟩, by decide +kernel⟩
abbrev rm_X4_firstLike : Room := { frames := 2, cells := 0, slots := 0, locals := 47 }
set_option maxHeartbeats 4000000 in
set_option maxRecDepth 100000 in
theorem ww_X4_firstLike_3b {k0 : Nat} {x1 : Int32} {k2 : Nat} {x3 : Int32} {x4 : Int32} (hk0 : k0 ∈ yy_Eds) (hk2 : k2 ∈ yy_Eds) {res : ((Int32) ⊕ ((Int32))) × yy_T} {Q : State → Prop} (C : yy_C D κ p m c cX4_firstLike 5 s args RX4) (Z : yy_Z D κ ext A s.heap τ H locs) (hl : lv_has ls 5 [(0, .ref (κ 4 + k0)), (1, .int x1), (2, .ref (κ 4 + k2)), (3, .int x3), (4, .int x4)]) (h : mm_X4_firstLike_3b k0 x1 k2 x3 x4 τ = some res)
    (kI : ∀ (w : Int32) (τ1 : yy_T) (H1 : Heap) (locs1 : List Loc) (ls1 : Array Slot), res = (.inl w, τ1) → yy_Z D κ ext A s.heap τ1 H1 locs1 → lv_has ls1 5 [(0, .ref (κ 4 + k0)), (1, .int x1), (2, .ref (κ 4 + k2)), (3, .int x3), (4, .int w)] → W p l e rm_X4_firstLike s m args below meth c H1 locs1 0 0 Q (F0 m 3 ls1 []))
    (kR0 : ∀ (w : Int32) (τ1 : yy_T) (H1 : Heap) (locs1 : List Loc) (ls1 : Array Slot), res = (.inr w, τ1) → yy_Z D κ ext A s.heap τ1 H1 locs1 → lv_has ls1 5 [(4, .int w)] → W p l e rm_X4_firstLike s m args below meth c H1 locs1 0 0 Q (F0 m 26 ls1 [])) : W p l e rm_X4_firstLike s m args below meth c H locs 0 0 Q (F0 m 3 ls []) := by
  unfold mm_X4_firstLike_3b at h
  refine lv_iload C.1.1 C.1.2.1 dX4_firstLike_3 (lv_at hl 4 rfl) ?_
  refine lv_iload_n C.1.1 C.1.2.1 dX4_firstLike_5 rfl (lv_at hl 3 rfl) ?_
  refine yy_icmp_ge (tgt := 26) C dX4_firstLike_6 (by decide) h (fun h => ?_) (fun h => ?_)
  · exact kR0 _ _ _ _ _ (yy_rt_of h) Z (lv_sub hl [4] rfl)
  · refine lv_aload_n C.1.1 C.1.2.1 dX4_firstLike_9 rfl (lv_at hl 0 rfl) ?_
    refine lv_iload_n C.1.1 C.1.2.1 dX4_firstLike_10 rfl (lv_at hl 1 rfl) ?_
    refine lv_aload_n C.1.1 C.1.2.1 dX4_firstLike_11 rfl (lv_at hl 2 rfl) ?_
    refine lv_iload C.1.1 C.1.2.1 dX4_firstLike_12 (lv_at hl 4 rfl) ?_
    refine yy_cVi0 (As := [.int x1, .ref (κ 4 + k2), .int x4]) (rest := []) (id := k0) (ci := 2) (q := (RX2, TX2, 3)) C Z (ss_X2_isLike l D κ ext k0 x1 k2 x4 hk0 hk2) (yy_Eds_lt _ hk0) (yy_ent_Eds hk0 _) rfl tw_454 kw_X2_isLike ⟨⟨rfl, rfl⟩, ⟨Nat.le_of_ble_eq_true rfl, Nat.le_of_ble_eq_true rfl⟩, Nat.le_of_ble_eq_true rfl, Nat.le_of_ble_eq_true rfl⟩ hl.1 rfl (Nat.le_of_ble_eq_true rfl) dX4_firstLike_14 h (fun r1 τ H locs Z h => ?_)
    refine yy_if_ne (tgt := 26) C dX4_firstLike_17 (by decide) h (fun h => ?_) (fun h => ?_)
    · exact kR0 _ _ _ _ _ (yy_rt_of h) Z (lv_sub hl [4] rfl)
    · refine lv_iinc (v := x4 + 1) (lv' := [(4, .int (x4 + 1)), (0, .ref (κ 4 + k0)), (1, .int x1), (2, .ref (κ 4 + k2)), (3, .int x3)]) C.1.1 C.1.2.1 dX4_firstLike_20 hl (k := 4) rfl (by rfl) (by decide) rfl (fun ls hl => ?_)
      refine lv_goto (tgt := 3) C.1.1 C.1.2.1 dX4_firstLike_23 (by decide) ?_
      exact kI _ _ _ _ _ (yy_rt_of h) Z (lv_sub hl [1, 2, 3, 4, 0] rfl)
set_option maxHeartbeats 4000000 in
set_option maxRecDepth 100000 in
theorem ww_X4_firstLike_26 {x4 : Int32} {res : Int32 × yy_T} (C : yy_C D κ p m c cX4_firstLike 5 s args RX4) (hr : meth.sig.returnType = (some .int)) (hlk : meth.locks = false) (Z : yy_Z D κ ext A s.heap τ H locs) (hl : lv_has ls 5 [(4, .int x4)]) (h : mm_X4_firstLike_26 x4 τ = some res) : W p l e rm_X4_firstLike s m args below meth c H locs 0 0 (MQ below (yy_Qi D κ ext A res) args s 0 0 A) (F0 m 26 ls []) := by
  unfold mm_X4_firstLike_26 at h
  refine lv_iload C.1.1 C.1.2.1 dX4_firstLike_26 (lv_at hl 0 rfl) ?_
  exact yy_iret C Z hr hlk rfl dX4_firstLike_28 h
set_option maxHeartbeats 4000000 in
set_option maxRecDepth 100000 in
theorem ww_X4_firstLike_3 {k0 : Nat} {x1 : Int32} {k2 : Nat} {x3 : Int32} {x4 : Int32} (hk0 : k0 ∈ yy_Eds) (hk2 : k2 ∈ yy_Eds) {res : Int32 × yy_T} (C : yy_C D κ p m c cX4_firstLike 5 s args RX4) (hr : meth.sig.returnType = (some .int)) (hlk : meth.locks = false) (Z : yy_Z D κ ext A s.heap τ H locs) (hl : lv_has ls 5 [(0, .ref (κ 4 + k0)), (1, .int x1), (2, .ref (κ 4 + k2)), (3, .int x3), (4, .int x4)]) (h : mm_X4_firstLike_3 k0 x1 k2 x3 x4 τ = some res) : W p l e rm_X4_firstLike s m args below meth c H locs 0 0 (MQ below (yy_Qi D κ ext A res) args s 0 0 A) (F0 m 3 ls []) := by
  unfold mm_X4_firstLike_3 at h
  refine yy_loop h (fun (w : Int32) (τ : yy_T) => ∀ (H : Heap) (locs : List Loc) (ls : Array Slot), yy_Z D κ ext A s.heap τ H locs → lv_has ls 5 [(0, .ref (κ 4 + k0)), (1, .int x1), (2, .ref (κ 4 + k2)), (3, .int x3), (4, .int w)] → W p l e rm_X4_firstLike s m args below meth c H locs 0 0 (MQ below (yy_Qi D κ ext A res) args s 0 0 A) (F0 m 3 ls [])) ?_ H locs ls Z hl
  intro w τ y hy hI hX H locs ls Z hl
  refine ww_X4_firstLike_3b hk0 hk2 C Z hl hy (fun w τ H locs ls ey Z hl => hI w τ ey H locs ls Z hl) (fun w τ H locs ls ey Z hl => ?_)
  · have h := hX _ _ ey
    exact ww_X4_firstLike_26  C hr hlk Z (lv_sub hl [0] rfl) h
set_option maxHeartbeats 4000000 in
set_option maxRecDepth 100000 in
theorem ww_X4_firstLike_E {k0 : Nat} {x1 : Int32} {k2 : Nat} {x3 : Int32} (hk0 : k0 ∈ yy_Eds) (hk2 : k2 ∈ yy_Eds) {res : Int32 × yy_T} (C : yy_C D κ p m c cX4_firstLike 5 s args RX4) (hr : meth.sig.returnType = (some .int)) (hlk : meth.locks = false) (Z : yy_Z D κ ext A s.heap τ H locs) (hl : lv_has ls 5 [(0, .ref (κ 4 + k0)), (1, .int x1), (2, .ref (κ 4 + k2)), (3, .int x3)]) (h : mm_X4_firstLike k0 x1 k2 x3 τ = some res) : W p l e rm_X4_firstLike s m args below meth c H locs 0 0 (MQ below (yy_Qi D κ ext A res) args s 0 0 A) (F0 m 0 ls []) := by
  unfold mm_X4_firstLike at h
  refine lv_iconst (v := 0) C.1.1 C.1.2.1 dX4_firstLike_0 (by decide) ?_
  refine lv_istore (lv' := [(4, .int 0), (0, .ref (κ 4 + k0)), (1, .int x1), (2, .ref (κ 4 + k2)), (3, .int x3)]) C.1.1 C.1.2.1 dX4_firstLike_1 hl (by decide) rfl (fun ls hl => ?_)
  exact ww_X4_firstLike_3 hk0 hk2 C hr hlk Z (lv_sub hl [1, 2, 3, 4, 0] rfl) h
set_option maxHeartbeats 4000000 in
set_option maxRecDepth 100000 in
theorem ss_X4_firstLike (l : Launch) (D : va_G) (κ : Nat → Nat) (ext : va_W) (k0 : Nat) (x1 : Int32) (k2 : Nat) (x3 : Int32) (hk0 : k0 ∈ yy_Eds) (hk2 : k2 ∈ yy_Eds) : yy_Mi l D κ ext yX4_firstLike cX4_firstLike 5 (some .int) rm_X4_firstLike 0 0 [.ref (κ 4 + k0), .int x1, .ref (κ 4 + k2), .int x3] (mm_X4_firstLike k0 x1 k2 x3) := by
  intro sz τ res h
  refine yy_ofW (by decide) (Nat.le_of_ble_eq_true rfl) ?_
  intro p e s m args below meth c ls hsz E
  obtain ⟨C, hr, hlk, Z, hl⟩ := E
  subst hsz
  exact ww_X4_firstLike_E hk0 hk2 C hr hlk Z hl h
/-! MovedLines$Kinds.number(LMovedLines$Edition;LMovedLines$Edition;)V -/
noncomputable def mm_X4_number_18b (k1 : Nat) (k2 : Nat) (x3 : Int32) : yy_M ((Int32) ⊕ ((Unit))) :=
  yy_rF 50 2 fun v3 => yy_br (v3 ≤ x3) (yy_rt (.inr ())) (yy_cl (mm_X4_firstLike k1 x3 k1 x3) (fun r4 => yy_wA 51 14 x3 r4 (yy_rt (.inl (x3 + 1)))))
noncomputable def mm_X4_number_47b (k1 : Nat) (k2 : Nat) (x3 : Int32) : yy_M ((Int32) ⊕ ((Unit))) :=
  yy_rF 50 3 fun v5 => yy_br (v5 ≤ x3) (yy_rt (.inr ())) (yy_rF 50 2 fun v6 => yy_cl (mm_X4_firstLike k2 x3 k1 v6) (fun r7 => yy_wA 52 14 x3 r7 (yy_rt (.inl (x3 + 1)))))
noncomputable def mm_X4_number_77 : yy_M Unit :=
  yy_rt ()
noncomputable def mm_X4_number_47 (k1 : Nat) (k2 : Nat) (x3 : Int32) : yy_M Unit :=
  yy_cl (yy_lp (fun (w : Int32) => mm_X4_number_47b k1 k2 w) x3) (fun w => mm_X4_number_77 )
noncomputable def mm_X4_number_45 (k1 : Nat) (k2 : Nat) : yy_M Unit :=
  mm_X4_number_47 k1 k2 0
noncomputable def mm_X4_number_18 (k1 : Nat) (k2 : Nat) (x3 : Int32) : yy_M Unit :=
  yy_cl (yy_lp (fun (w : Int32) => mm_X4_number_18b k1 k2 w) x3) (fun w => mm_X4_number_45 k1 k2)
noncomputable def mm_X4_number (k1 : Nat) (k2 : Nat) : yy_M Unit :=
  yy_rF k1 2 fun v1 => yy_wF 50 2 v1 (yy_rF k2 2 fun v2 => yy_wF 50 3 v2 (mm_X4_number_18 k1 k2 0))
theorem kw_X4_number : yy_wV RX4 yX4_number cX4_number 4 none 2 := ⟨⟨tw_448, tw_449, tw_57, tw_450⟩, by decide +kernel⟩
abbrev rm_X4_number : Room := { frames := 3, cells := 0, slots := 0, locals := 71 }
set_option maxHeartbeats 4000000 in
set_option maxRecDepth 100000 in
theorem ww_X4_number_18b {k1 : Nat} {k2 : Nat} {x3 : Int32} (hk1 : k1 ∈ yy_Eds) (hk2 : k2 ∈ yy_Eds) {res : ((Int32) ⊕ ((Unit))) × yy_T} {Q : State → Prop} (C : yy_C D κ p m c cX4_number 4 s args RX4) (Z : yy_Z D κ ext A s.heap τ H locs) (hl : lv_has ls 4 [(0, .ref (κ 4 + 50)), (1, .ref (κ 4 + k1)), (2, .ref (κ 4 + k2)), (3, .int x3)]) (h : mm_X4_number_18b k1 k2 x3 τ = some res)
    (kI : ∀ (w : Int32) (τ1 : yy_T) (H1 : Heap) (locs1 : List Loc) (ls1 : Array Slot), res = (.inl w, τ1) → yy_Z D κ ext A s.heap τ1 H1 locs1 → lv_has ls1 4 [(0, .ref (κ 4 + 50)), (1, .ref (κ 4 + k1)), (2, .ref (κ 4 + k2)), (3, .int w)] → W p l e rm_X4_number s m args below meth c H1 locs1 0 0 Q (F0 m 18 ls1 []))
    (kR0 : ∀ (w : Unit) (τ1 : yy_T) (H1 : Heap) (locs1 : List Loc) (ls1 : Array Slot), res = (.inr w, τ1) → yy_Z D κ ext A s.heap τ1 H1 locs1 → lv_has ls1 4 [(0, .ref (κ 4 + 50)), (1, .ref (κ 4 + k1)), (2, .ref (κ 4 + k2))] → W p l e rm_X4_number s m args below meth c H1 locs1 0 0 Q (F0 m 45 ls1 [])) : W p l e rm_X4_number s m args below meth c H locs 0 0 Q (F0 m 18 ls []) := by
  unfold mm_X4_number_18b at h
  refine lv_iload_n C.1.1 C.1.2.1 dX4_number_18 rfl (lv_at hl 3 rfl) ?_
  refine lv_aload_n C.1.1 C.1.2.1 dX4_number_19 rfl (lv_at hl 0 rfl) ?_
  refine yg_X4_2 C Z tw_188 dX4_number_20 h (fun v3 h => ?_)
  refine yy_icmp_ge (tgt := 45) C dX4_number_23 (by decide) h (fun h => ?_) (fun h => ?_)
  · exact kR0 _ _ _ _ _ (yy_rt_of h) Z (lv_sub hl [0, 1, 2] rfl)
  · refine lv_aload_n C.1.1 C.1.2.1 dX4_number_26 rfl (lv_at hl 0 rfl) ?_
    refine yg_X4_0 C Z tw_182 dX4_number_27 ?_
    refine lv_iload_n C.1.1 C.1.2.1 dX4_number_30 rfl (lv_at hl 3 rfl) ?_
    refine lv_aload_n C.1.1 C.1.2.1 dX4_number_31 rfl (lv_at hl 1 rfl) ?_
    refine lv_iload_n C.1.1 C.1.2.1 dX4_number_32 rfl (lv_at hl 3 rfl) ?_
    refine lv_aload_n C.1.1 C.1.2.1 dX4_number_33 rfl (lv_at hl 1 rfl) ?_
    refine lv_iload_n C.1.1 C.1.2.1 dX4_number_34 rfl (lv_at hl 3 rfl) ?_
    refine yy_cSi0 (As := [.ref (κ 4 + k1), .int x3, .ref (κ 4 + k1), .int x3]) (rest := [.int x3, .ref (κ 4 + 51)])  C Z (ss_X4_firstLike l D κ ext k1 x3 k1 x3 hk1 hk1) tw_451 kw_X4_firstLike ⟨⟨rfl, rfl⟩, ⟨Nat.le_of_ble_eq_true rfl, Nat.le_of_ble_eq_true rfl⟩, Nat.le_of_ble_eq_true rfl, Nat.le_of_ble_eq_true rfl⟩ hl.1 rfl (Nat.le_of_ble_eq_true rfl) dX4_number_35 h (fun r4 τ H locs Z h => ?_)
    refine yy_iast C Z (by decide) rfl dX4_number_38 h (fun H locs τ Z h => ?_)
    refine lv_iinc (v := x3 + 1) (lv' := [(3, .int (x3 + 1)), (0, .ref (κ 4 + 50)), (1, .ref (κ 4 + k1)), (2, .ref (κ 4 + k2))]) C.1.1 C.1.2.1 dX4_number_39 hl (k := 3) rfl (by rfl) (by decide) rfl (fun ls hl => ?_)
    refine lv_goto (tgt := 18) C.1.1 C.1.2.1 dX4_number_42 (by decide) ?_
    exact kI _ _ _ _ _ (yy_rt_of h) Z (lv_sub hl [1, 2, 3, 0] rfl)
set_option maxHeartbeats 4000000 in
set_option maxRecDepth 100000 in
theorem ww_X4_number_47b {k1 : Nat} {k2 : Nat} {x3 : Int32} (hk1 : k1 ∈ yy_Eds) (hk2 : k2 ∈ yy_Eds) {res : ((Int32) ⊕ ((Unit))) × yy_T} {Q : State → Prop} (C : yy_C D κ p m c cX4_number 4 s args RX4) (Z : yy_Z D κ ext A s.heap τ H locs) (hl : lv_has ls 4 [(0, .ref (κ 4 + 50)), (1, .ref (κ 4 + k1)), (2, .ref (κ 4 + k2)), (3, .int x3)]) (h : mm_X4_number_47b k1 k2 x3 τ = some res)
    (kI : ∀ (w : Int32) (τ1 : yy_T) (H1 : Heap) (locs1 : List Loc) (ls1 : Array Slot), res = (.inl w, τ1) → yy_Z D κ ext A s.heap τ1 H1 locs1 → lv_has ls1 4 [(0, .ref (κ 4 + 50)), (1, .ref (κ 4 + k1)), (2, .ref (κ 4 + k2)), (3, .int w)] → W p l e rm_X4_number s m args below meth c H1 locs1 0 0 Q (F0 m 47 ls1 []))
    (kR0 : ∀ (w : Unit) (τ1 : yy_T) (H1 : Heap) (locs1 : List Loc) (ls1 : Array Slot), res = (.inr w, τ1) → yy_Z D κ ext A s.heap τ1 H1 locs1 → lv_has ls1 4 [] → W p l e rm_X4_number s m args below meth c H1 locs1 0 0 Q (F0 m 77 ls1 [])) : W p l e rm_X4_number s m args below meth c H locs 0 0 Q (F0 m 47 ls []) := by
  unfold mm_X4_number_47b at h
  refine lv_iload_n C.1.1 C.1.2.1 dX4_number_47 rfl (lv_at hl 3 rfl) ?_
  refine lv_aload_n C.1.1 C.1.2.1 dX4_number_48 rfl (lv_at hl 0 rfl) ?_
  refine yg_X4_3 C Z tw_191 dX4_number_49 h (fun v5 h => ?_)
  refine yy_icmp_ge (tgt := 77) C dX4_number_52 (by decide) h (fun h => ?_) (fun h => ?_)
  · exact kR0 _ _ _ _ _ (yy_rt_of h) Z (lv_sub hl [] rfl)
  · refine lv_aload_n C.1.1 C.1.2.1 dX4_number_55 rfl (lv_at hl 0 rfl) ?_
    refine yg_X4_1 C Z tw_185 dX4_number_56 ?_
    refine lv_iload_n C.1.1 C.1.2.1 dX4_number_59 rfl (lv_at hl 3 rfl) ?_
    refine lv_aload_n C.1.1 C.1.2.1 dX4_number_60 rfl (lv_at hl 2 rfl) ?_
    refine lv_iload_n C.1.1 C.1.2.1 dX4_number_61 rfl (lv_at hl 3 rfl) ?_
    refine lv_aload_n C.1.1 C.1.2.1 dX4_number_62 rfl (lv_at hl 1 rfl) ?_
    refine lv_aload_n C.1.1 C.1.2.1 dX4_number_63 rfl (lv_at hl 0 rfl) ?_
    refine yg_X4_2 C Z tw_188 dX4_number_64 h (fun v6 h => ?_)
    refine yy_cSi0 (As := [.ref (κ 4 + k2), .int x3, .ref (κ 4 + k1), .int v6]) (rest := [.int x3, .ref (κ 4 + 52)])  C Z (ss_X4_firstLike l D κ ext k2 x3 k1 v6 hk2 hk1) tw_451 kw_X4_firstLike ⟨⟨rfl, rfl⟩, ⟨Nat.le_of_ble_eq_true rfl, Nat.le_of_ble_eq_true rfl⟩, Nat.le_of_ble_eq_true rfl, Nat.le_of_ble_eq_true rfl⟩ hl.1 rfl (Nat.le_of_ble_eq_true rfl) dX4_number_67 h (fun r7 τ H locs Z h => ?_)
    refine yy_iast C Z (by decide) rfl dX4_number_70 h (fun H locs τ Z h => ?_)
    refine lv_iinc (v := x3 + 1) (lv' := [(3, .int (x3 + 1)), (0, .ref (κ 4 + 50)), (1, .ref (κ 4 + k1)), (2, .ref (κ 4 + k2))]) C.1.1 C.1.2.1 dX4_number_71 hl (k := 3) rfl (by rfl) (by decide) rfl (fun ls hl => ?_)
    refine lv_goto (tgt := 47) C.1.1 C.1.2.1 dX4_number_74 (by decide) ?_
    exact kI _ _ _ _ _ (yy_rt_of h) Z (lv_sub hl [1, 2, 3, 0] rfl)
set_option maxHeartbeats 4000000 in
set_option maxRecDepth 100000 in
theorem ww_X4_number_77 {res : Unit × yy_T} (C : yy_C D κ p m c cX4_number 4 s args RX4) (hr : meth.sig.returnType = none) (hlk : meth.locks = false) (Z : yy_Z D κ ext A s.heap τ H locs) (hl : lv_has ls 4 []) (h : mm_X4_number_77  τ = some res) : W p l e rm_X4_number s m args below meth c H locs 0 0 (MQ below (yy_Qv D κ ext A res) args s 0 0 A) (F0 m 77 ls []) := by
  unfold mm_X4_number_77 at h
  exact yy_vret C Z hr hlk dX4_number_77 h
set_option maxHeartbeats 4000000 in
set_option maxRecDepth 100000 in
theorem ww_X4_number_47 {k1 : Nat} {k2 : Nat} {x3 : Int32} (hk1 : k1 ∈ yy_Eds) (hk2 : k2 ∈ yy_Eds) {res : Unit × yy_T} (C : yy_C D κ p m c cX4_number 4 s args RX4) (hr : meth.sig.returnType = none) (hlk : meth.locks = false) (Z : yy_Z D κ ext A s.heap τ H locs) (hl : lv_has ls 4 [(0, .ref (κ 4 + 50)), (1, .ref (κ 4 + k1)), (2, .ref (κ 4 + k2)), (3, .int x3)]) (h : mm_X4_number_47 k1 k2 x3 τ = some res) : W p l e rm_X4_number s m args below meth c H locs 0 0 (MQ below (yy_Qv D κ ext A res) args s 0 0 A) (F0 m 47 ls []) := by
  unfold mm_X4_number_47 at h
  refine yy_loop h (fun (w : Int32) (τ : yy_T) => ∀ (H : Heap) (locs : List Loc) (ls : Array Slot), yy_Z D κ ext A s.heap τ H locs → lv_has ls 4 [(0, .ref (κ 4 + 50)), (1, .ref (κ 4 + k1)), (2, .ref (κ 4 + k2)), (3, .int w)] → W p l e rm_X4_number s m args below meth c H locs 0 0 (MQ below (yy_Qv D κ ext A res) args s 0 0 A) (F0 m 47 ls [])) ?_ H locs ls Z hl
  intro w τ y hy hI hX H locs ls Z hl
  refine ww_X4_number_47b hk1 hk2 C Z hl hy (fun w τ H locs ls ey Z hl => hI w τ ey H locs ls Z hl) (fun w τ H locs ls ey Z hl => ?_)
  · have h := hX _ _ ey
    exact ww_X4_number_77  C hr hlk Z (lv_sub hl [] rfl) h
set_option maxHeartbeats 4000000 in
set_option maxRecDepth 100000 in
theorem ww_X4_number_45 {k1 : Nat} {k2 : Nat} (hk1 : k1 ∈ yy_Eds) (hk2 : k2 ∈ yy_Eds) {res : Unit × yy_T} (C : yy_C D κ p m c cX4_number 4 s args RX4) (hr : meth.sig.returnType = none) (hlk : meth.locks = false) (Z : yy_Z D κ ext A s.heap τ H locs) (hl : lv_has ls 4 [(0, .ref (κ 4 + 50)), (1, .ref (κ 4 + k1)), (2, .ref (κ 4 + k2))]) (h : mm_X4_number_45 k1 k2 τ = some res) : W p l e rm_X4_number s m args below meth c H locs 0 0 (MQ below (yy_Qv D κ ext A res) args s 0 0 A) (F0 m 45 ls []) := by
  unfold mm_X4_number_45 at h
  refine lv_iconst (v := 0) C.1.1 C.1.2.1 dX4_number_45 (by decide) ?_
  refine lv_istore_n (lv' := [(3, .int 0), (0, .ref (κ 4 + 50)), (1, .ref (κ 4 + k1)), (2, .ref (κ 4 + k2))]) C.1.1 C.1.2.1 dX4_number_46 rfl hl (by decide) rfl (fun ls hl => ?_)
  exact ww_X4_number_47 hk1 hk2 C hr hlk Z (lv_sub hl [1, 2, 3, 0] rfl) h
set_option maxHeartbeats 4000000 in
set_option maxRecDepth 100000 in
theorem ww_X4_number_18 {k1 : Nat} {k2 : Nat} {x3 : Int32} (hk1 : k1 ∈ yy_Eds) (hk2 : k2 ∈ yy_Eds) {res : Unit × yy_T} (C : yy_C D κ p m c cX4_number 4 s args RX4) (hr : meth.sig.returnType = none) (hlk : meth.locks = false) (Z : yy_Z D κ ext A s.heap τ H locs) (hl : lv_has ls 4 [(0, .ref (κ 4 + 50)), (1, .ref (κ 4 + k1)), (2, .ref (κ 4 + k2)), (3, .int x3)]) (h : mm_X4_number_18 k1 k2 x3 τ = some res) : W p l e rm_X4_number s m args below meth c H locs 0 0 (MQ below (yy_Qv D κ ext A res) args s 0 0 A) (F0 m 18 ls []) := by
  unfold mm_X4_number_18 at h
  refine yy_loop h (fun (w : Int32) (τ : yy_T) => ∀ (H : Heap) (locs : List Loc) (ls : Array Slot), yy_Z D κ ext A s.heap τ H locs → lv_has ls 4 [(0, .ref (κ 4 + 50)), (1, .ref (κ 4 + k1)), (2, .ref (κ 4 + k2)), (3, .int w)] → W p l e rm_X4_number s m args below meth c H locs 0 0 (MQ below (yy_Qv D κ ext A res) args s 0 0 A) (F0 m 18 ls [])) ?_ H locs ls Z hl
  intro w τ y hy hI hX H locs ls Z hl
  refine ww_X4_number_18b hk1 hk2 C Z hl hy (fun w τ H locs ls ey Z hl => hI w τ ey H locs ls Z hl) (fun w τ H locs ls ey Z hl => ?_)
  · have h := hX _ _ ey
    exact ww_X4_number_45 hk1 hk2 C hr hlk Z (lv_sub hl [0, 1, 2] rfl) h
set_option maxHeartbeats 4000000 in
set_option maxRecDepth 100000 in
theorem ww_X4_number_E {k1 : Nat} {k2 : Nat} (hk1 : k1 ∈ yy_Eds) (hk2 : k2 ∈ yy_Eds) {res : Unit × yy_T} (C : yy_C D κ p m c cX4_number 4 s args RX4) (hr : meth.sig.returnType = none) (hlk : meth.locks = false) (Z : yy_Z D κ ext A s.heap τ H locs) (hl : lv_has ls 4 [(0, .ref (κ 4 + 50)), (1, .ref (κ 4 + k1)), (2, .ref (κ 4 + k2))]) (h : mm_X4_number k1 k2 τ = some res) : W p l e rm_X4_number s m args below meth c H locs 0 0 (MQ below (yy_Qv D κ ext A res) args s 0 0 A) (F0 m 0 ls []) := by
  unfold mm_X4_number at h
  refine lv_aload_n C.1.1 C.1.2.1 dX4_number_0 rfl (lv_at hl 0 rfl) ?_
  refine lv_aload_n C.1.1 C.1.2.1 dX4_number_1 rfl (lv_at hl 1 rfl) ?_
  refine yg_X2_2 C Z hk1 tw_112 dX4_number_2 h (fun v1 h => ?_)
  refine yp_X4_2 C Z tw_188 dX4_number_5 h (fun H locs τ Z h => ?_)
  refine lv_aload_n C.1.1 C.1.2.1 dX4_number_8 rfl (lv_at hl 0 rfl) ?_
  refine lv_aload_n C.1.1 C.1.2.1 dX4_number_9 rfl (lv_at hl 2 rfl) ?_
  refine yg_X2_2 C Z hk2 tw_112 dX4_number_10 h (fun v2 h => ?_)
  refine yp_X4_3 C Z tw_191 dX4_number_13 h (fun H locs τ Z h => ?_)
  refine lv_iconst (v := 0) C.1.1 C.1.2.1 dX4_number_16 (by decide) ?_
  refine lv_istore_n (lv' := [(3, .int 0), (0, .ref (κ 4 + 50)), (1, .ref (κ 4 + k1)), (2, .ref (κ 4 + k2))]) C.1.1 C.1.2.1 dX4_number_17 rfl hl (by decide) rfl (fun ls hl => ?_)
  exact ww_X4_number_18 hk1 hk2 C hr hlk Z (lv_sub hl [1, 2, 3, 0] rfl) h
set_option maxHeartbeats 4000000 in
set_option maxRecDepth 100000 in
theorem ss_X4_number (l : Launch) (D : va_G) (κ : Nat → Nat) (ext : va_W) (k1 : Nat) (k2 : Nat) (hk1 : k1 ∈ yy_Eds) (hk2 : k2 ∈ yy_Eds) : yy_Mv l D κ ext yX4_number cX4_number 4 none rm_X4_number 0 0 [.ref (κ 4 + 50), .ref (κ 4 + k1), .ref (κ 4 + k2)] (mm_X4_number k1 k2) := by
  intro sz τ res h
  refine yy_ofW (by decide) (Nat.le_of_ble_eq_true rfl) ?_
  intro p e s m args below meth c ls hsz E
  obtain ⟨C, hr, hlk, Z, hl⟩ := E
  subst hsz
  exact ww_X4_number_E hk1 hk2 C hr hlk Z hl h
/-! MovedLines$Told.clear()V -/
noncomputable def mm_X8_clear_9b (k0 : Nat) (x1 : Int32) (x2 : Int32) : yy_M ((Int32) ⊕ ((Unit))) :=
  yy_br (14 ≤ x2) (yy_rt (.inr ())) (yy_ck (yy_in x1 2 = true) (yy_wA (k0 + 1 + 1 + Int32.toNatClampNeg x1) 14 x2 3 (yy_ck (yy_in x1 2 = true) (yy_wA (k0 + 4 + 1 + Int32.toNatClampNeg x1) 14 x2 ((-1)) (yy_ck (yy_in x1 2 = true) (yy_wA (k0 + 7 + 1 + Int32.toNatClampNeg x1) 14 x2 ((-1)) (yy_rt (.inl (x2 + 1)))))))))
noncomputable def mm_X8_clear_48 (k0 : Nat) (x1 : Int32) : yy_M ((Int32) ⊕ ((Unit))) :=
  yy_rt (.inl (x1 + 1))
noncomputable def mm_X8_clear_9 (k0 : Nat) (x1 : Int32) (x2 : Int32) : yy_M ((Int32) ⊕ ((Unit))) :=
  yy_cl (yy_lp (fun (w : Int32) => mm_X8_clear_9b k0 x1 w) x2) (fun w => mm_X8_clear_48 k0 x1)
noncomputable def mm_X8_clear_2b (k0 : Nat) (x1 : Int32) : yy_M ((Int32) ⊕ ((Unit))) :=
  yy_br (1 < x1) (yy_rt (.inr ())) (mm_X8_clear_9 k0 x1 0)
noncomputable def mm_X8_clear_54 (k0 : Nat) : yy_M Unit :=
  yy_wA (k0 + 10) 3 0 0 (yy_wA (k0 + 10) 3 1 0 (yy_wA (k0 + 10) 3 2 0 (yy_wF k0 7 0 (yy_wF k0 8 0 (yy_wF k0 9 0 (yy_wF k0 10 0 (yy_rt ())))))))
noncomputable def mm_X8_clear_2 (k0 : Nat) (x1 : Int32) : yy_M Unit :=
  yy_cl (yy_lp (fun (w : Int32) => mm_X8_clear_2b k0 w) x1) (fun w => mm_X8_clear_54 k0)
noncomputable def mm_X8_clear (k0 : Nat) : yy_M Unit :=
  mm_X8_clear_2 k0 0
theorem kw_X8_clear : yy_wV RX8 yX8_clear cX8_clear 3 none 0 := ⟨⟨tw_459, tw_460, tw_60, tw_461⟩, by decide +kernel⟩
abbrev rm_X8_clear : Room := { frames := 0, cells := 0, slots := 0, locals := 0 }
set_option maxHeartbeats 4000000 in
set_option maxRecDepth 100000 in
theorem ww_X8_clear_9b {k0 : Nat} {x1 : Int32} {x2 : Int32} (hk0 : k0 ∈ yy_Tds) {res : ((Int32) ⊕ ((Unit))) × yy_T} {Q : State → Prop} (C : yy_C D κ p m c cX8_clear 3 s args RX8) (Z : yy_Z D κ ext A s.heap τ H locs) (hl : lv_has ls 3 [(0, .ref (κ 4 + k0)), (1, .int x1), (2, .int x2)]) (h : mm_X8_clear_9b k0 x1 x2 τ = some res)
    (kI : ∀ (w : Int32) (τ1 : yy_T) (H1 : Heap) (locs1 : List Loc) (ls1 : Array Slot), res = (.inl w, τ1) → yy_Z D κ ext A s.heap τ1 H1 locs1 → lv_has ls1 3 [(0, .ref (κ 4 + k0)), (1, .int x1), (2, .int w)] → W p l e rm_X8_clear s m args below meth c H1 locs1 0 0 Q (F0 m 9 ls1 []))
    (kR0 : ∀ (w : Unit) (τ1 : yy_T) (H1 : Heap) (locs1 : List Loc) (ls1 : Array Slot), res = (.inr w, τ1) → yy_Z D κ ext A s.heap τ1 H1 locs1 → lv_has ls1 3 [(0, .ref (κ 4 + k0)), (1, .int x1)] → W p l e rm_X8_clear s m args below meth c H1 locs1 0 0 Q (F0 m 48 ls1 [])) : W p l e rm_X8_clear s m args below meth c H locs 0 0 Q (F0 m 9 ls []) := by
  unfold mm_X8_clear_9b at h
  refine lv_iload_n C.1.1 C.1.2.1 dX8_clear_9 rfl (lv_at hl 2 rfl) ?_
  refine lv_bipush (v := 14) C.1.1 C.1.2.1 dX8_clear_10 (by decide) ?_
  refine yy_icmp_ge (tgt := 48) C dX8_clear_12 (by decide) h (fun h => ?_) (fun h => ?_)
  · exact kR0 _ _ _ _ _ (yy_rt_of h) Z (lv_sub hl [0, 1] rfl)
  · refine lv_aload_n C.1.1 C.1.2.1 dX8_clear_15 rfl (lv_at hl 0 rfl) ?_
    refine yg_X8_0 C Z hk0 tw_283 dX8_clear_16 ?_
    refine lv_iload_n C.1.1 C.1.2.1 dX8_clear_19 rfl (lv_at hl 1 rfl) ?_
    refine yy_aald2 C Z (yy_D1 _ hk0) dX8_clear_20 h (fun hn1 h => ?_)
    refine lv_iload_n C.1.1 C.1.2.1 dX8_clear_21 rfl (lv_at hl 2 rfl) ?_
    refine lv_iconst (v := 3) C.1.1 C.1.2.1 dX8_clear_22 (by decide) ?_
    refine yy_iast C Z (yy_G0 _ (yy_D1 _ hk0) _ hn1) (yy_lenG0 _ (yy_D1 _ hk0) _ hn1) dX8_clear_23 h (fun H locs τ Z h => ?_)
    refine lv_aload_n C.1.1 C.1.2.1 dX8_clear_24 rfl (lv_at hl 0 rfl) ?_
    refine yg_X8_1 C Z hk0 tw_285 dX8_clear_25 ?_
    refine lv_iload_n C.1.1 C.1.2.1 dX8_clear_28 rfl (lv_at hl 1 rfl) ?_
    refine yy_aald2 C Z (yy_D4 _ hk0) dX8_clear_29 h (fun hn2 h => ?_)
    refine lv_iload_n C.1.1 C.1.2.1 dX8_clear_30 rfl (lv_at hl 2 rfl) ?_
    refine lv_iconst (v := (-1)) C.1.1 C.1.2.1 dX8_clear_31 (by decide) ?_
    refine yy_iast C Z (yy_G0 _ (yy_D4 _ hk0) _ hn2) (yy_lenG0 _ (yy_D4 _ hk0) _ hn2) dX8_clear_32 h (fun H locs τ Z h => ?_)
    refine lv_aload_n C.1.1 C.1.2.1 dX8_clear_33 rfl (lv_at hl 0 rfl) ?_
    refine yg_X8_2 C Z hk0 tw_287 dX8_clear_34 ?_
    refine lv_iload_n C.1.1 C.1.2.1 dX8_clear_37 rfl (lv_at hl 1 rfl) ?_
    refine yy_aald2 C Z (yy_D7 _ hk0) dX8_clear_38 h (fun hn3 h => ?_)
    refine lv_iload_n C.1.1 C.1.2.1 dX8_clear_39 rfl (lv_at hl 2 rfl) ?_
    refine lv_iconst (v := (-1)) C.1.1 C.1.2.1 dX8_clear_40 (by decide) ?_
    refine yy_iast C Z (yy_G0 _ (yy_D7 _ hk0) _ hn3) (yy_lenG0 _ (yy_D7 _ hk0) _ hn3) dX8_clear_41 h (fun H locs τ Z h => ?_)
    refine lv_iinc (v := x2 + 1) (lv' := [(2, .int (x2 + 1)), (0, .ref (κ 4 + k0)), (1, .int x1)]) C.1.1 C.1.2.1 dX8_clear_42 hl (k := 2) rfl (by rfl) (by decide) rfl (fun ls hl => ?_)
    refine lv_goto (tgt := 9) C.1.1 C.1.2.1 dX8_clear_45 (by decide) ?_
    exact kI _ _ _ _ _ (yy_rt_of h) Z (lv_sub hl [1, 2, 0] rfl)
set_option maxHeartbeats 4000000 in
set_option maxRecDepth 100000 in
theorem ww_X8_clear_48 {k0 : Nat} {x1 : Int32} (hk0 : k0 ∈ yy_Tds) {res : ((Int32) ⊕ ((Unit))) × yy_T} {Q : State → Prop} (C : yy_C D κ p m c cX8_clear 3 s args RX8) (Z : yy_Z D κ ext A s.heap τ H locs) (hl : lv_has ls 3 [(0, .ref (κ 4 + k0)), (1, .int x1)]) (h : mm_X8_clear_48 k0 x1 τ = some res)
    (kI : ∀ (w : Int32) (τ1 : yy_T) (H1 : Heap) (locs1 : List Loc) (ls1 : Array Slot), res = (.inl w, τ1) → yy_Z D κ ext A s.heap τ1 H1 locs1 → lv_has ls1 3 [(0, .ref (κ 4 + k0)), (1, .int w)] → W p l e rm_X8_clear s m args below meth c H1 locs1 0 0 Q (F0 m 2 ls1 [])) : W p l e rm_X8_clear s m args below meth c H locs 0 0 Q (F0 m 48 ls []) := by
  unfold mm_X8_clear_48 at h
  refine lv_iinc (v := x1 + 1) (lv' := [(1, .int (x1 + 1)), (0, .ref (κ 4 + k0))]) C.1.1 C.1.2.1 dX8_clear_48 hl (k := 1) rfl (by rfl) (by decide) rfl (fun ls hl => ?_)
  refine lv_goto (tgt := 2) C.1.1 C.1.2.1 dX8_clear_51 (by decide) ?_
  exact kI _ _ _ _ _ (yy_rt_of h) Z (lv_sub hl [1, 0] rfl)
set_option maxHeartbeats 4000000 in
set_option maxRecDepth 100000 in
theorem ww_X8_clear_9 {k0 : Nat} {x1 : Int32} {x2 : Int32} (hk0 : k0 ∈ yy_Tds) {res : ((Int32) ⊕ ((Unit))) × yy_T} {Q : State → Prop} (C : yy_C D κ p m c cX8_clear 3 s args RX8) (Z : yy_Z D κ ext A s.heap τ H locs) (hl : lv_has ls 3 [(0, .ref (κ 4 + k0)), (1, .int x1), (2, .int x2)]) (h : mm_X8_clear_9 k0 x1 x2 τ = some res)
    (kI : ∀ (w : Int32) (τ1 : yy_T) (H1 : Heap) (locs1 : List Loc) (ls1 : Array Slot), res = (.inl w, τ1) → yy_Z D κ ext A s.heap τ1 H1 locs1 → lv_has ls1 3 [(0, .ref (κ 4 + k0)), (1, .int w)] → W p l e rm_X8_clear s m args below meth c H1 locs1 0 0 Q (F0 m 2 ls1 [])) : W p l e rm_X8_clear s m args below meth c H locs 0 0 Q (F0 m 9 ls []) := by
  unfold mm_X8_clear_9 at h
  refine yy_loop h (fun (w : Int32) (τ : yy_T) => ∀ (H : Heap) (locs : List Loc) (ls : Array Slot), yy_Z D κ ext A s.heap τ H locs → lv_has ls 3 [(0, .ref (κ 4 + k0)), (1, .int x1), (2, .int w)] → W p l e rm_X8_clear s m args below meth c H locs 0 0 Q (F0 m 9 ls [])) ?_ H locs ls Z hl
  intro w τ y hy hI hX H locs ls Z hl
  refine ww_X8_clear_9b hk0 C Z hl hy (fun w τ H locs ls ey Z hl => hI w τ ey H locs ls Z hl) (fun w τ H locs ls ey Z hl => ?_)
  · have h := hX _ _ ey
    exact ww_X8_clear_48 hk0 C Z (lv_sub hl [0, 1] rfl) h kI
set_option maxHeartbeats 4000000 in
set_option maxRecDepth 100000 in
theorem ww_X8_clear_2b {k0 : Nat} {x1 : Int32} (hk0 : k0 ∈ yy_Tds) {res : ((Int32) ⊕ ((Unit))) × yy_T} {Q : State → Prop} (C : yy_C D κ p m c cX8_clear 3 s args RX8) (Z : yy_Z D κ ext A s.heap τ H locs) (hl : lv_has ls 3 [(0, .ref (κ 4 + k0)), (1, .int x1)]) (h : mm_X8_clear_2b k0 x1 τ = some res)
    (kI : ∀ (w : Int32) (τ1 : yy_T) (H1 : Heap) (locs1 : List Loc) (ls1 : Array Slot), res = (.inl w, τ1) → yy_Z D κ ext A s.heap τ1 H1 locs1 → lv_has ls1 3 [(0, .ref (κ 4 + k0)), (1, .int w)] → W p l e rm_X8_clear s m args below meth c H1 locs1 0 0 Q (F0 m 2 ls1 []))
    (kR0 : ∀ (w : Unit) (τ1 : yy_T) (H1 : Heap) (locs1 : List Loc) (ls1 : Array Slot), res = (.inr w, τ1) → yy_Z D κ ext A s.heap τ1 H1 locs1 → lv_has ls1 3 [(0, .ref (κ 4 + k0))] → W p l e rm_X8_clear s m args below meth c H1 locs1 0 0 Q (F0 m 54 ls1 [])) : W p l e rm_X8_clear s m args below meth c H locs 0 0 Q (F0 m 2 ls []) := by
  unfold mm_X8_clear_2b at h
  refine lv_iload_n C.1.1 C.1.2.1 dX8_clear_2 rfl (lv_at hl 1 rfl) ?_
  refine lv_iconst (v := 1) C.1.1 C.1.2.1 dX8_clear_3 (by decide) ?_
  refine yy_icmp_gt (tgt := 54) C dX8_clear_4 (by decide) h (fun h => ?_) (fun h => ?_)
  · exact kR0 _ _ _ _ _ (yy_rt_of h) Z (lv_sub hl [0] rfl)
  · refine lv_iconst (v := 0) C.1.1 C.1.2.1 dX8_clear_7 (by decide) ?_
    refine lv_istore_n (lv' := [(2, .int 0), (0, .ref (κ 4 + k0)), (1, .int x1)]) C.1.1 C.1.2.1 dX8_clear_8 rfl hl (by decide) rfl (fun ls hl => ?_)
    exact ww_X8_clear_9 hk0 C Z (lv_sub hl [1, 2, 0] rfl) h kI
set_option maxHeartbeats 4000000 in
set_option maxRecDepth 100000 in
theorem ww_X8_clear_54 {k0 : Nat} (hk0 : k0 ∈ yy_Tds) {res : Unit × yy_T} (C : yy_C D κ p m c cX8_clear 3 s args RX8) (hr : meth.sig.returnType = none) (hlk : meth.locks = false) (Z : yy_Z D κ ext A s.heap τ H locs) (hl : lv_has ls 3 [(0, .ref (κ 4 + k0))]) (h : mm_X8_clear_54 k0 τ = some res) : W p l e rm_X8_clear s m args below meth c H locs 0 0 (MQ below (yy_Qv D κ ext A res) args s 0 0 A) (F0 m 54 ls []) := by
  unfold mm_X8_clear_54 at h
  refine lv_aload_n C.1.1 C.1.2.1 dX8_clear_54 rfl (lv_at hl 0 rfl) ?_
  refine yg_X8_3 C Z hk0 tw_289 dX8_clear_55 ?_
  refine lv_iconst (v := 0) C.1.1 C.1.2.1 dX8_clear_58 (by decide) ?_
  refine lv_iconst (v := 0) C.1.1 C.1.2.1 dX8_clear_59 (by decide) ?_
  refine yy_iast C Z (yy_D10 _ hk0) (yy_lenD10 _ hk0) dX8_clear_60 h (fun H locs τ Z h => ?_)
  refine lv_aload_n C.1.1 C.1.2.1 dX8_clear_61 rfl (lv_at hl 0 rfl) ?_
  refine yg_X8_3 C Z hk0 tw_289 dX8_clear_62 ?_
  refine lv_iconst (v := 1) C.1.1 C.1.2.1 dX8_clear_65 (by decide) ?_
  refine lv_iconst (v := 0) C.1.1 C.1.2.1 dX8_clear_66 (by decide) ?_
  refine yy_iast C Z (yy_D10 _ hk0) (yy_lenD10 _ hk0) dX8_clear_67 h (fun H locs τ Z h => ?_)
  refine lv_aload_n C.1.1 C.1.2.1 dX8_clear_68 rfl (lv_at hl 0 rfl) ?_
  refine yg_X8_3 C Z hk0 tw_289 dX8_clear_69 ?_
  refine lv_iconst (v := 2) C.1.1 C.1.2.1 dX8_clear_72 (by decide) ?_
  refine lv_iconst (v := 0) C.1.1 C.1.2.1 dX8_clear_73 (by decide) ?_
  refine yy_iast C Z (yy_D10 _ hk0) (yy_lenD10 _ hk0) dX8_clear_74 h (fun H locs τ Z h => ?_)
  refine lv_aload_n C.1.1 C.1.2.1 dX8_clear_75 rfl (lv_at hl 0 rfl) ?_
  refine lv_iconst (v := 0) C.1.1 C.1.2.1 dX8_clear_76 (by decide) ?_
  refine yp_X8_7 C Z hk0 tw_297 dX8_clear_77 h (fun H locs τ Z h => ?_)
  refine lv_aload_n C.1.1 C.1.2.1 dX8_clear_80 rfl (lv_at hl 0 rfl) ?_
  refine lv_iconst (v := 0) C.1.1 C.1.2.1 dX8_clear_81 (by decide) ?_
  refine yp_X8_8 C Z hk0 tw_299 dX8_clear_82 h (fun H locs τ Z h => ?_)
  refine lv_aload_n C.1.1 C.1.2.1 dX8_clear_85 rfl (lv_at hl 0 rfl) ?_
  refine lv_iconst (v := 0) C.1.1 C.1.2.1 dX8_clear_86 (by decide) ?_
  refine yp_X8_9 C Z hk0 tw_302 dX8_clear_87 h (fun H locs τ Z h => ?_)
  refine lv_aload_n C.1.1 C.1.2.1 dX8_clear_90 rfl (lv_at hl 0 rfl) ?_
  refine lv_iconst (v := 0) C.1.1 C.1.2.1 dX8_clear_91 (by decide) ?_
  refine yp_X8_10 C Z hk0 tw_305 dX8_clear_92 h (fun H locs τ Z h => ?_)
  exact yy_vret C Z hr hlk dX8_clear_95 h
set_option maxHeartbeats 4000000 in
set_option maxRecDepth 100000 in
theorem ww_X8_clear_2 {k0 : Nat} {x1 : Int32} (hk0 : k0 ∈ yy_Tds) {res : Unit × yy_T} (C : yy_C D κ p m c cX8_clear 3 s args RX8) (hr : meth.sig.returnType = none) (hlk : meth.locks = false) (Z : yy_Z D κ ext A s.heap τ H locs) (hl : lv_has ls 3 [(0, .ref (κ 4 + k0)), (1, .int x1)]) (h : mm_X8_clear_2 k0 x1 τ = some res) : W p l e rm_X8_clear s m args below meth c H locs 0 0 (MQ below (yy_Qv D κ ext A res) args s 0 0 A) (F0 m 2 ls []) := by
  unfold mm_X8_clear_2 at h
  refine yy_loop h (fun (w : Int32) (τ : yy_T) => ∀ (H : Heap) (locs : List Loc) (ls : Array Slot), yy_Z D κ ext A s.heap τ H locs → lv_has ls 3 [(0, .ref (κ 4 + k0)), (1, .int w)] → W p l e rm_X8_clear s m args below meth c H locs 0 0 (MQ below (yy_Qv D κ ext A res) args s 0 0 A) (F0 m 2 ls [])) ?_ H locs ls Z hl
  intro w τ y hy hI hX H locs ls Z hl
  refine ww_X8_clear_2b hk0 C Z hl hy (fun w τ H locs ls ey Z hl => hI w τ ey H locs ls Z hl) (fun w τ H locs ls ey Z hl => ?_)
  · have h := hX _ _ ey
    exact ww_X8_clear_54 hk0 C hr hlk Z (lv_sub hl [0] rfl) h
set_option maxHeartbeats 4000000 in
set_option maxRecDepth 100000 in
theorem ww_X8_clear_E {k0 : Nat} (hk0 : k0 ∈ yy_Tds) {res : Unit × yy_T} (C : yy_C D κ p m c cX8_clear 3 s args RX8) (hr : meth.sig.returnType = none) (hlk : meth.locks = false) (Z : yy_Z D κ ext A s.heap τ H locs) (hl : lv_has ls 3 [(0, .ref (κ 4 + k0))]) (h : mm_X8_clear k0 τ = some res) : W p l e rm_X8_clear s m args below meth c H locs 0 0 (MQ below (yy_Qv D κ ext A res) args s 0 0 A) (F0 m 0 ls []) := by
  unfold mm_X8_clear at h
  refine lv_iconst (v := 0) C.1.1 C.1.2.1 dX8_clear_0 (by decide) ?_
  refine lv_istore_n (lv' := [(1, .int 0), (0, .ref (κ 4 + k0))]) C.1.1 C.1.2.1 dX8_clear_1 rfl hl (by decide) rfl (fun ls hl => ?_)
  exact ww_X8_clear_2 hk0 C hr hlk Z (lv_sub hl [1, 0] rfl) h
set_option maxHeartbeats 4000000 in
set_option maxRecDepth 100000 in
theorem ss_X8_clear (l : Launch) (D : va_G) (κ : Nat → Nat) (ext : va_W) (k0 : Nat) (hk0 : k0 ∈ yy_Tds) : yy_Mv l D κ ext yX8_clear cX8_clear 3 none rm_X8_clear 0 0 [.ref (κ 4 + k0)] (mm_X8_clear k0) := by
  intro sz τ res h
  refine yy_ofW (by decide) (Nat.le_of_ble_eq_true rfl) ?_
  intro p e s m args below meth c ls hsz E
  obtain ⟨C, hr, hlk, Z, hl⟩ := E
  subst hsz
  exact ww_X8_clear_E hk0 C hr hlk Z hl h
/-! MovedLines$Comparer.compare(LMovedLines$Edition;LMovedLines$Edition;LMovedLines$Told;)V -/
noncomputable def mm_X1_compare_31b (k1 : Nat) (k2 : Nat) (k3 : Nat) (x4 : Int32) (x5 : Int32) : yy_M ((Int32 × Int32) ⊕ ((Unit))) :=
  yy_br (14 ≤ x5) (yy_rt (.inr ())) (yy_br (x4 = 0) (yy_rt (.inr ())) (yy_cl (mm_X1_moveLongest k3) (fun r1 => yy_rt (.inl (r1, (x5 + 1))))))
noncomputable def mm_X1_compare_69b (k1 : Nat) (k2 : Nat) (k3 : Nat) (x4 : Int32) (x5 : Int32) : yy_M ((Int32 × Int32) ⊕ ((Unit))) :=
  yy_br (14 ≤ x5) (yy_rt (.inr ())) (yy_br (x4 = 0) (yy_rt (.inr ())) (yy_cl (mm_X1_editLikest k1 k2 k3) (fun r2 => yy_rt (.inl (r2, (x5 + 1))))))
noncomputable def mm_X1_compare_96 (k1 : Nat) (k2 : Nat) (k3 : Nat) : yy_M Unit :=
  yy_rF k3 10 fun v3 => yy_cl (mm_X1_looseWords 0 k1 k3) (fun r4 => yy_cl (mm_X1_looseWords 1 k2 k3) (fun r5 => yy_wF k3 10 (v3 + (r4 + r5)) (yy_rt ())))
noncomputable def mm_X1_compare_69 (k1 : Nat) (k2 : Nat) (k3 : Nat) (x4 : Int32) (x5 : Int32) : yy_M Unit :=
  yy_cl (yy_lp (fun (w : Int32 × Int32) => mm_X1_compare_69b k1 k2 k3 w.1 w.2) (x4, x5)) (fun w => mm_X1_compare_96 k1 k2 k3)
noncomputable def mm_X1_compare_56 (k1 : Nat) (k2 : Nat) (k3 : Nat) : yy_M Unit :=
  yy_cl (mm_X1_measureLikeness k1 k2 k3) (fun _ => mm_X1_compare_69 k1 k2 k3 1 0)
noncomputable def mm_X1_compare_31 (k1 : Nat) (k2 : Nat) (k3 : Nat) (x4 : Int32) (x5 : Int32) : yy_M Unit :=
  yy_cl (yy_lp (fun (w : Int32 × Int32) => mm_X1_compare_31b k1 k2 k3 w.1 w.2) (x4, x5)) (fun w => mm_X1_compare_56 k1 k2 k3)
noncomputable def mm_X1_compare (k1 : Nat) (k2 : Nat) (k3 : Nat) : yy_M Unit :=
  yy_cl (mm_X4_number k1 k2) (fun _ => yy_cl (mm_X8_clear k3) (fun _ => yy_cl (mm_X3_keep k3) (fun _ => mm_X1_compare_31 k1 k2 k3 1 0)))
theorem kw_X1_compare : yy_wV RX1 yX1_compare cX1_compare 6 none 3 := ⟨⟨tw_444, tw_445, tw_56, tw_446⟩, by decide +kernel⟩
abbrev rm_X1_compare : Room := { frames := 5, cells := 0, slots := 0, locals := 145 }
set_option maxHeartbeats 4000000 in
set_option maxRecDepth 100000 in
theorem ww_X1_compare_31b {k1 : Nat} {k2 : Nat} {k3 : Nat} {x4 : Int32} {x5 : Int32} (hk1 : k1 ∈ yy_Eds) (hk2 : k2 ∈ yy_Eds) (hk3 : k3 ∈ yy_Tds) {res : ((Int32 × Int32) ⊕ ((Unit))) × yy_T} {Q : State → Prop} (C : yy_C D κ p m c cX1_compare 6 s args RX1) (Z : yy_Z D κ ext A s.heap τ H locs) (hl : lv_has ls 6 [(0, .ref (κ 4 + 49)), (1, .ref (κ 4 + k1)), (2, .ref (κ 4 + k2)), (3, .ref (κ 4 + k3)), (4, .int x4), (5, .int x5)]) (h : mm_X1_compare_31b k1 k2 k3 x4 x5 τ = some res)
    (kI : ∀ (w : Int32 × Int32) (τ1 : yy_T) (H1 : Heap) (locs1 : List Loc) (ls1 : Array Slot), res = (.inl w, τ1) → yy_Z D κ ext A s.heap τ1 H1 locs1 → lv_has ls1 6 [(0, .ref (κ 4 + 49)), (1, .ref (κ 4 + k1)), (2, .ref (κ 4 + k2)), (3, .ref (κ 4 + k3)), (4, .int w.1), (5, .int w.2)] → W p l e rm_X1_compare s m args below meth c H1 locs1 0 0 Q (F0 m 31 ls1 []))
    (kR0 : ∀ (w : Unit) (τ1 : yy_T) (H1 : Heap) (locs1 : List Loc) (ls1 : Array Slot), res = (.inr w, τ1) → yy_Z D κ ext A s.heap τ1 H1 locs1 → lv_has ls1 6 [(0, .ref (κ 4 + 49)), (1, .ref (κ 4 + k1)), (2, .ref (κ 4 + k2)), (3, .ref (κ 4 + k3))] → W p l e rm_X1_compare s m args below meth c H1 locs1 0 0 Q (F0 m 56 ls1 [])) : W p l e rm_X1_compare s m args below meth c H locs 0 0 Q (F0 m 31 ls []) := by
  unfold mm_X1_compare_31b at h
  refine lv_iload C.1.1 C.1.2.1 dX1_compare_31 (lv_at hl 5 rfl) ?_
  refine lv_bipush (v := 14) C.1.1 C.1.2.1 dX1_compare_33 (by decide) ?_
  refine yy_icmp_ge (tgt := 56) C dX1_compare_35 (by decide) h (fun h => ?_) (fun h => ?_)
  · exact kR0 _ _ _ _ _ (yy_rt_of h) Z (lv_sub hl [0, 1, 2, 3] rfl)
  · refine lv_iload C.1.1 C.1.2.1 dX1_compare_38 (lv_at hl 4 rfl) ?_
    refine yy_if_eq (tgt := 56) C dX1_compare_40 (by decide) h (fun h => ?_) (fun h => ?_)
    · exact kR0 _ _ _ _ _ (yy_rt_of h) Z (lv_sub hl [0, 1, 2, 3] rfl)
    · refine lv_aload_n C.1.1 C.1.2.1 dX1_compare_43 rfl (lv_at hl 0 rfl) ?_
      refine lv_aload_n C.1.1 C.1.2.1 dX1_compare_44 rfl (lv_at hl 3 rfl) ?_
      refine yy_cVi0 (As := [.ref (κ 4 + k3)]) (rest := []) (id := 49) (ci := 1) (q := (RX1, TX1, 4)) C Z (ss_X1_moveLongest l D κ ext k3 hk3) (by decide) (yy_ent_49 _) rfl tw_504 kw_X1_moveLongest ⟨⟨rfl, rfl⟩, ⟨Nat.le_of_ble_eq_true rfl, Nat.le_of_ble_eq_true rfl⟩, Nat.le_of_ble_eq_true rfl, Nat.le_of_ble_eq_true rfl⟩ hl.1 rfl (Nat.le_of_ble_eq_true rfl) dX1_compare_45 h (fun r1 τ H locs Z h => ?_)
      refine lv_istore (lv' := [(4, .int r1), (0, .ref (κ 4 + 49)), (1, .ref (κ 4 + k1)), (2, .ref (κ 4 + k2)), (3, .ref (κ 4 + k3)), (5, .int x5)]) C.1.1 C.1.2.1 dX1_compare_48 hl (by decide) rfl (fun ls hl => ?_)
      refine lv_iinc (v := x5 + 1) (lv' := [(5, .int (x5 + 1)), (4, .int r1), (0, .ref (κ 4 + 49)), (1, .ref (κ 4 + k1)), (2, .ref (κ 4 + k2)), (3, .ref (κ 4 + k3))]) C.1.1 C.1.2.1 dX1_compare_50 hl (k := 5) rfl (by rfl) (by decide) rfl (fun ls hl => ?_)
      refine lv_goto (tgt := 31) C.1.1 C.1.2.1 dX1_compare_53 (by decide) ?_
      exact kI _ _ _ _ _ (yy_rt_of h) Z (lv_sub hl [2, 3, 4, 5, 1, 0] rfl)
set_option maxHeartbeats 4000000 in
set_option maxRecDepth 100000 in
theorem ww_X1_compare_69b {k1 : Nat} {k2 : Nat} {k3 : Nat} {x4 : Int32} {x5 : Int32} (hk1 : k1 ∈ yy_Eds) (hk2 : k2 ∈ yy_Eds) (hk3 : k3 ∈ yy_Tds) {res : ((Int32 × Int32) ⊕ ((Unit))) × yy_T} {Q : State → Prop} (C : yy_C D κ p m c cX1_compare 6 s args RX1) (Z : yy_Z D κ ext A s.heap τ H locs) (hl : lv_has ls 6 [(0, .ref (κ 4 + 49)), (1, .ref (κ 4 + k1)), (2, .ref (κ 4 + k2)), (3, .ref (κ 4 + k3)), (4, .int x4), (5, .int x5)]) (h : mm_X1_compare_69b k1 k2 k3 x4 x5 τ = some res)
    (kI : ∀ (w : Int32 × Int32) (τ1 : yy_T) (H1 : Heap) (locs1 : List Loc) (ls1 : Array Slot), res = (.inl w, τ1) → yy_Z D κ ext A s.heap τ1 H1 locs1 → lv_has ls1 6 [(0, .ref (κ 4 + 49)), (1, .ref (κ 4 + k1)), (2, .ref (κ 4 + k2)), (3, .ref (κ 4 + k3)), (4, .int w.1), (5, .int w.2)] → W p l e rm_X1_compare s m args below meth c H1 locs1 0 0 Q (F0 m 69 ls1 []))
    (kR0 : ∀ (w : Unit) (τ1 : yy_T) (H1 : Heap) (locs1 : List Loc) (ls1 : Array Slot), res = (.inr w, τ1) → yy_Z D κ ext A s.heap τ1 H1 locs1 → lv_has ls1 6 [(1, .ref (κ 4 + k1)), (2, .ref (κ 4 + k2)), (3, .ref (κ 4 + k3))] → W p l e rm_X1_compare s m args below meth c H1 locs1 0 0 Q (F0 m 96 ls1 [])) : W p l e rm_X1_compare s m args below meth c H locs 0 0 Q (F0 m 69 ls []) := by
  unfold mm_X1_compare_69b at h
  refine lv_iload C.1.1 C.1.2.1 dX1_compare_69 (lv_at hl 5 rfl) ?_
  refine lv_bipush (v := 14) C.1.1 C.1.2.1 dX1_compare_71 (by decide) ?_
  refine yy_icmp_ge (tgt := 96) C dX1_compare_73 (by decide) h (fun h => ?_) (fun h => ?_)
  · exact kR0 _ _ _ _ _ (yy_rt_of h) Z (lv_sub hl [1, 2, 3] rfl)
  · refine lv_iload C.1.1 C.1.2.1 dX1_compare_76 (lv_at hl 4 rfl) ?_
    refine yy_if_eq (tgt := 96) C dX1_compare_78 (by decide) h (fun h => ?_) (fun h => ?_)
    · exact kR0 _ _ _ _ _ (yy_rt_of h) Z (lv_sub hl [1, 2, 3] rfl)
    · refine lv_aload_n C.1.1 C.1.2.1 dX1_compare_81 rfl (lv_at hl 0 rfl) ?_
      refine lv_aload_n C.1.1 C.1.2.1 dX1_compare_82 rfl (lv_at hl 1 rfl) ?_
      refine lv_aload_n C.1.1 C.1.2.1 dX1_compare_83 rfl (lv_at hl 2 rfl) ?_
      refine lv_aload_n C.1.1 C.1.2.1 dX1_compare_84 rfl (lv_at hl 3 rfl) ?_
      refine yy_cVi0 (As := [.ref (κ 4 + k1), .ref (κ 4 + k2), .ref (κ 4 + k3)]) (rest := []) (id := 49) (ci := 1) (q := (RX1, TX1, 4)) C Z (ss_X1_editLikest l D κ ext k1 k2 k3 hk1 hk2 hk3) (by decide) (yy_ent_49 _) rfl tw_551 kw_X1_editLikest ⟨⟨rfl, rfl⟩, ⟨Nat.le_of_ble_eq_true rfl, Nat.le_of_ble_eq_true rfl⟩, Nat.le_of_ble_eq_true rfl, Nat.le_of_ble_eq_true rfl⟩ hl.1 rfl (Nat.le_of_ble_eq_true rfl) dX1_compare_85 h (fun r2 τ H locs Z h => ?_)
      refine lv_istore (lv' := [(4, .int r2), (0, .ref (κ 4 + 49)), (1, .ref (κ 4 + k1)), (2, .ref (κ 4 + k2)), (3, .ref (κ 4 + k3)), (5, .int x5)]) C.1.1 C.1.2.1 dX1_compare_88 hl (by decide) rfl (fun ls hl => ?_)
      refine lv_iinc (v := x5 + 1) (lv' := [(5, .int (x5 + 1)), (4, .int r2), (0, .ref (κ 4 + 49)), (1, .ref (κ 4 + k1)), (2, .ref (κ 4 + k2)), (3, .ref (κ 4 + k3))]) C.1.1 C.1.2.1 dX1_compare_90 hl (k := 5) rfl (by rfl) (by decide) rfl (fun ls hl => ?_)
      refine lv_goto (tgt := 69) C.1.1 C.1.2.1 dX1_compare_93 (by decide) ?_
      exact kI _ _ _ _ _ (yy_rt_of h) Z (lv_sub hl [2, 3, 4, 5, 1, 0] rfl)
set_option maxHeartbeats 4000000 in
set_option maxRecDepth 100000 in
theorem ww_X1_compare_96 {k1 : Nat} {k2 : Nat} {k3 : Nat} (hk1 : k1 ∈ yy_Eds) (hk2 : k2 ∈ yy_Eds) (hk3 : k3 ∈ yy_Tds) {res : Unit × yy_T} (C : yy_C D κ p m c cX1_compare 6 s args RX1) (hr : meth.sig.returnType = none) (hlk : meth.locks = false) (Z : yy_Z D κ ext A s.heap τ H locs) (hl : lv_has ls 6 [(1, .ref (κ 4 + k1)), (2, .ref (κ 4 + k2)), (3, .ref (κ 4 + k3))]) (h : mm_X1_compare_96 k1 k2 k3 τ = some res) : W p l e rm_X1_compare s m args below meth c H locs 0 0 (MQ below (yy_Qv D κ ext A res) args s 0 0 A) (F0 m 96 ls []) := by
  unfold mm_X1_compare_96 at h
  refine lv_aload_n C.1.1 C.1.2.1 dX1_compare_96 rfl (lv_at hl 2 rfl) ?_
  refine lv_dup C.1.1 C.1.2.1 dX1_compare_97 rfl ?_
  refine yg_X8_10 C Z hk3 tw_306 dX1_compare_98 h (fun v3 h => ?_)
  refine lv_iconst (v := 0) C.1.1 C.1.2.1 dX1_compare_101 (by decide) ?_
  refine lv_aload_n C.1.1 C.1.2.1 dX1_compare_102 rfl (lv_at hl 0 rfl) ?_
  refine lv_aload_n C.1.1 C.1.2.1 dX1_compare_103 rfl (lv_at hl 2 rfl) ?_
  refine yy_cSi0 (As := [.int 0, .ref (κ 4 + k1), .ref (κ 4 + k3)]) (rest := [.int v3, .ref (κ 4 + k3)])  C Z (ss_X1_looseWords l D κ ext 0 k1 k3 hk1 hk3) tw_556 kw_X1_looseWords ⟨⟨rfl, rfl⟩, ⟨Nat.le_of_ble_eq_true rfl, Nat.le_of_ble_eq_true rfl⟩, Nat.le_of_ble_eq_true rfl, Nat.le_of_ble_eq_true rfl⟩ hl.1 rfl (Nat.le_of_ble_eq_true rfl) dX1_compare_104 h (fun r4 τ H locs Z h => ?_)
  refine lv_iconst (v := 1) C.1.1 C.1.2.1 dX1_compare_107 (by decide) ?_
  refine lv_aload_n C.1.1 C.1.2.1 dX1_compare_108 rfl (lv_at hl 1 rfl) ?_
  refine lv_aload_n C.1.1 C.1.2.1 dX1_compare_109 rfl (lv_at hl 2 rfl) ?_
  refine yy_cSi0 (As := [.int 1, .ref (κ 4 + k2), .ref (κ 4 + k3)]) (rest := [.int r4, .int v3, .ref (κ 4 + k3)])  C Z (ss_X1_looseWords l D κ ext 1 k2 k3 hk2 hk3) tw_556 kw_X1_looseWords ⟨⟨rfl, rfl⟩, ⟨Nat.le_of_ble_eq_true rfl, Nat.le_of_ble_eq_true rfl⟩, Nat.le_of_ble_eq_true rfl, Nat.le_of_ble_eq_true rfl⟩ hl.1 rfl (Nat.le_of_ble_eq_true rfl) dX1_compare_110 h (fun r5 τ H locs Z h => ?_)
  refine lv_iadd C.1.1 C.1.2.1 dX1_compare_113 ?_
  refine lv_iadd C.1.1 C.1.2.1 dX1_compare_114 ?_
  refine yp_X8_10 C Z hk3 tw_306 dX1_compare_115 h (fun H locs τ Z h => ?_)
  exact yy_vret C Z hr hlk dX1_compare_118 h
set_option maxHeartbeats 4000000 in
set_option maxRecDepth 100000 in
theorem ww_X1_compare_69 {k1 : Nat} {k2 : Nat} {k3 : Nat} {x4 : Int32} {x5 : Int32} (hk1 : k1 ∈ yy_Eds) (hk2 : k2 ∈ yy_Eds) (hk3 : k3 ∈ yy_Tds) {res : Unit × yy_T} (C : yy_C D κ p m c cX1_compare 6 s args RX1) (hr : meth.sig.returnType = none) (hlk : meth.locks = false) (Z : yy_Z D κ ext A s.heap τ H locs) (hl : lv_has ls 6 [(0, .ref (κ 4 + 49)), (1, .ref (κ 4 + k1)), (2, .ref (κ 4 + k2)), (3, .ref (κ 4 + k3)), (4, .int x4), (5, .int x5)]) (h : mm_X1_compare_69 k1 k2 k3 x4 x5 τ = some res) : W p l e rm_X1_compare s m args below meth c H locs 0 0 (MQ below (yy_Qv D κ ext A res) args s 0 0 A) (F0 m 69 ls []) := by
  unfold mm_X1_compare_69 at h
  refine yy_loop h (fun (w : Int32 × Int32) (τ : yy_T) => ∀ (H : Heap) (locs : List Loc) (ls : Array Slot), yy_Z D κ ext A s.heap τ H locs → lv_has ls 6 [(0, .ref (κ 4 + 49)), (1, .ref (κ 4 + k1)), (2, .ref (κ 4 + k2)), (3, .ref (κ 4 + k3)), (4, .int w.1), (5, .int w.2)] → W p l e rm_X1_compare s m args below meth c H locs 0 0 (MQ below (yy_Qv D κ ext A res) args s 0 0 A) (F0 m 69 ls [])) ?_ H locs ls Z hl
  intro w τ y hy hI hX H locs ls Z hl
  refine ww_X1_compare_69b hk1 hk2 hk3 C Z hl hy (fun w τ H locs ls ey Z hl => hI w τ ey H locs ls Z hl) (fun w τ H locs ls ey Z hl => ?_)
  · have h := hX _ _ ey
    exact ww_X1_compare_96 hk1 hk2 hk3 C hr hlk Z (lv_sub hl [0, 1, 2] rfl) h
set_option maxHeartbeats 4000000 in
set_option maxRecDepth 100000 in
theorem ww_X1_compare_56 {k1 : Nat} {k2 : Nat} {k3 : Nat} (hk1 : k1 ∈ yy_Eds) (hk2 : k2 ∈ yy_Eds) (hk3 : k3 ∈ yy_Tds) {res : Unit × yy_T} (C : yy_C D κ p m c cX1_compare 6 s args RX1) (hr : meth.sig.returnType = none) (hlk : meth.locks = false) (Z : yy_Z D κ ext A s.heap τ H locs) (hl : lv_has ls 6 [(0, .ref (κ 4 + 49)), (1, .ref (κ 4 + k1)), (2, .ref (κ 4 + k2)), (3, .ref (κ 4 + k3))]) (h : mm_X1_compare_56 k1 k2 k3 τ = some res) : W p l e rm_X1_compare s m args below meth c H locs 0 0 (MQ below (yy_Qv D κ ext A res) args s 0 0 A) (F0 m 56 ls []) := by
  unfold mm_X1_compare_56 at h
  refine lv_aload_n C.1.1 C.1.2.1 dX1_compare_56 rfl (lv_at hl 0 rfl) ?_
  refine lv_aload_n C.1.1 C.1.2.1 dX1_compare_57 rfl (lv_at hl 1 rfl) ?_
  refine lv_aload_n C.1.1 C.1.2.1 dX1_compare_58 rfl (lv_at hl 2 rfl) ?_
  refine lv_aload_n C.1.1 C.1.2.1 dX1_compare_59 rfl (lv_at hl 3 rfl) ?_
  refine yy_cVv0 (As := [.ref (κ 4 + k1), .ref (κ 4 + k2), .ref (κ 4 + k3)]) (rest := []) (id := 49) (ci := 1) (q := (RX1, TX1, 4)) C Z (ss_X1_measureLikeness l D κ ext k1 k2 k3 hk1 hk2 hk3) (by decide) (yy_ent_49 _) rfl tw_519 kw_X1_measureLikeness ⟨⟨rfl, rfl⟩, ⟨Nat.le_of_ble_eq_true rfl, Nat.le_of_ble_eq_true rfl⟩, Nat.le_of_ble_eq_true rfl, Nat.le_of_ble_eq_true rfl⟩ hl.1 rfl (Nat.le_of_ble_eq_true rfl) dX1_compare_60 h (fun τ H locs Z h => ?_)
  refine lv_iconst (v := 1) C.1.1 C.1.2.1 dX1_compare_63 (by decide) ?_
  refine lv_istore (lv' := [(4, .int 1), (0, .ref (κ 4 + 49)), (1, .ref (κ 4 + k1)), (2, .ref (κ 4 + k2)), (3, .ref (κ 4 + k3))]) C.1.1 C.1.2.1 dX1_compare_64 hl (by decide) rfl (fun ls hl => ?_)
  refine lv_iconst (v := 0) C.1.1 C.1.2.1 dX1_compare_66 (by decide) ?_
  refine lv_istore (lv' := [(5, .int 0), (4, .int 1), (0, .ref (κ 4 + 49)), (1, .ref (κ 4 + k1)), (2, .ref (κ 4 + k2)), (3, .ref (κ 4 + k3))]) C.1.1 C.1.2.1 dX1_compare_67 hl (by decide) rfl (fun ls hl => ?_)
  exact ww_X1_compare_69 hk1 hk2 hk3 C hr hlk Z (lv_sub hl [2, 3, 4, 5, 1, 0] rfl) h
set_option maxHeartbeats 4000000 in
set_option maxRecDepth 100000 in
theorem ww_X1_compare_31 {k1 : Nat} {k2 : Nat} {k3 : Nat} {x4 : Int32} {x5 : Int32} (hk1 : k1 ∈ yy_Eds) (hk2 : k2 ∈ yy_Eds) (hk3 : k3 ∈ yy_Tds) {res : Unit × yy_T} (C : yy_C D κ p m c cX1_compare 6 s args RX1) (hr : meth.sig.returnType = none) (hlk : meth.locks = false) (Z : yy_Z D κ ext A s.heap τ H locs) (hl : lv_has ls 6 [(0, .ref (κ 4 + 49)), (1, .ref (κ 4 + k1)), (2, .ref (κ 4 + k2)), (3, .ref (κ 4 + k3)), (4, .int x4), (5, .int x5)]) (h : mm_X1_compare_31 k1 k2 k3 x4 x5 τ = some res) : W p l e rm_X1_compare s m args below meth c H locs 0 0 (MQ below (yy_Qv D κ ext A res) args s 0 0 A) (F0 m 31 ls []) := by
  unfold mm_X1_compare_31 at h
  refine yy_loop h (fun (w : Int32 × Int32) (τ : yy_T) => ∀ (H : Heap) (locs : List Loc) (ls : Array Slot), yy_Z D κ ext A s.heap τ H locs → lv_has ls 6 [(0, .ref (κ 4 + 49)), (1, .ref (κ 4 + k1)), (2, .ref (κ 4 + k2)), (3, .ref (κ 4 + k3)), (4, .int w.1), (5, .int w.2)] → W p l e rm_X1_compare s m args below meth c H locs 0 0 (MQ below (yy_Qv D κ ext A res) args s 0 0 A) (F0 m 31 ls [])) ?_ H locs ls Z hl
  intro w τ y hy hI hX H locs ls Z hl
  refine ww_X1_compare_31b hk1 hk2 hk3 C Z hl hy (fun w τ H locs ls ey Z hl => hI w τ ey H locs ls Z hl) (fun w τ H locs ls ey Z hl => ?_)
  · have h := hX _ _ ey
    exact ww_X1_compare_56 hk1 hk2 hk3 C hr hlk Z (lv_sub hl [0, 1, 2, 3] rfl) h
set_option maxHeartbeats 4000000 in
set_option maxRecDepth 100000 in
theorem ww_X1_compare_E {k1 : Nat} {k2 : Nat} {k3 : Nat} (hk1 : k1 ∈ yy_Eds) (hk2 : k2 ∈ yy_Eds) (hk3 : k3 ∈ yy_Tds) {res : Unit × yy_T} (C : yy_C D κ p m c cX1_compare 6 s args RX1) (hr : meth.sig.returnType = none) (hlk : meth.locks = false) (Z : yy_Z D κ ext A s.heap τ H locs) (hl : lv_has ls 6 [(0, .ref (κ 4 + 49)), (1, .ref (κ 4 + k1)), (2, .ref (κ 4 + k2)), (3, .ref (κ 4 + k3))]) (h : mm_X1_compare k1 k2 k3 τ = some res) : W p l e rm_X1_compare s m args below meth c H locs 0 0 (MQ below (yy_Qv D κ ext A res) args s 0 0 A) (F0 m 0 ls []) := by
  unfold mm_X1_compare at h
  refine lv_aload_n C.1.1 C.1.2.1 dX1_compare_0 rfl (lv_at hl 0 rfl) ?_
  refine yg_X1_0 C Z tw_261 dX1_compare_1 ?_
  refine lv_aload_n C.1.1 C.1.2.1 dX1_compare_4 rfl (lv_at hl 1 rfl) ?_
  refine lv_aload_n C.1.1 C.1.2.1 dX1_compare_5 rfl (lv_at hl 2 rfl) ?_
  refine yy_cVv0 (As := [.ref (κ 4 + k1), .ref (κ 4 + k2)]) (rest := []) (id := 50) (ci := 4) (q := (RX4, TX4, 4)) C Z (ss_X4_number l D κ ext k1 k2 hk1 hk2) (by decide) (yy_ent_50 _) rfl tw_447 kw_X4_number ⟨⟨rfl, rfl⟩, ⟨Nat.le_of_ble_eq_true rfl, Nat.le_of_ble_eq_true rfl⟩, Nat.le_of_ble_eq_true rfl, Nat.le_of_ble_eq_true rfl⟩ hl.1 rfl (Nat.le_of_ble_eq_true rfl) dX1_compare_6 h (fun τ H locs Z h => ?_)
  refine lv_aload_n C.1.1 C.1.2.1 dX1_compare_9 rfl (lv_at hl 3 rfl) ?_
  refine yy_cVv0 (As := []) (rest := []) (id := k3) (ci := 8) (q := (RX8, TX8, 11)) C Z (ss_X8_clear l D κ ext k3 hk3) (yy_Tds_lt _ hk3) (yy_ent_Tds hk3 _) rfl tw_458 kw_X8_clear ⟨⟨rfl, rfl⟩, ⟨Nat.le_of_ble_eq_true rfl, Nat.le_of_ble_eq_true rfl⟩, Nat.le_of_ble_eq_true rfl, Nat.le_of_ble_eq_true rfl⟩ hl.1 rfl (Nat.le_of_ble_eq_true rfl) dX1_compare_10 h (fun τ H locs Z h => ?_)
  refine lv_aload_n C.1.1 C.1.2.1 dX1_compare_13 rfl (lv_at hl 0 rfl) ?_
  refine yg_X1_1 C Z tw_262 dX1_compare_14 ?_
  refine lv_aload_n C.1.1 C.1.2.1 dX1_compare_17 rfl (lv_at hl 0 rfl) ?_
  refine yg_X1_0 C Z tw_261 dX1_compare_18 ?_
  refine lv_aload_n C.1.1 C.1.2.1 dX1_compare_21 rfl (lv_at hl 3 rfl) ?_
  refine yy_cVv0 (As := [.ref (κ 4 + 50), .ref (κ 4 + k3)]) (rest := []) (id := 53) (ci := 3) (q := (RX3, TX3, 9)) C Z (ss_X3_keep l D κ ext k3 hk3) (by decide) (yy_ent_53 _) rfl tw_462 kw_X3_keep ⟨⟨rfl, rfl⟩, ⟨Nat.le_of_ble_eq_true rfl, Nat.le_of_ble_eq_true rfl⟩, Nat.le_of_ble_eq_true rfl, Nat.le_of_ble_eq_true rfl⟩ hl.1 rfl (Nat.le_of_ble_eq_true rfl) dX1_compare_22 h (fun τ H locs Z h => ?_)
  refine lv_iconst (v := 1) C.1.1 C.1.2.1 dX1_compare_25 (by decide) ?_
  refine lv_istore (lv' := [(4, .int 1), (0, .ref (κ 4 + 49)), (1, .ref (κ 4 + k1)), (2, .ref (κ 4 + k2)), (3, .ref (κ 4 + k3))]) C.1.1 C.1.2.1 dX1_compare_26 hl (by decide) rfl (fun ls hl => ?_)
  refine lv_iconst (v := 0) C.1.1 C.1.2.1 dX1_compare_28 (by decide) ?_
  refine lv_istore (lv' := [(5, .int 0), (4, .int 1), (0, .ref (κ 4 + 49)), (1, .ref (κ 4 + k1)), (2, .ref (κ 4 + k2)), (3, .ref (κ 4 + k3))]) C.1.1 C.1.2.1 dX1_compare_29 hl (by decide) rfl (fun ls hl => ?_)
  exact ww_X1_compare_31 hk1 hk2 hk3 C hr hlk Z (lv_sub hl [2, 3, 4, 5, 1, 0] rfl) h
set_option maxHeartbeats 4000000 in
set_option maxRecDepth 100000 in
theorem ss_X1_compare (l : Launch) (D : va_G) (κ : Nat → Nat) (ext : va_W) (k1 : Nat) (k2 : Nat) (k3 : Nat) (hk1 : k1 ∈ yy_Eds) (hk2 : k2 ∈ yy_Eds) (hk3 : k3 ∈ yy_Tds) : yy_Mv l D κ ext yX1_compare cX1_compare 6 none rm_X1_compare 0 0 [.ref (κ 4 + 49), .ref (κ 4 + k1), .ref (κ 4 + k2), .ref (κ 4 + k3)] (mm_X1_compare k1 k2 k3) := by
  intro sz τ res h
  refine yy_ofW (by decide) (Nat.le_of_ble_eq_true rfl) ?_
  intro p e s m args below meth c ls hsz E
  obtain ⟨C, hr, hlk, Z, hl⟩ := E
  subst hsz
  exact ww_X1_compare_E hk1 hk2 hk3 C hr hlk Z hl h
/-! MovedLines$Comparer.mostLines(LMovedLines$Edition;LMovedLines$Edition;)I -/
noncomputable def mm_X1_mostLines (k1 : Nat) (k2 : Nat) : yy_M Int32 :=
  yy_cl (mm_X4_number k1 k2) (fun _ => yy_rF 50 2 fun v1 => yy_cl (mm_X0_setFirst 61 51 0 v1) (fun _ => yy_rF 50 3 fun v2 => yy_cl (mm_X0_setSecond 61 52 0 v2) (fun _ => yy_cl (mm_X0_measure 61) (fun r3 => yy_rt r3))))
theorem kw_X1_mostLines : yy_wV RX1 yX1_mostLines cX1_mostLines 3 (some .int) 2 := ⟨⟨tw_619, tw_620, tw_56, tw_621⟩, by decide +kernel⟩
abbrev rm_X1_mostLines : Room := { frames := 4, cells := 0, slots := 0, locals := 94 }
set_option maxHeartbeats 4000000 in
set_option maxRecDepth 100000 in
theorem ww_X1_mostLines_E {k1 : Nat} {k2 : Nat} (hk1 : k1 ∈ yy_Eds) (hk2 : k2 ∈ yy_Eds) {res : Int32 × yy_T} (C : yy_C D κ p m c cX1_mostLines 3 s args RX1) (hr : meth.sig.returnType = (some .int)) (hlk : meth.locks = false) (Z : yy_Z D κ ext A s.heap τ H locs) (hl : lv_has ls 3 [(0, .ref (κ 4 + 49)), (1, .ref (κ 4 + k1)), (2, .ref (κ 4 + k2))]) (h : mm_X1_mostLines k1 k2 τ = some res) : W p l e rm_X1_mostLines s m args below meth c H locs 0 0 (MQ below (yy_Qi D κ ext A res) args s 0 0 A) (F0 m 0 ls []) := by
  unfold mm_X1_mostLines at h
  refine lv_aload_n C.1.1 C.1.2.1 dX1_mostLines_0 rfl (lv_at hl 0 rfl) ?_
  refine yg_X1_0 C Z tw_261 dX1_mostLines_1 ?_
  refine lv_aload_n C.1.1 C.1.2.1 dX1_mostLines_4 rfl (lv_at hl 1 rfl) ?_
  refine lv_aload_n C.1.1 C.1.2.1 dX1_mostLines_5 rfl (lv_at hl 2 rfl) ?_
  refine yy_cVv0 (As := [.ref (κ 4 + k1), .ref (κ 4 + k2)]) (rest := []) (id := 50) (ci := 4) (q := (RX4, TX4, 4)) C Z (ss_X4_number l D κ ext k1 k2 hk1 hk2) (by decide) (yy_ent_50 _) rfl tw_447 kw_X4_number ⟨⟨rfl, rfl⟩, ⟨Nat.le_of_ble_eq_true rfl, Nat.le_of_ble_eq_true rfl⟩, Nat.le_of_ble_eq_true rfl, Nat.le_of_ble_eq_true rfl⟩ hl.1 rfl (Nat.le_of_ble_eq_true rfl) dX1_mostLines_6 h (fun τ H locs Z h => ?_)
  refine lv_aload_n C.1.1 C.1.2.1 dX1_mostLines_9 rfl (lv_at hl 0 rfl) ?_
  refine yg_X1_2 C Z tw_263 dX1_mostLines_10 ?_
  refine lv_aload_n C.1.1 C.1.2.1 dX1_mostLines_13 rfl (lv_at hl 0 rfl) ?_
  refine yg_X1_0 C Z tw_261 dX1_mostLines_14 ?_
  refine yg_X4_0 C Z tw_183 dX1_mostLines_17 ?_
  refine lv_iconst (v := 0) C.1.1 C.1.2.1 dX1_mostLines_20 (by decide) ?_
  refine lv_aload_n C.1.1 C.1.2.1 dX1_mostLines_21 rfl (lv_at hl 0 rfl) ?_
  refine yg_X1_0 C Z tw_261 dX1_mostLines_22 ?_
  refine yg_X4_2 C Z tw_190 dX1_mostLines_25 h (fun v1 h => ?_)
  refine yy_cVv0 (As := [.ref (κ 4 + 51), .int 0, .int v1]) (rest := []) (id := 61) (ci := 0) (q := (RX0, TX0, 5)) C Z (ss_X0_setFirst l D κ ext 61 51 0 v1 (by decide) (by decide)) (yy_Crs_lt _ (by decide)) (yy_ent_Crs (by decide) _) rfl tw_527 kw_X0_setFirst ⟨⟨rfl, rfl⟩, ⟨Nat.le_of_ble_eq_true rfl, Nat.le_of_ble_eq_true rfl⟩, Nat.le_of_ble_eq_true rfl, Nat.le_of_ble_eq_true rfl⟩ hl.1 rfl (Nat.le_of_ble_eq_true rfl) dX1_mostLines_28 h (fun τ H locs Z h => ?_)
  refine lv_aload_n C.1.1 C.1.2.1 dX1_mostLines_31 rfl (lv_at hl 0 rfl) ?_
  refine yg_X1_2 C Z tw_263 dX1_mostLines_32 ?_
  refine lv_aload_n C.1.1 C.1.2.1 dX1_mostLines_35 rfl (lv_at hl 0 rfl) ?_
  refine yg_X1_0 C Z tw_261 dX1_mostLines_36 ?_
  refine yg_X4_1 C Z tw_186 dX1_mostLines_39 ?_
  refine lv_iconst (v := 0) C.1.1 C.1.2.1 dX1_mostLines_42 (by decide) ?_
  refine lv_aload_n C.1.1 C.1.2.1 dX1_mostLines_43 rfl (lv_at hl 0 rfl) ?_
  refine yg_X1_0 C Z tw_261 dX1_mostLines_44 ?_
  refine yg_X4_3 C Z tw_193 dX1_mostLines_47 h (fun v2 h => ?_)
  refine yy_cVv0 (As := [.ref (κ 4 + 52), .int 0, .int v2]) (rest := []) (id := 61) (ci := 0) (q := (RX0, TX0, 5)) C Z (ss_X0_setSecond l D κ ext 61 52 0 v2 (by decide) (by decide)) (yy_Crs_lt _ (by decide)) (yy_ent_Crs (by decide) _) rfl tw_543 kw_X0_setSecond ⟨⟨rfl, rfl⟩, ⟨Nat.le_of_ble_eq_true rfl, Nat.le_of_ble_eq_true rfl⟩, Nat.le_of_ble_eq_true rfl, Nat.le_of_ble_eq_true rfl⟩ hl.1 rfl (Nat.le_of_ble_eq_true rfl) dX1_mostLines_50 h (fun τ H locs Z h => ?_)
  refine lv_aload_n C.1.1 C.1.2.1 dX1_mostLines_53 rfl (lv_at hl 0 rfl) ?_
  refine yg_X1_2 C Z tw_263 dX1_mostLines_54 ?_
  refine yy_cVi0 (As := []) (rest := []) (id := 61) (ci := 0) (q := (RX0, TX0, 5)) C Z (ss_X0_measure l D κ ext 61 (by decide)) (yy_Crs_lt _ (by decide)) (yy_ent_Crs (by decide) _) rfl tw_547 kw_X0_measure ⟨⟨rfl, rfl⟩, ⟨Nat.le_of_ble_eq_true rfl, Nat.le_of_ble_eq_true rfl⟩, Nat.le_of_ble_eq_true rfl, Nat.le_of_ble_eq_true rfl⟩ hl.1 rfl (Nat.le_of_ble_eq_true rfl) dX1_mostLines_57 h (fun r3 τ H locs Z h => ?_)
  exact yy_iret C Z hr hlk rfl dX1_mostLines_60 h
set_option maxHeartbeats 4000000 in
set_option maxRecDepth 100000 in
theorem ss_X1_mostLines (l : Launch) (D : va_G) (κ : Nat → Nat) (ext : va_W) (k1 : Nat) (k2 : Nat) (hk1 : k1 ∈ yy_Eds) (hk2 : k2 ∈ yy_Eds) : yy_Mi l D κ ext yX1_mostLines cX1_mostLines 3 (some .int) rm_X1_mostLines 0 0 [.ref (κ 4 + 49), .ref (κ 4 + k1), .ref (κ 4 + k2)] (mm_X1_mostLines k1 k2) := by
  intro sz τ res h
  refine yy_ofW (by decide) (Nat.le_of_ble_eq_true rfl) ?_
  intro p e s m args below meth c ls hsz E
  obtain ⟨C, hr, hlk, Z, hl⟩ := E
  subst hsz
  exact ww_X1_mostLines_E hk1 hk2 C hr hlk Z hl h
/-! MovedLines$Edition.wordAt(II)I -/
noncomputable def mm_X2_wordAt (k0 : Nat) (x1 : Int32) (x2 : Int32) : yy_M Int32 :=
  yy_br (x2 < 0) (yy_rt 0) (yy_cl (mm_X2_sizeOf k0 x1) (fun r1 => yy_br (r1 ≤ x2) (yy_rt 0) (yy_rA (k0 + 2) 112 ((x1 * 8) + x2) fun v2 => yy_rt v2)))
theorem kw_X2_wordAt : yy_wV RX2 yX2_wordAt cX2_wordAt 3 (some .int) 2 := ⟨⟨tw_577, tw_578, tw_54, tw_579⟩, by decide +kernel⟩
abbrev rm_X2_wordAt : Room := { frames := 2, cells := 0, slots := 0, locals := 42 }
set_option maxHeartbeats 4000000 in
set_option maxRecDepth 100000 in
theorem ww_X2_wordAt_E {k0 : Nat} {x1 : Int32} {x2 : Int32} (hk0 : k0 ∈ yy_Eds) {res : Int32 × yy_T} (C : yy_C D κ p m c cX2_wordAt 3 s args RX2) (hr : meth.sig.returnType = (some .int)) (hlk : meth.locks = false) (Z : yy_Z D κ ext A s.heap τ H locs) (hl : lv_has ls 3 [(0, .ref (κ 4 + k0)), (1, .int x1), (2, .int x2)]) (h : mm_X2_wordAt k0 x1 x2 τ = some res) : W p l e rm_X2_wordAt s m args below meth c H locs 0 0 (MQ below (yy_Qi D κ ext A res) args s 0 0 A) (F0 m 0 ls []) := by
  unfold mm_X2_wordAt at h
  refine lv_iload_n C.1.1 C.1.2.1 dX2_wordAt_0 rfl (lv_at hl 2 rfl) ?_
  refine yy_if_lt (tgt := 27) C dX2_wordAt_1 (by decide) h (fun h => ?_) (fun h => ?_)
  · refine lv_iconst (v := 0) C.1.1 C.1.2.1 dX2_wordAt_27 (by decide) ?_
    exact yy_iret C Z hr hlk rfl dX2_wordAt_28 h
  · refine lv_iload_n C.1.1 C.1.2.1 dX2_wordAt_4 rfl (lv_at hl 2 rfl) ?_
    refine lv_aload_n C.1.1 C.1.2.1 dX2_wordAt_5 rfl (lv_at hl 0 rfl) ?_
    refine lv_iload_n C.1.1 C.1.2.1 dX2_wordAt_6 rfl (lv_at hl 1 rfl) ?_
    refine yy_cVi0 (As := [.int x1]) (rest := [.int x2]) (id := k0) (ci := 2) (q := (RX2, TX2, 3)) C Z (ss_X2_sizeOf l D κ ext k0 x1 hk0) (yy_Eds_lt _ hk0) (yy_ent_Eds hk0 _) rfl tw_580 kw_X2_sizeOf ⟨⟨rfl, rfl⟩, ⟨Nat.le_of_ble_eq_true rfl, Nat.le_of_ble_eq_true rfl⟩, Nat.le_of_ble_eq_true rfl, Nat.le_of_ble_eq_true rfl⟩ hl.1 rfl (Nat.le_of_ble_eq_true rfl) dX2_wordAt_7 h (fun r1 τ H locs Z h => ?_)
    refine yy_icmp_ge (tgt := 27) C dX2_wordAt_10 (by decide) h (fun h => ?_) (fun h => ?_)
    · refine lv_iconst (v := 0) C.1.1 C.1.2.1 dX2_wordAt_27 (by decide) ?_
      exact yy_iret C Z hr hlk rfl dX2_wordAt_28 h
    · refine lv_aload_n C.1.1 C.1.2.1 dX2_wordAt_13 rfl (lv_at hl 0 rfl) ?_
      refine yg_X2_1 C Z hk0 tw_107 dX2_wordAt_14 ?_
      refine lv_iload_n C.1.1 C.1.2.1 dX2_wordAt_17 rfl (lv_at hl 1 rfl) ?_
      refine lv_bipush (v := 8) C.1.1 C.1.2.1 dX2_wordAt_18 (by decide) ?_
      refine lv_imul C.1.1 C.1.2.1 dX2_wordAt_20 ?_
      refine lv_iload_n C.1.1 C.1.2.1 dX2_wordAt_21 rfl (lv_at hl 2 rfl) ?_
      refine lv_iadd C.1.1 C.1.2.1 dX2_wordAt_22 ?_
      refine yy_iald C Z (yy_E2 _ hk0) (yy_lenE2 _ hk0) dX2_wordAt_23 h (fun v2 h => ?_)
      refine lv_goto (tgt := 28) C.1.1 C.1.2.1 dX2_wordAt_24 (by decide) ?_
      exact yy_iret C Z hr hlk rfl dX2_wordAt_28 h
set_option maxHeartbeats 4000000 in
set_option maxRecDepth 100000 in
theorem ss_X2_wordAt (l : Launch) (D : va_G) (κ : Nat → Nat) (ext : va_W) (k0 : Nat) (x1 : Int32) (x2 : Int32) (hk0 : k0 ∈ yy_Eds) : yy_Mi l D κ ext yX2_wordAt cX2_wordAt 3 (some .int) rm_X2_wordAt 0 0 [.ref (κ 4 + k0), .int x1, .int x2] (mm_X2_wordAt k0 x1 x2) := by
  intro sz τ res h
  refine yy_ofW (by decide) (Nat.le_of_ble_eq_true rfl) ?_
  intro p e s m args below meth c ls hsz E
  obtain ⟨C, hr, hlk, Z, hl⟩ := E
  subst hsz
  exact ww_X2_wordAt_E hk0 C hr hlk Z hl h
end
