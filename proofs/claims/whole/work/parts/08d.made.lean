def yk_pf (κ : Nat → Nat) (j : Nat) : Nat → Option Nat := fun i => if i < j then some (κ 4 + (19 + 3 * i)) else none
def yk_pE (κ : Nat → Nat) (j : Nat) : Nat → va_E := va_up (yk_E κ) 17 (.inl (κ 2, 10, .inr (.inr (.inr (.inr (yk_pf κ j))))))
theorem yk_pE_17 {κ : Nat → Nat} {j : Nat} : yk_pE κ j 17 = .inl (κ 2, 10, .inr (.inr (.inr (.inr (yk_pf κ j))))) := by
  unfold yk_pE va_up
  rw [if_pos rfl]
theorem yk_pE_ne {κ : Nat → Nat} {j k : Nat} (h : k ≠ 17) : yk_pE κ j k = yk_E κ k := by
  unfold yk_pE va_up
  rw [if_neg h]
theorem yk_pf_0 {κ : Nat → Nat} : yk_pf κ 0 = fun _ => none := by
  funext i
  unfold yk_pf
  rw [if_neg (Nat.not_lt_zero i)]
theorem yk_pE_s {κ : Nat → Nat} {j : Nat} (hj : j < 10) : va_up (yk_pE κ j) 17 (.inl (κ 2, 10, .inr (.inr (.inr (.inr (va_up (yk_pf κ j) (nI j).toNatClampNeg (some (κ 4 + (19 + 3 * j))))))))) = yk_pE κ (j + 1) := by
  have h1 : va_up (yk_pf κ j) (nI j).toNatClampNeg (some (κ 4 + (19 + 3 * j))) = yk_pf κ (j + 1) := by
    rw [nI_clamp (by omega)]
    funext i
    unfold va_up yk_pf
    by_cases hi : i = j
    · subst hi
      simp
    · rw [if_neg hi]
      by_cases h2 : i < j
      · rw [if_pos h2, if_pos (by omega)]
      · rw [if_neg h2, if_neg (by omega)]
  rw [h1]
  funext k
  unfold yk_pE
  by_cases hk : k = 17
  · subst hk
    simp [va_up]
  · simp [va_up, hk]
theorem kk_X5 : yk_w RX5 4 yX5_init cX5_init 2 := ⟨⟨tw_146, tw_55, tw_148, tw_149⟩, by decide +kernel⟩
abbrev rk_X5 : Room := { frames := 2, cells := 32, slots := 1310, locals := 40 }
section
variable {p : Program} {l : Launch} {e : Env} {s : State} {m : MethodId} {args : Array Value} {below : List Frame} {meth : Method} {c : Code} {D : va_G} {κ : Nat → Nat}
set_option maxHeartbeats 4000000 in
set_option maxRecDepth 100000 in
theorem wk_X5 (C : yy_C D κ p m c cX5_init 2 s args RX5) (hr : meth.sig.returnType = none) (hlk : meth.locks = false) : ∀ (n j : Nat), j ≤ 10 → 10 - j < n → ∀ (H : Heap) (locs : List Loc) (ls : Array Slot), yk_Z D κ (fun q => κ 4 + 16 ≤ q) s.heap 16 5 [.ref (κ 4 + 17), .ref (κ 4 + 18), .int 0, .int 0] (yk_pE κ j) (19 + 3 * j) H locs → lv_has ls 2 [(0, .ref (κ 4 + 16)), (1, .int (nI j))] → W p l e rk_X5 s m args below meth c H locs (2 + 3 * j) (20 + 129 * j) (MQ below (yk_Q D κ 16 33) args s 32 1310 (fun q => κ 4 + 16 ≤ q)) (F0 m 33 ls [])
  | 0, j, hj, hn, H, locs, ls, Z, hl => by omega
  | n + 1, j, hj, hn, H, locs, ls, Z, hl => by
    refine lv_iload_n C.1.1 C.1.2.1 dX5_init_33 rfl (lv_at hl 1 rfl) ?_
    refine lv_bipush (v := 10) C.1.1 C.1.2.1 dX5_init_34 (by decide) ?_
    refine lv_icmp_ge (tgt := 58) C.1.1 C.1.2.1 dX5_init_36 (by decide) (fun hc => ?_) (fun hc => ?_)
    · have hj10 : j = 10 := by
        by_cases h : j < 10
        · exact absurd hc (nI_ge (a := j) (b := 10) h (by decide))
        · omega
      subst hj10
      refine yk_ret C Z hr hlk (by unfold yk_E; rw [yy_ent_16]; try rfl) (fun k h1 h2 => ?_) rfl dX5_init_58
      by_cases hk : k = 17
      · subst hk
        rw [yk_pE_17]
        unfold yk_E
        rw [yy_ent_17]
        try rfl
      · exact yk_pE_ne hk
    · have hj10 : j < 10 := by
        by_cases h : j < 10
        · exact h
        · exact absurd (nI_le (a := 10) (b := j) (by omega) (by omega)) hc
      refine lv_aload_n C.1.1 C.1.2.1 dX5_init_39 rfl (lv_at hl 0 rfl) ?_
      refine yk_get (v := .ref (κ 4 + 17)) C Z (k := 0) (N := 4) (T := TX5) rfl inX5 (by decide) rfl tw_154 rfl dX5_init_40 ?_
      refine lv_iload_n C.1.1 C.1.2.1 dX5_init_43 rfl (lv_at hl 1 rfl) ?_
      refine yk_ni (N := 3) (cj := 2) (gs := [.null, .null, .int 0]) (rest := [.int (nI j), .ref (κ 4 + 17)]) C Z rfl inX2 tyX2_ok (by decide) tw_151 kk_X2 (sk_X2 l D κ (o := 19 + 3 * j) (yy_P0 j hj10)) (Or.inl (by decide +kernel)) (fun k h1 h2 => yk_pE_ne (by omega)) (by decide) ⟨rfl, rfl⟩ ⟨Nat.le_of_ble_eq_true rfl, Nat.le_of_ble_eq_true rfl⟩ ⟨(show 2 + 3 * j + 1 + 2 ≤ 32 by omega), (show 20 + 129 * j + 3 + 126 ≤ 1310 by omega)⟩ hl.1 (Nat.le_of_ble_eq_true rfl) dX5_init_44 dX5_init_47 dX5_init_48 (fun H locs Z => ?_)
      refine yk_aast C Z (g := 17) (id := 19 + 3 * j) (n := 10) (f := yk_pf κ j) (by decide) (by omega) yk_pE_17 (by omega) (by omega) ((yk_pE_ne (by omega)).trans (yy_ent_Eds (yy_P0 j hj10) _)) (vp_in_nI hj10 (by omega)) dX5_init_51 (fun H locs Z => ?_)
      rw [yk_pE_s hj10] at Z
      refine lv_iinc (v := nI (j + 1)) (lv' := [(1, .int (nI (j + 1))), (0, .ref (κ 4 + 16))]) C.1.1 C.1.2.1 dX5_init_52 hl (k := 1) rfl (nI_1 j) (by decide) rfl (fun ls hl => ?_)
      refine lv_goto (tgt := 33) C.1.1 C.1.2.1 dX5_init_55 (by decide) ?_
      refine W.widen (k := 2 + 3 * (j + 1)) (n := 20 + 129 * (j + 1)) (by omega) (by omega) ?_
      exact wk_X5 C hr hlk n (j + 1) (by omega) (by omega) H locs ls Z (lv_sub hl [1, 0] rfl)
end
set_option maxHeartbeats 4000000 in
set_option maxRecDepth 100000 in
theorem sk_X5 (l : Launch) (D : va_G) (κ : Nat → Nat) : yk_M l D κ yX5_init cX5_init 2 rk_X5 16 5 [.null, .null, .int 0, .int 0] 33 32 1310 := by
  refine yk_ofW (by decide) rfl (Nat.le_of_ble_eq_true rfl) ?_
  intro p e s m args below meth c ls C hr hlk hini Z hl
  have Z : yk_Z D κ (fun q => κ 4 + 16 ≤ q) s.heap 16 5 [.null, .null, .int 0, .int 0] (yk_pE κ 0) 17 s.heap [] := Z
  refine lv_aload_n C.1.1 C.1.2.1 dX5_init_0 rfl (lv_at hl 0 rfl) ?_
  refine yk_obj C tw_150 tw_74 tw_75 hl.1 dX5_init_1 (Nat.le_of_ble_eq_true rfl) (Nat.le_of_ble_eq_true rfl) ?_
  refine lv_aload_n C.1.1 C.1.2.1 dX5_init_4 rfl (lv_at hl 0 rfl) ?_
  refine lv_bipush (v := 10) C.1.1 C.1.2.1 dX5_init_5 (by decide) ?_
  refine yk_newE (N' := 10) C Z tw_151 (by decide) (by decide) (by decide) (by rw [yk_pE_17, yk_pf_0]) (Nat.le_of_ble_eq_true rfl) (Nat.le_of_ble_eq_true rfl) dX5_init_7 (fun H Z => ?_)
  refine W.widen (k := 1) (n := 10) (Nat.le_refl _) (Nat.le_refl _) ?_
  refine yk_putF C Z (k := 0) (id := 17) (N := 4) (T := TX5) rfl inX5 tyX5_ok nmX5 (by decide) rfl rfl hini rfl rfl rfl (Nat.le_of_ble_eq_true rfl) tw_154 dX5_init_10 (fun H locs Z => ?_)
  refine lv_aload_n C.1.1 C.1.2.1 dX5_init_13 rfl (lv_at hl 0 rfl) ?_
  refine lv_bipush (v := 10) C.1.1 C.1.2.1 dX5_init_14 (by decide) ?_
  refine yk_newI (N' := 10) C Z tw_123 (by decide) (by decide) (by decide) ((yk_pE_ne (by decide)).trans (yk_EI (by decide) rfl)) (Nat.le_of_ble_eq_true rfl) (Nat.le_of_ble_eq_true rfl) dX5_init_16 (fun H Z => ?_)
  refine W.widen (k := 2) (n := 20) (Nat.le_refl _) (Nat.le_refl _) ?_
  refine yk_putF C Z (k := 1) (id := 18) (N := 4) (T := TX5) rfl inX5 tyX5_ok nmX5 (by decide) rfl rfl hini rfl rfl rfl (Nat.le_of_ble_eq_true rfl) tw_156 dX5_init_18 (fun H locs Z => ?_)
  refine lv_aload_n C.1.1 C.1.2.1 dX5_init_21 rfl (lv_at hl 0 rfl) ?_
  refine lv_iconst (v := 0) C.1.1 C.1.2.1 dX5_init_22 (by decide) ?_
  refine yk_putI C Z (k := 2) (N := 4) (T := TX5) rfl inX5 tyX5_ok nmX5 (by decide) rfl rfl rfl rfl rfl (Nat.le_of_ble_eq_true rfl) tw_158 dX5_init_23 (fun H locs Z => ?_)
  refine lv_aload_n C.1.1 C.1.2.1 dX5_init_26 rfl (lv_at hl 0 rfl) ?_
  refine lv_iconst (v := 0) C.1.1 C.1.2.1 dX5_init_27 (by decide) ?_
  refine yk_putI C Z (k := 3) (N := 4) (T := TX5) rfl inX5 tyX5_ok nmX5 (by decide) rfl rfl rfl rfl rfl (Nat.le_of_ble_eq_true rfl) tw_160 dX5_init_28 (fun H locs Z => ?_)
  refine lv_iconst (v := 0) C.1.1 C.1.2.1 dX5_init_31 (by decide) ?_
  refine lv_istore_n (lv' := [(1, .int 0), (0, .ref (κ 4 + 16))]) C.1.1 C.1.2.1 dX5_init_32 rfl hl (by decide) rfl (fun ls hl => ?_)
  have Z : yk_Z D κ (fun q => κ 4 + 16 ≤ q) s.heap 16 5 [.ref (κ 4 + 17), .ref (κ 4 + 18), .int 0, .int 0] (yk_pE κ 0) (19 + 3 * 0) H locs := Z
  exact wk_X5 C hr hlk 11 0 (by omega) (by omega) H locs ls Z (lv_sub hl [1, 0] rfl)
theorem kk_X9 : yk_w RX9 11 yX9_init cX9_init 1 := ⟨⟨tw_69, tw_51, tw_71, tw_72⟩, by decide +kernel⟩
abbrev rk_X9 : Room := { frames := 3, cells := 111, slots := 3638, locals := 61 }
set_option maxHeartbeats 4000000 in
set_option maxRecDepth 100000 in
theorem sk_X9 (l : Launch) (D : va_G) (κ : Nat → Nat) : yk_M l D κ yX9_init cX9_init 1 rk_X9 0 9 [.null, .null, .null, .null, .null, .null, .null, .null, .null, .null, .int 0] 112 111 3638 := by
  refine yk_ofW (by decide) rfl (Nat.le_of_ble_eq_true rfl) ?_
  intro p e s m args below meth c ls C hr hlk hini Z hl
  refine lv_aload_n C.1.1 C.1.2.1 dX9_init_0 rfl (lv_at hl 0 rfl) ?_
  refine yk_obj C tw_73 tw_74 tw_75 hl.1 dX9_init_1 (Nat.le_of_ble_eq_true rfl) (Nat.le_of_ble_eq_true rfl) ?_
  refine lv_aload_n C.1.1 C.1.2.1 dX9_init_4 rfl (lv_at hl 0 rfl) ?_
  refine yk_ni (N := 2) (cj := 7) (gs := [.null, .int 0]) (rest := [.ref (κ 4 + 0)]) C Z rfl inX7 tyX7_ok (by decide) tw_76 kk_X7 (sk_X7 l D κ) (Or.inl (by decide +kernel)) (fun _ _ _ => rfl) (by decide) ⟨rfl, rfl⟩ ⟨(Nat.le_of_ble_eq_true rfl), (Nat.le_of_ble_eq_true rfl)⟩ ⟨(Nat.le_of_ble_eq_true rfl), (Nat.le_of_ble_eq_true rfl)⟩ hl.1 (Nat.le_of_ble_eq_true rfl) dX9_init_5 dX9_init_8 dX9_init_9 (fun H locs Z => ?_)
  have Z : yk_Z D κ (fun q => κ 4 + 0 ≤ q) s.heap 0 9 [.null, .null, .null, .null, .null, .null, .null, .null, .null, .null, .int 0] (yk_E κ) 3 H locs := Z
  refine W.widen (k := 2) (n := 642) (Nat.le_refl _) (Nat.le_refl _) ?_
  refine yk_putF C Z (k := 0) (id := 1) (N := 11) (T := TX9) rfl inX9 tyX9_ok nmX9 (by decide) rfl rfl hini rfl rfl rfl (Nat.le_of_ble_eq_true rfl) tw_331 dX9_init_12 (fun H locs Z => ?_)
  have Z : yk_Z D κ (fun q => κ 4 + 0 ≤ q) s.heap 0 9 [.ref (κ 4 + 1), .null, .null, .null, .null, .null, .null, .null, .null, .null, .int 0] (yk_E κ) 3 H locs := Z
  refine lv_aload_n C.1.1 C.1.2.1 dX9_init_15 rfl (lv_at hl 0 rfl) ?_
  refine yk_ni (N := 5) (cj := 6) (gs := [.null, .int 0, .int 0, .int 0, .int 0]) (rest := [.ref (κ 4 + 0)]) C Z rfl inX6 tyX6_ok (by decide) tw_93 kk_X6 (sk_X6 l D κ) (Or.inl (by decide +kernel)) (fun _ _ _ => rfl) (by decide) ⟨rfl, rfl⟩ ⟨(Nat.le_of_ble_eq_true rfl), (Nat.le_of_ble_eq_true rfl)⟩ ⟨(Nat.le_of_ble_eq_true rfl), (Nat.le_of_ble_eq_true rfl)⟩ hl.1 (Nat.le_of_ble_eq_true rfl) dX9_init_16 dX9_init_19 dX9_init_20 (fun H locs Z => ?_)
  have Z : yk_Z D κ (fun q => κ 4 + 0 ≤ q) s.heap 0 9 [.ref (κ 4 + 1), .null, .null, .null, .null, .null, .null, .null, .null, .null, .int 0] (yk_E κ) 7 H locs := Z
  refine W.widen (k := 6) (n := 776) (Nat.le_refl _) (Nat.le_refl _) ?_
  refine yk_putF C Z (k := 1) (id := 3) (N := 11) (T := TX9) rfl inX9 tyX9_ok nmX9 (by decide) rfl rfl hini rfl rfl rfl (Nat.le_of_ble_eq_true rfl) tw_332 dX9_init_23 (fun H locs Z => ?_)
  have Z : yk_Z D κ (fun q => κ 4 + 0 ≤ q) s.heap 0 9 [.ref (κ 4 + 1), .ref (κ 4 + 3), .null, .null, .null, .null, .null, .null, .null, .null, .int 0] (yk_E κ) 7 H locs := Z
  refine lv_aload_n C.1.1 C.1.2.1 dX9_init_26 rfl (lv_at hl 0 rfl) ?_
  refine yk_ni (N := 3) (cj := 2) (gs := [.null, .null, .int 0]) (rest := [.ref (κ 4 + 0)]) C Z rfl inX2 tyX2_ok (by decide) tw_143 kk_X2 (sk_X2 l D κ (o := 7) (by decide)) (Or.inl (by decide +kernel)) (fun _ _ _ => rfl) (by decide) ⟨rfl, rfl⟩ ⟨(Nat.le_of_ble_eq_true rfl), (Nat.le_of_ble_eq_true rfl)⟩ ⟨(Nat.le_of_ble_eq_true rfl), (Nat.le_of_ble_eq_true rfl)⟩ hl.1 (Nat.le_of_ble_eq_true rfl) dX9_init_27 dX9_init_30 dX9_init_31 (fun H locs Z => ?_)
  have Z : yk_Z D κ (fun q => κ 4 + 0 ≤ q) s.heap 0 9 [.ref (κ 4 + 1), .ref (κ 4 + 3), .null, .null, .null, .null, .null, .null, .null, .null, .int 0] (yk_E κ) 10 H locs := Z
  refine W.widen (k := 9) (n := 905) (Nat.le_refl _) (Nat.le_refl _) ?_
  refine yk_putF C Z (k := 2) (id := 7) (N := 11) (T := TX9) rfl inX9 tyX9_ok nmX9 (by decide) rfl rfl hini rfl rfl rfl (Nat.le_of_ble_eq_true rfl) tw_333 dX9_init_34 (fun H locs Z => ?_)
  have Z : yk_Z D κ (fun q => κ 4 + 0 ≤ q) s.heap 0 9 [.ref (κ 4 + 1), .ref (κ 4 + 3), .ref (κ 4 + 7), .null, .null, .null, .null, .null, .null, .null, .int 0] (yk_E κ) 10 H locs := Z
  refine lv_aload_n C.1.1 C.1.2.1 dX9_init_37 rfl (lv_at hl 0 rfl) ?_
  refine yk_ni (N := 3) (cj := 2) (gs := [.null, .null, .int 0]) (rest := [.ref (κ 4 + 0)]) C Z rfl inX2 tyX2_ok (by decide) tw_143 kk_X2 (sk_X2 l D κ (o := 10) (by decide)) (Or.inl (by decide +kernel)) (fun _ _ _ => rfl) (by decide) ⟨rfl, rfl⟩ ⟨(Nat.le_of_ble_eq_true rfl), (Nat.le_of_ble_eq_true rfl)⟩ ⟨(Nat.le_of_ble_eq_true rfl), (Nat.le_of_ble_eq_true rfl)⟩ hl.1 (Nat.le_of_ble_eq_true rfl) dX9_init_38 dX9_init_41 dX9_init_42 (fun H locs Z => ?_)
  have Z : yk_Z D κ (fun q => κ 4 + 0 ≤ q) s.heap 0 9 [.ref (κ 4 + 1), .ref (κ 4 + 3), .ref (κ 4 + 7), .null, .null, .null, .null, .null, .null, .null, .int 0] (yk_E κ) 13 H locs := Z
  refine W.widen (k := 12) (n := 1034) (Nat.le_refl _) (Nat.le_refl _) ?_
  refine yk_putF C Z (k := 3) (id := 10) (N := 11) (T := TX9) rfl inX9 tyX9_ok nmX9 (by decide) rfl rfl hini rfl rfl rfl (Nat.le_of_ble_eq_true rfl) tw_334 dX9_init_45 (fun H locs Z => ?_)
  have Z : yk_Z D κ (fun q => κ 4 + 0 ≤ q) s.heap 0 9 [.ref (κ 4 + 1), .ref (κ 4 + 3), .ref (κ 4 + 7), .ref (κ 4 + 10), .null, .null, .null, .null, .null, .null, .int 0] (yk_E κ) 13 H locs := Z
  refine lv_aload_n C.1.1 C.1.2.1 dX9_init_48 rfl (lv_at hl 0 rfl) ?_
  refine yk_ni (N := 3) (cj := 2) (gs := [.null, .null, .int 0]) (rest := [.ref (κ 4 + 0)]) C Z rfl inX2 tyX2_ok (by decide) tw_143 kk_X2 (sk_X2 l D κ (o := 13) (by decide)) (Or.inl (by decide +kernel)) (fun _ _ _ => rfl) (by decide) ⟨rfl, rfl⟩ ⟨(Nat.le_of_ble_eq_true rfl), (Nat.le_of_ble_eq_true rfl)⟩ ⟨(Nat.le_of_ble_eq_true rfl), (Nat.le_of_ble_eq_true rfl)⟩ hl.1 (Nat.le_of_ble_eq_true rfl) dX9_init_49 dX9_init_52 dX9_init_53 (fun H locs Z => ?_)
  have Z : yk_Z D κ (fun q => κ 4 + 0 ≤ q) s.heap 0 9 [.ref (κ 4 + 1), .ref (κ 4 + 3), .ref (κ 4 + 7), .ref (κ 4 + 10), .null, .null, .null, .null, .null, .null, .int 0] (yk_E κ) 16 H locs := Z
  refine W.widen (k := 15) (n := 1163) (Nat.le_refl _) (Nat.le_refl _) ?_
  refine yk_putF C Z (k := 4) (id := 13) (N := 11) (T := TX9) rfl inX9 tyX9_ok nmX9 (by decide) rfl rfl hini rfl rfl rfl (Nat.le_of_ble_eq_true rfl) tw_335 dX9_init_56 (fun H locs Z => ?_)
  have Z : yk_Z D κ (fun q => κ 4 + 0 ≤ q) s.heap 0 9 [.ref (κ 4 + 1), .ref (κ 4 + 3), .ref (κ 4 + 7), .ref (κ 4 + 10), .ref (κ 4 + 13), .null, .null, .null, .null, .null, .int 0] (yk_E κ) 16 H locs := Z
  refine lv_aload_n C.1.1 C.1.2.1 dX9_init_59 rfl (lv_at hl 0 rfl) ?_
  refine yk_ni (N := 4) (cj := 5) (gs := [.null, .null, .int 0, .int 0]) (rest := [.ref (κ 4 + 0)]) C Z rfl inX5 tyX5_ok (by decide) tw_145 kk_X5 (sk_X5 l D κ) (Or.inr tw_147) (fun _ _ _ => rfl) (by decide) ⟨rfl, rfl⟩ ⟨(Nat.le_of_ble_eq_true rfl), (Nat.le_of_ble_eq_true rfl)⟩ ⟨(Nat.le_of_ble_eq_true rfl), (Nat.le_of_ble_eq_true rfl)⟩ hl.1 (Nat.le_of_ble_eq_true rfl) dX9_init_60 dX9_init_63 dX9_init_64 (fun H locs Z => ?_)
  have Z : yk_Z D κ (fun q => κ 4 + 0 ≤ q) s.heap 0 9 [.ref (κ 4 + 1), .ref (κ 4 + 3), .ref (κ 4 + 7), .ref (κ 4 + 10), .ref (κ 4 + 13), .null, .null, .null, .null, .null, .int 0] (yk_E κ) 49 H locs := Z
  refine W.widen (k := 48) (n := 2477) (Nat.le_refl _) (Nat.le_refl _) ?_
  refine yk_putF C Z (k := 5) (id := 16) (N := 11) (T := TX9) rfl inX9 tyX9_ok nmX9 (by decide) rfl rfl hini rfl rfl rfl (Nat.le_of_ble_eq_true rfl) tw_336 dX9_init_67 (fun H locs Z => ?_)
  have Z : yk_Z D κ (fun q => κ 4 + 0 ≤ q) s.heap 0 9 [.ref (κ 4 + 1), .ref (κ 4 + 3), .ref (κ 4 + 7), .ref (κ 4 + 10), .ref (κ 4 + 13), .ref (κ 4 + 16), .null, .null, .null, .null, .int 0] (yk_E κ) 49 H locs := Z
  refine lv_aload_n C.1.1 C.1.2.1 dX9_init_70 rfl (lv_at hl 0 rfl) ?_
  refine yk_ni (N := 4) (cj := 1) (gs := [.null, .null, .null, .null]) (rest := [.ref (κ 4 + 0)]) C Z rfl inX1 tyX1_ok (by decide) tw_170 kk_X1 (sk_X1 l D κ) (Or.inl (by decide +kernel)) (fun _ _ _ => rfl) (by decide) ⟨rfl, rfl⟩ ⟨(Nat.le_of_ble_eq_true rfl), (Nat.le_of_ble_eq_true rfl)⟩ ⟨(Nat.le_of_ble_eq_true rfl), (Nat.le_of_ble_eq_true rfl)⟩ hl.1 (Nat.le_of_ble_eq_true rfl) dX9_init_71 dX9_init_74 dX9_init_75 (fun H locs Z => ?_)
  have Z : yk_Z D κ (fun q => κ 4 + 0 ≤ q) s.heap 0 9 [.ref (κ 4 + 1), .ref (κ 4 + 3), .ref (κ 4 + 7), .ref (κ 4 + 10), .ref (κ 4 + 13), .ref (κ 4 + 16), .null, .null, .null, .null, .int 0] (yk_E κ) 80 H locs := Z
  refine W.widen (k := 79) (n := 3088) (Nat.le_refl _) (Nat.le_refl _) ?_
  refine yk_putF C Z (k := 6) (id := 49) (N := 11) (T := TX9) rfl inX9 tyX9_ok nmX9 (by decide) rfl rfl hini rfl rfl rfl (Nat.le_of_ble_eq_true rfl) tw_337 dX9_init_78 (fun H locs Z => ?_)
  have Z : yk_Z D κ (fun q => κ 4 + 0 ≤ q) s.heap 0 9 [.ref (κ 4 + 1), .ref (κ 4 + 3), .ref (κ 4 + 7), .ref (κ 4 + 10), .ref (κ 4 + 13), .ref (κ 4 + 16), .ref (κ 4 + 49), .null, .null, .null, .int 0] (yk_E κ) 80 H locs := Z
  refine lv_aload_n C.1.1 C.1.2.1 dX9_init_81 rfl (lv_at hl 0 rfl) ?_
  refine yk_ni (N := 5) (cj := 0) (gs := [.null, .null, .null, .int 0, .int 0]) (rest := [.ref (κ 4 + 0)]) C Z rfl inX0 tyX0_ok (by decide) tw_274 kk_X0 (sk_X0 l D κ (o := 80) (by decide)) (Or.inl (by decide +kernel)) (fun _ _ _ => rfl) (by decide) ⟨rfl, rfl⟩ ⟨(Nat.le_of_ble_eq_true rfl), (Nat.le_of_ble_eq_true rfl)⟩ ⟨(Nat.le_of_ble_eq_true rfl), (Nat.le_of_ble_eq_true rfl)⟩ hl.1 (Nat.le_of_ble_eq_true rfl) dX9_init_82 dX9_init_85 dX9_init_86 (fun H locs Z => ?_)
  have Z : yk_Z D κ (fun q => κ 4 + 0 ≤ q) s.heap 0 9 [.ref (κ 4 + 1), .ref (κ 4 + 3), .ref (κ 4 + 7), .ref (κ 4 + 10), .ref (κ 4 + 13), .ref (κ 4 + 16), .ref (κ 4 + 49), .null, .null, .null, .int 0] (yk_E κ) 84 H locs := Z
  refine W.widen (k := 83) (n := 3346) (Nat.le_refl _) (Nat.le_refl _) ?_
  refine yk_putF C Z (k := 7) (id := 80) (N := 11) (T := TX9) rfl inX9 tyX9_ok nmX9 (by decide) rfl rfl hini rfl rfl rfl (Nat.le_of_ble_eq_true rfl) tw_338 dX9_init_89 (fun H locs Z => ?_)
  have Z : yk_Z D κ (fun q => κ 4 + 0 ≤ q) s.heap 0 9 [.ref (κ 4 + 1), .ref (κ 4 + 3), .ref (κ 4 + 7), .ref (κ 4 + 10), .ref (κ 4 + 13), .ref (κ 4 + 16), .ref (κ 4 + 49), .ref (κ 4 + 80), .null, .null, .int 0] (yk_E κ) 84 H locs := Z
  refine lv_aload_n C.1.1 C.1.2.1 dX9_init_92 rfl (lv_at hl 0 rfl) ?_
  refine yk_ni (N := 11) (cj := 8) (gs := [.null, .null, .null, .null, .null, .null, .null, .int 0, .int 0, .int 0, .int 0]) (rest := [.ref (κ 4 + 0)]) C Z rfl inX8 tyX8_ok (by decide) tw_276 kk_X8 (sk_X8 l D κ (o := 84) (by decide)) (Or.inl (by decide +kernel)) (fun _ _ _ => rfl) (by decide) ⟨rfl, rfl⟩ ⟨(Nat.le_of_ble_eq_true rfl), (Nat.le_of_ble_eq_true rfl)⟩ ⟨(Nat.le_of_ble_eq_true rfl), (Nat.le_of_ble_eq_true rfl)⟩ hl.1 (Nat.le_of_ble_eq_true rfl) dX9_init_93 dX9_init_96 dX9_init_97 (fun H locs Z => ?_)
  have Z : yk_Z D κ (fun q => κ 4 + 0 ≤ q) s.heap 0 9 [.ref (κ 4 + 1), .ref (κ 4 + 3), .ref (κ 4 + 7), .ref (κ 4 + 10), .ref (κ 4 + 13), .ref (κ 4 + 16), .ref (κ 4 + 49), .ref (κ 4 + 80), .null, .null, .int 0] (yk_E κ) 98 H locs := Z
  refine W.widen (k := 97) (n := 3492) (Nat.le_refl _) (Nat.le_refl _) ?_
  refine yk_putF C Z (k := 8) (id := 84) (N := 11) (T := TX9) rfl inX9 tyX9_ok nmX9 (by decide) rfl rfl hini rfl rfl rfl (Nat.le_of_ble_eq_true rfl) tw_339 dX9_init_100 (fun H locs Z => ?_)
  have Z : yk_Z D κ (fun q => κ 4 + 0 ≤ q) s.heap 0 9 [.ref (κ 4 + 1), .ref (κ 4 + 3), .ref (κ 4 + 7), .ref (κ 4 + 10), .ref (κ 4 + 13), .ref (κ 4 + 16), .ref (κ 4 + 49), .ref (κ 4 + 80), .ref (κ 4 + 84), .null, .int 0] (yk_E κ) 98 H locs := Z
  refine lv_aload_n C.1.1 C.1.2.1 dX9_init_103 rfl (lv_at hl 0 rfl) ?_
  refine yk_ni (N := 11) (cj := 8) (gs := [.null, .null, .null, .null, .null, .null, .null, .int 0, .int 0, .int 0, .int 0]) (rest := [.ref (κ 4 + 0)]) C Z rfl inX8 tyX8_ok (by decide) tw_276 kk_X8 (sk_X8 l D κ (o := 98) (by decide)) (Or.inl (by decide +kernel)) (fun _ _ _ => rfl) (by decide) ⟨rfl, rfl⟩ ⟨(Nat.le_of_ble_eq_true rfl), (Nat.le_of_ble_eq_true rfl)⟩ ⟨(Nat.le_of_ble_eq_true rfl), (Nat.le_of_ble_eq_true rfl)⟩ hl.1 (Nat.le_of_ble_eq_true rfl) dX9_init_104 dX9_init_107 dX9_init_108 (fun H locs Z => ?_)
  have Z : yk_Z D κ (fun q => κ 4 + 0 ≤ q) s.heap 0 9 [.ref (κ 4 + 1), .ref (κ 4 + 3), .ref (κ 4 + 7), .ref (κ 4 + 10), .ref (κ 4 + 13), .ref (κ 4 + 16), .ref (κ 4 + 49), .ref (κ 4 + 80), .ref (κ 4 + 84), .null, .int 0] (yk_E κ) 112 H locs := Z
  refine W.widen (k := 111) (n := 3638) (Nat.le_refl _) (Nat.le_refl _) ?_
  refine yk_putF C Z (k := 9) (id := 98) (N := 11) (T := TX9) rfl inX9 tyX9_ok nmX9 (by decide) rfl rfl hini rfl rfl rfl (Nat.le_of_ble_eq_true rfl) tw_340 dX9_init_111 (fun H locs Z => ?_)
  have Z : yk_Z D κ (fun q => κ 4 + 0 ≤ q) s.heap 0 9 [.ref (κ 4 + 1), .ref (κ 4 + 3), .ref (κ 4 + 7), .ref (κ 4 + 10), .ref (κ 4 + 13), .ref (κ 4 + 16), .ref (κ 4 + 49), .ref (κ 4 + 80), .ref (κ 4 + 84), .ref (κ 4 + 98), .int 0] (yk_E κ) 112 H locs := Z
  refine lv_aload_n C.1.1 C.1.2.1 dX9_init_114 rfl (lv_at hl 0 rfl) ?_
  refine lv_iconst (v := 1) C.1.1 C.1.2.1 dX9_init_115 (by decide) ?_
  refine yk_putI C Z (k := 10) (N := 11) (T := TX9) rfl inX9 tyX9_ok nmX9 (by decide) rfl rfl rfl rfl rfl (Nat.le_of_ble_eq_true rfl) tw_341 dX9_init_116 (fun H locs Z => ?_)
  have Z : yk_Z D κ (fun q => κ 4 + 0 ≤ q) s.heap 0 9 [.ref (κ 4 + 1), .ref (κ 4 + 3), .ref (κ 4 + 7), .ref (κ 4 + 10), .ref (κ 4 + 13), .ref (κ 4 + 16), .ref (κ 4 + 49), .ref (κ 4 + 80), .ref (κ 4 + 84), .ref (κ 4 + 98), .int 1] (yk_E κ) 112 H locs := Z
  exact yk_ret C Z hr hlk (by unfold yk_E; rw [yy_ent_0]; try rfl) (fun _ _ _ => rfl) rfl dX9_init_119
