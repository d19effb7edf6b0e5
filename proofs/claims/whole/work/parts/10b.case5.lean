section
variable {p : Program} {l : Launch} {e : Env} {s : State} {m : MethodId} {args : Array Value} {below : List Frame} {meth : Method} {c : Code} {H : Heap} {locs : List Loc} {ls : Array Slot} {Q : State → Prop} {D : va_G} {κ : Nat → Nat} {τ : yy_T} {b L j qo c0 s0 cells slots pc : Nat} {xs : Nat → Int32} {u : Nat → Int64} {rest : List Value} {R : Room} {ext : va_W}
/-- case 5: both throw, or both answer, and the same -/
noncomputable def mm_L_5 (y1 y2 y3 : Int32) : yy_M Unit :=
  yy_cl (mm_X9_line y1 y2 y3) (fun q => yy_cl (mm_X10_line y1 y2 y3) (fun r2 => yy_cl mm_X10_thrown (fun r3 => yy_ck (q = .inl r2 ∧ r3 = 0 ∨ q = .inr () ∧ r3 = 1) (yy_rt ()))))
theorem yl_lcmp (x : Int64) : lg_cmp x x = 0 := by
  unfold lg_cmp
  simp
set_option maxHeartbeats 4000000 in
set_option maxRecDepth 100000 in
theorem wl_5 (hnt : l.stackTraces = false) (hS9 : yx_S (fun q : Nat => s.heap.size ≤ q) s) (hJ : yl_J κ s) (hk4 : s.heap.size ≤ κ 4) (hX : va_X b L xs s s.heap) (hbl : b < s.heap.size) (hL : L ≤ 3072) (hj : 6 * j + 6 ≤ L) (hc0 : c0 + 120 ≤ 601024) (hs0 : s0 + 1680 ≤ 7293034) {res : Unit × yy_T} (C : yy_C D κ p m c cL_law 7 s args RL) (Z : yy_Z D κ [yl_o κ qo u] (fun q : Nat => s.heap.size ≤ q) s.heap τ H locs) (hl : lv_has ls 7 [(0, .ref b), (1, .ref (κ 4 + 0)), (2, .ref (κ 4 + 112)), (3, .ref qo), (4, .int (nI (6 * j)))]) (h : mm_L_5 (xs (6 * j + 1)) (xs (6 * j + 2)) (xs (6 * j + 3)) τ = some res) (kE : ∀ (u : Nat → Int64) (τ1 : yy_T) (H1 : Heap) (locs1 : List Loc) (ls1 : Array Slot), res = ((), τ1) → yy_Z D κ [yl_o κ qo u] (fun q : Nat => s.heap.size ≤ q) s.heap τ1 H1 locs1 → lv_has ls1 7 [(0, .ref b), (1, .ref (κ 4 + 0)), (2, .ref (κ 4 + 112)), (3, .ref qo), (4, .int (nI (6 * j)))] → W p l e room_1 s m args below meth c H1 locs1 (c0 + 120) (s0 + 1680) Q (F0 m 859 ls1 [])) : W p l e room_1 s m args below meth c H locs c0 s0 Q (F0 m 297 ls []) := by
  unfold mm_L_5 at h
  obtain ⟨q, τq, hq, h⟩ := yy_cl_of h
  refine lv_aload_n C.1.1 C.1.2.1 dL_law_297 rfl (lv_at hl 1 rfl) ?_
  refine lv_aload_n C.1.1 C.1.2.1 dL_law_298 rfl (lv_at hl 0 rfl) ?_
  refine lv_iload C.1.1 C.1.2.1 dL_law_299 (lv_at hl 4 rfl) ?_
  refine lv_iconst (v := 1) C.1.1 C.1.2.1 dL_law_301 (by decide) ?_
  refine lv_iadd C.1.1 C.1.2.1 dL_law_302 ?_
  refine yl_scr (k := 1) C Z hX hbl hL (nI_add (6 * j) 1) (by omega) dL_law_303 ?_
  refine lv_aload_n C.1.1 C.1.2.1 dL_law_304 rfl (lv_at hl 0 rfl) ?_
  refine lv_iload C.1.1 C.1.2.1 dL_law_305 (lv_at hl 4 rfl) ?_
  refine lv_iconst (v := 2) C.1.1 C.1.2.1 dL_law_307 (by decide) ?_
  refine lv_iadd C.1.1 C.1.2.1 dL_law_308 ?_
  refine yl_scr (k := 2) C Z hX hbl hL (nI_add (6 * j) 2) (by omega) dL_law_309 ?_
  refine lv_aload_n C.1.1 C.1.2.1 dL_law_310 rfl (lv_at hl 0 rfl) ?_
  refine lv_iload C.1.1 C.1.2.1 dL_law_311 (lv_at hl 4 rfl) ?_
  refine lv_iconst (v := 3) C.1.1 C.1.2.1 dL_law_313 (by decide) ?_
  refine lv_iadd C.1.1 C.1.2.1 dL_law_314 ?_
  refine yl_scr (k := 3) C Z hX hbl hL (nI_add (6 * j) 3) (by omega) dL_law_315 ?_
  refine lv_aload_n C.1.1 C.1.2.1 dL_law_316 rfl (lv_at hl 3 rfl) ?_
  have Zc := Z
  obtain ⟨hP, hD, hS, hA⟩ := Z
  have hF := yy_A_in (sz := H.size) hD (fun q h => hA q (Nat.le_trans hS.1 h))
  have hG : GoodIn gT (va_wsS RL 43 yL_line (Cond.codeWith yL_line cL_line 6 (some .int) yl_hh :: gT)) := yy_goodT (by
    intro w hw
    unfold va_wsS at hw
    simp only [List.cons_append, List.nil_append, List.mem_cons] at hw
    rcases hw with rfl | rfl | rfl | rfl | hw
    · exact tw_696
    · exact tw_697
    · exact tw_50
    · exact tw_lline
    · exact hw)
  have hrun := vx_runSW (l := l) (e := e) (R := room_1) (below := below) (meth := meth) (H := H) (locs := locs) (cells := c0) (slots := s0) (hh := yl_hh) (g := F0 m 317 ls [.ref qo, .int (xs (6 * j + 3)), .int (xs (6 * j + 2)), .int (xs (6 * j + 1)), .ref (κ 4 + 0)]) (As := [.ref (κ 4 + 0), .int (xs (6 * j + 1)), .int (xs (6 * j + 2)), .int (xs (6 * j + 3)), .ref qo]) (rest := []) C.1 (ss_L_line l hnt D κ [] qo u (xs (6 * j + 1)) (xs (6 * j + 2)) (xs (6 * j + 3)) H.size τ (q, τq) hq)
    (vx_cwSW 5 C.1.2.2.2.2 hG rfl rfl rfl (by decide +kernel) ⟨Nat.le_of_ble_eq_true rfl, Nat.le_of_ble_eq_true rfl⟩) ⟨yl_Pre.blind, fun U hU hW => ⟨⟨⟨rfl, by rw [hU], by rw [hU]; exact hP, C.2.warm hW, hD.weaken (fun _ _ _ _ => trivial)⟩, ?_⟩, hJ.moved hW.alike⟩⟩ rfl rfl hl.1 rfl (lv_room (Nat.le_of_ble_eq_true rfl)) dL_law_317 ⟨(show c0 + 1 ≤ 601024 by omega), (show s0 + 6 ≤ 7293034 by omega)⟩
  rotate_left
  · have h1 := (vx_Zq.kept hS9.1 hS.2.1).narrow hF
    have h2 := (vx_Zq.kept hS9.2 hS.2.1).narrow hF
    exact ⟨by rw [hU]; exact vx_Zq.moved hW.alike h1, by rw [hU]; exact vx_Zq.moved hW.alike h2⟩
  refine va_calli hrun hS (fun q _ h => hF q h) hF (fun r u1 t H locs ht hvm hw hB hz1 hk1 hS1 => ?_)
  obtain ⟨hP1, hD1⟩ := hB
  rw [ht] at hP1
  have Z : yy_Z D κ [yl_o κ qo u1] (fun q : Nat => s.heap.size ≤ q) s.heap τq H locs := ⟨hP1, hD1.weaken (fun _ q _ h => hF q.1 h), hS1, hA⟩
  refine lv_istore (lv' := [(5, .int r), (0, .ref b), (1, .ref (κ 4 + 0)), (2, .ref (κ 4 + 112)), (3, .ref qo), (4, .int (nI (6 * j)))]) C.1.1 C.1.2.1 dL_law_320 hl (by decide) rfl (fun ls hl => ?_)
  refine lv_aload_n C.1.1 C.1.2.1 dL_law_322 rfl (lv_at hl 3 rfl) ?_
  refine lv_aload_n C.1.1 C.1.2.1 dL_law_323 rfl (lv_at hl 1 rfl) ?_
  refine lv_iload C.1.1 C.1.2.1 dL_law_324 (lv_at hl 5 rfl) ?_
  refine lv_iconst (v := 1) C.1.1 C.1.2.1 dL_law_326 (by decide) ?_
  refine lv_iadd C.1.1 C.1.2.1 dL_law_327 ?_
  refine yl_scr (k := 1) C Z hX hbl hL (nI_add (6 * j) 1) (by omega) dL_law_328 ?_
  refine lv_aload_n C.1.1 C.1.2.1 dL_law_329 rfl (lv_at hl 1 rfl) ?_
  refine lv_iload C.1.1 C.1.2.1 dL_law_330 (lv_at hl 5 rfl) ?_
  refine lv_iconst (v := 2) C.1.1 C.1.2.1 dL_law_332 (by decide) ?_
  refine lv_iadd C.1.1 C.1.2.1 dL_law_333 ?_
  refine yl_scr (k := 2) C Z hX hbl hL (nI_add (6 * j) 2) (by omega) dL_law_334 ?_
  refine lv_aload_n C.1.1 C.1.2.1 dL_law_335 rfl (lv_at hl 1 rfl) ?_
  refine lv_iload C.1.1 C.1.2.1 dL_law_336 (lv_at hl 5 rfl) ?_
  refine lv_iconst (v := 3) C.1.1 C.1.2.1 dL_law_338 (by decide) ?_
  refine lv_iadd C.1.1 C.1.2.1 dL_law_339 ?_
  refine yl_scr (k := 3) C Z hX hbl hL (nI_add (6 * j) 3) (by omega) dL_law_340 ?_
  refine yy_cVi (As := [.int (xs (6 * j + 1)), .int (xs (6 * j + 2)), .int (xs (6 * j + 3))]) (rest := []) (id := 112) (ci := 10) (q := (RX10, TX10, 20)) C Z (ss_X10_line l D κ _ (xs (6 * j + 1)) (xs (6 * j + 2)) (xs (6 * j + 3))) (by decide) (yy_ent_112 _) rfl tw_953 kw_X10_line ⟨⟨rfl, rfl⟩, ⟨Nat.le_of_ble_eq_true rfl, Nat.le_of_ble_eq_true rfl⟩, (show c0 + 1 + 58 ≤ 601024 by omega), (show s0 + 6 + 812 ≤ 7293034 by omega)⟩ hl.1 rfl (Nat.le_of_ble_eq_true rfl) dL_law_341 h (fun r2 τ H locs Z h => ?_)
  refine lv_istore (lv' := [(6, .int r2), (5, .int r), (0, .ref b), (1, .ref (κ 4 + 0)), (2, .ref (κ 4 + 112)), (3, .ref qo), (4, .int (nI (6 * j)))]) C.1.1 C.1.2.1 dL_law_344 hl (by decide) rfl (fun ls hl => ?_)
  refine lv_aload_n C.1.1 C.1.2.1 dL_law_346 rfl (lv_at hl 4 rfl) ?_
  refine yy_cVi0 (As := []) (rest := []) (id := 112) (ci := 10) (q := (RX10, TX10, 20)) C Z (ss_X10_thrown l D κ _) (by decide) (yy_ent_112 _) rfl tw_770 kw_X10_thrown ⟨⟨rfl, rfl⟩, ⟨Nat.le_of_ble_eq_true rfl, Nat.le_of_ble_eq_true rfl⟩, (show c0 + 1 + 58 + 0 ≤ 601024 by omega), (show s0 + 6 + 812 + 0 ≤ 7293034 by omega)⟩ hl.1 rfl (Nat.le_of_ble_eq_true rfl) dL_law_347 h (fun r3 τ H locs Z h => ?_)
  obtain ⟨hc, h⟩ := yy_ck_of h
  refine lv_iload C.1.1 C.1.2.1 dL_law_350 (lv_at hl 1 rfl) ?_
  have hr3 : r3 = r := by
    rcases hc with ⟨hc1, hc2⟩ | ⟨hc1, hc2⟩ <;> rcases hw with ⟨v, hv1, hv2, hv3⟩ | ⟨hv1, hv2⟩
    · rw [hc2, hv2]
    · dsimp only at hv1; rw [hc1] at hv1; cases hv1
    · dsimp only at hv1; rw [hc1] at hv1; cases hv1
    · rw [hc2, hv2]
  refine lv_icmp_eq (tgt := 357) C.1.1 C.1.2.1 dL_law_352 (by decide) (fun _ => ?_) (fun hne => absurd hr3 hne)
  refine lv_iload C.1.1 C.1.2.1 dL_law_357 (lv_at hl 1 rfl) ?_
  refine lv_if_ne (tgt := 374) C.1.1 C.1.2.1 dL_law_359 (by decide) (fun _ => ?_) (fun hr0 => ?_)
  · refine lv_goto (tgt := 859) C.1.1 C.1.2.1 dL_law_374 (by decide) ?_
    refine W.widen (k := c0 + 120) (n := s0 + 1680) (by omega) (by omega) ?_
    exact kE _ _ _ _ _ (yy_rt_of h) Z (lv_sub hl [2, 3, 4, 5, 6] rfl)
  · refine lv_aload_n C.1.1 C.1.2.1 dL_law_362 rfl (lv_at hl 5 rfl) ?_
    refine lv_iconst (v := 0) C.1.1 C.1.2.1 dL_law_363 (by decide) ?_
    have hKJ : va_K D yy_cls [(κ 5, .long)] s := ⟨C.2.1.1, fun k q hq => by
      have h0 : k < 1 := (List.getElem?_eq_some_iff.mp hq).1
      rw [show k = 0 by omega] at hq
      cases hq
      exact hJ⟩
    refine va_lald C.1.1 C.1.2.1 hKJ Z.1 (124 + 0) 0 (by rw [yy_ext_at]; rfl) rfl (by unfold vp_in; decide) dL_law_364 ?_
    refine lv_iload C.1.1 C.1.2.1 dL_law_365 (lv_at hl 0 rfl) ?_
    refine lv_i2l C.1.1 C.1.2.1 dL_law_367 rfl ?_
    refine W.lcmp C.1.1 C.1.2.1 dL_law_368 ?_
    have he : u1 (Int32.toNatClampNeg 0) = r2.toInt64 := by
      rcases hc with ⟨hc1, hc2⟩ | ⟨hc1, hc2⟩ <;> rcases hw with ⟨v, hv1, hv2, hv3⟩ | ⟨hv1, hv2⟩
      · dsimp only at hv1
        rw [hc1] at hv1
        cases hv1
        exact hv3
      · dsimp only at hv1; rw [hc1] at hv1; cases hv1
      · dsimp only at hv1; rw [hc1] at hv1; cases hv1
      · rw [hv2] at hr0; cases hr0
    rw [he, yl_lcmp]
    refine lv_if_eq (tgt := 374) C.1.1 C.1.2.1 dL_law_369 (by decide) (fun _ => ?_) (fun hne => absurd rfl hne)
    refine lv_goto (tgt := 859) C.1.1 C.1.2.1 dL_law_374 (by decide) ?_
    refine W.widen (k := c0 + 120) (n := s0 + 1680) (by omega) (by omega) ?_
    exact kE _ _ _ _ _ (yy_rt_of h) Z (lv_sub hl [2, 3, 4, 5, 6] rfl)
end
