/-- one call of the law: op says which, y1 .. y5 its arguments -/
noncomputable def mm_L (op y1 y2 y3 y4 y5 : Int32) : yy_M Unit :=
  yy_br (op &&& 31 = 0) (mm_L_0 y1 y2 y3 y4 y5)
    (yy_br (op &&& 31 = 1) (mm_L_1 y1)
    (yy_br (op &&& 31 = 2) (mm_L_2 y1)
    (yy_br (op &&& 31 = 3) (mm_L_3)
    (yy_br (op &&& 31 = 4) (mm_L_4 y1)
    (yy_br (op &&& 31 = 5) (mm_L_5 y1 y2 y3)
    (yy_br (op &&& 31 = 6) (mm_L_6 y1 y2 y3 y4)
    (yy_br (op &&& 31 = 7) (mm_L_7 y1 y2)
    (yy_br (op &&& 31 = 8) (mm_L_8 y1 y2)
    (yy_br (op &&& 31 = 9) (mm_L_9 y1 y2 y3)
    (yy_br (op &&& 31 = 10) (mm_L_10)
    (yy_br (op &&& 31 = 11) (mm_L_11)
    (yy_br (op &&& 31 = 12) (mm_L_12 y1)
    (yy_br (op &&& 31 = 13) (mm_L_13 y1 y2 y3)
    (yy_br (op &&& 31 = 14) (mm_L_14 y1 y2)
    (yy_br (op &&& 31 = 15) (mm_L_15 y1 y2)
    (yy_br (op &&& 31 = 16) (mm_L_16 y1 y2)
    (yy_br (op &&& 31 = 17) (mm_L_17 y1 y2 y3 y4)
    (yy_br (op &&& 31 = 18) (mm_L_18)
    (yy_br (op &&& 31 = 19) (mm_L_19)
    (yy_rt ()))))))))))))))))))))
section
variable {p : Program} {l : Launch} {e : Env} {s : State} {m : MethodId} {args : Array Value} {below : List Frame} {meth : Method} {c : Code} {H : Heap} {locs : List Loc} {ls : Array Slot} {Q : State → Prop} {D : va_G} {κ : Nat → Nat} {τ : yy_T} {b L j qo c0 s0 : Nat} {xs : Nat → Int32} {u : Nat → Int64}
set_option maxHeartbeats 4000000 in
set_option maxRecDepth 100000 in
theorem wl_all (hnt : l.stackTraces = false) (hS9 : yx_S (fun q : Nat => s.heap.size ≤ q) s) (hJ : yl_J κ s) (hk4 : s.heap.size ≤ κ 4) (hX : va_X b L xs s s.heap) (hbl : b < s.heap.size) (hL : L ≤ 3072) (hj : 6 * j + 6 ≤ L) (hc0 : c0 + 120 ≤ 601024) (hs0 : s0 + 1680 ≤ 7293034) {res : Unit × yy_T} (C : yy_C D κ p m c cL_law 7 s args RL) (Z : yy_Z D κ [yl_o κ qo u] (fun q : Nat => s.heap.size ≤ q) s.heap τ H locs) (hl : lv_has ls 7 [(0, .ref b), (1, .ref (κ 4 + 0)), (2, .ref (κ 4 + 112)), (3, .ref qo), (4, .int (nI (6 * j)))]) (h : mm_L (xs (6 * j + 0)) (xs (6 * j + 1)) (xs (6 * j + 2)) (xs (6 * j + 3)) (xs (6 * j + 4)) (xs (6 * j + 5)) τ = some res) (kE : ∀ (u : Nat → Int64) (τ1 : yy_T) (H1 : Heap) (locs1 : List Loc) (ls1 : Array Slot), res = ((), τ1) → yy_Z D κ [yl_o κ qo u] (fun q : Nat => s.heap.size ≤ q) s.heap τ1 H1 locs1 → lv_has ls1 7 [(0, .ref b), (1, .ref (κ 4 + 0)), (2, .ref (κ 4 + 112)), (3, .ref qo), (4, .int (nI (6 * j)))] → W p l e room_1 s m args below meth c H1 locs1 (c0 + 120) (s0 + 1680) Q (F0 m 859 ls1 [])) : W p l e room_1 s m args below meth c H locs c0 s0 Q (F0 m 33 ls []) := by
  unfold mm_L at h
  refine lv_aload_n C.1.1 C.1.2.1 dL_law_33 rfl (lv_at hl 0 rfl) ?_
  refine lv_iload C.1.1 C.1.2.1 dL_law_34 (lv_at hl 4 rfl) ?_
  refine yl_scr (k := 0) C Z hX hbl hL rfl (by omega) dL_law_36 ?_
  refine lv_bipush (v := 31) C.1.1 C.1.2.1 dL_law_37 (by decide) ?_
  refine lv_iand C.1.1 C.1.2.1 dL_law_39 ?_
  rcases yy_br_of h with ⟨hq0, h⟩ | ⟨hq0, h⟩
  · refine lv_tableIn (off := 96) (tgt := 136) C.1.1 C.1.2.1 dL_law_40 (by rw [hq0]; decide) (by rw [hq0]; decide) (by rw [hq0]; rfl) (by decide) ?_
    exact wl_0 hX hbl hL hj hc0 hs0 C Z hl h kE
  · rcases yy_br_of h with ⟨hq1, h⟩ | ⟨hq1, h⟩
    · refine lv_tableIn (off := 169) (tgt := 209) C.1.1 C.1.2.1 dL_law_40 (by rw [hq1]; decide) (by rw [hq1]; decide) (by rw [hq1]; rfl) (by decide) ?_
      exact wl_1 hX hbl hL hj hc0 hs0 C Z hl h kE
    · rcases yy_br_of h with ⟨hq2, h⟩ | ⟨hq2, h⟩
      · refine lv_tableIn (off := 194) (tgt := 234) C.1.1 C.1.2.1 dL_law_40 (by rw [hq2]; decide) (by rw [hq2]; decide) (by rw [hq2]; rfl) (by decide) ?_
        exact wl_2 hX hbl hL hj hc0 hs0 C Z hl h kE
      · rcases yy_br_of h with ⟨hq3, h⟩ | ⟨hq3, h⟩
        · refine lv_tableIn (off := 219) (tgt := 259) C.1.1 C.1.2.1 dL_law_40 (by rw [hq3]; decide) (by rw [hq3]; decide) (by rw [hq3]; rfl) (by decide) ?_
          exact wl_3 hX hbl hL hj hc0 hs0 C Z hl h kE
        · rcases yy_br_of h with ⟨hq4, h⟩ | ⟨hq4, h⟩
          · refine lv_tableIn (off := 232) (tgt := 272) C.1.1 C.1.2.1 dL_law_40 (by rw [hq4]; decide) (by rw [hq4]; decide) (by rw [hq4]; rfl) (by decide) ?_
            exact wl_4 hX hbl hL hj hc0 hs0 C Z hl h kE
          · rcases yy_br_of h with ⟨hq5, h⟩ | ⟨hq5, h⟩
            · refine lv_tableIn (off := 257) (tgt := 297) C.1.1 C.1.2.1 dL_law_40 (by rw [hq5]; decide) (by rw [hq5]; decide) (by rw [hq5]; rfl) (by decide) ?_
              exact wl_5 hnt hS9 hJ hk4 hX hbl hL hj hc0 hs0 C Z hl h kE
            · rcases yy_br_of h with ⟨hq6, h⟩ | ⟨hq6, h⟩
              · refine lv_tableIn (off := 337) (tgt := 377) C.1.1 C.1.2.1 dL_law_40 (by rw [hq6]; decide) (by rw [hq6]; decide) (by rw [hq6]; rfl) (by decide) ?_
                exact wl_6 hX hbl hL hj hc0 hs0 C Z hl h kE
              · rcases yy_br_of h with ⟨hq7, h⟩ | ⟨hq7, h⟩
                · refine lv_tableIn (off := 398) (tgt := 438) C.1.1 C.1.2.1 dL_law_40 (by rw [hq7]; decide) (by rw [hq7]; decide) (by rw [hq7]; rfl) (by decide) ?_
                  exact wl_7 hX hbl hL hj hc0 hs0 C Z hl h kE
                · rcases yy_br_of h with ⟨hq8, h⟩ | ⟨hq8, h⟩
                  · refine lv_tableIn (off := 435) (tgt := 475) C.1.1 C.1.2.1 dL_law_40 (by rw [hq8]; decide) (by rw [hq8]; decide) (by rw [hq8]; rfl) (by decide) ?_
                    exact wl_8 hX hbl hL hj hc0 hs0 C Z hl h kE
                  · rcases yy_br_of h with ⟨hq9, h⟩ | ⟨hq9, h⟩
                    · refine lv_tableIn (off := 472) (tgt := 512) C.1.1 C.1.2.1 dL_law_40 (by rw [hq9]; decide) (by rw [hq9]; decide) (by rw [hq9]; rfl) (by decide) ?_
                      exact wl_9 hX hbl hL hj hc0 hs0 C Z hl h kE
                    · rcases yy_br_of h with ⟨hq10, h⟩ | ⟨hq10, h⟩
                      · refine lv_tableIn (off := 521) (tgt := 561) C.1.1 C.1.2.1 dL_law_40 (by rw [hq10]; decide) (by rw [hq10]; decide) (by rw [hq10]; rfl) (by decide) ?_
                        exact wl_10 hX hbl hL hj hc0 hs0 C Z hl h kE
                      · rcases yy_br_of h with ⟨hq11, h⟩ | ⟨hq11, h⟩
                        · refine lv_tableIn (off := 534) (tgt := 574) C.1.1 C.1.2.1 dL_law_40 (by rw [hq11]; decide) (by rw [hq11]; decide) (by rw [hq11]; rfl) (by decide) ?_
                          exact wl_11 hX hbl hL hj hc0 hs0 C Z hl h kE
                        · rcases yy_br_of h with ⟨hq12, h⟩ | ⟨hq12, h⟩
                          · refine lv_tableIn (off := 547) (tgt := 587) C.1.1 C.1.2.1 dL_law_40 (by rw [hq12]; decide) (by rw [hq12]; decide) (by rw [hq12]; rfl) (by decide) ?_
                            exact wl_12 hX hbl hL hj hc0 hs0 C Z hl h kE
                          · rcases yy_br_of h with ⟨hq13, h⟩ | ⟨hq13, h⟩
                            · refine lv_tableIn (off := 572) (tgt := 612) C.1.1 C.1.2.1 dL_law_40 (by rw [hq13]; decide) (by rw [hq13]; decide) (by rw [hq13]; rfl) (by decide) ?_
                              exact wl_13 hX hbl hL hj hc0 hs0 C Z hl h kE
                            · rcases yy_br_of h with ⟨hq14, h⟩ | ⟨hq14, h⟩
                              · refine lv_tableIn (off := 621) (tgt := 661) C.1.1 C.1.2.1 dL_law_40 (by rw [hq14]; decide) (by rw [hq14]; decide) (by rw [hq14]; rfl) (by decide) ?_
                                exact wl_14 hX hbl hL hj hc0 hs0 C Z hl h kE
                              · rcases yy_br_of h with ⟨hq15, h⟩ | ⟨hq15, h⟩
                                · refine lv_tableIn (off := 658) (tgt := 698) C.1.1 C.1.2.1 dL_law_40 (by rw [hq15]; decide) (by rw [hq15]; decide) (by rw [hq15]; rfl) (by decide) ?_
                                  exact wl_15 hX hbl hL hj hc0 hs0 C Z hl h kE
                                · rcases yy_br_of h with ⟨hq16, h⟩ | ⟨hq16, h⟩
                                  · refine lv_tableIn (off := 695) (tgt := 735) C.1.1 C.1.2.1 dL_law_40 (by rw [hq16]; decide) (by rw [hq16]; decide) (by rw [hq16]; rfl) (by decide) ?_
                                    exact wl_16 hX hbl hL hj hc0 hs0 C Z hl h kE
                                  · rcases yy_br_of h with ⟨hq17, h⟩ | ⟨hq17, h⟩
                                    · refine lv_tableIn (off := 732) (tgt := 772) C.1.1 C.1.2.1 dL_law_40 (by rw [hq17]; decide) (by rw [hq17]; decide) (by rw [hq17]; rfl) (by decide) ?_
                                      exact wl_17 hX hbl hL hj hc0 hs0 C Z hl h kE
                                    · rcases yy_br_of h with ⟨hq18, h⟩ | ⟨hq18, h⟩
                                      · refine lv_tableIn (off := 793) (tgt := 833) C.1.1 C.1.2.1 dL_law_40 (by rw [hq18]; decide) (by rw [hq18]; decide) (by rw [hq18]; rfl) (by decide) ?_
                                        exact wl_18 hX hbl hL hj hc0 hs0 C Z hl h kE
                                      · rcases yy_br_of h with ⟨hq19, h⟩ | ⟨hq19, h⟩
                                        · refine lv_tableIn (off := 806) (tgt := 846) C.1.1 C.1.2.1 dL_law_40 (by rw [hq19]; decide) (by rw [hq19]; decide) (by rw [hq19]; rfl) (by decide) ?_
                                          exact wl_19 hX hbl hL hj hc0 hs0 C Z hl h kE
                                        · refine lv_tableOut (tgt := 859) C.1.1 C.1.2.1 dL_law_40 (yy_out 20 (fun k hk => by rcases (show k = 0 ∨ k = 1 ∨ k = 2 ∨ k = 3 ∨ k = 4 ∨ k = 5 ∨ k = 6 ∨ k = 7 ∨ k = 8 ∨ k = 9 ∨ k = 10 ∨ k = 11 ∨ k = 12 ∨ k = 13 ∨ k = 14 ∨ k = 15 ∨ k = 16 ∨ k = 17 ∨ k = 18 ∨ k = 19 by omega) with rfl | rfl | rfl | rfl | rfl | rfl | rfl | rfl | rfl | rfl | rfl | rfl | rfl | rfl | rfl | rfl | rfl | rfl | rfl | rfl <;> assumption)) (by decide) ?_
                                          refine W.widen (k := c0 + 120) (n := s0 + 1680) (by omega) (by omega) ?_
                                          exact kE _ _ _ _ _ (yy_rt_of h) Z hl
theorem yl_cmp {L j : Nat} (hL : L ≤ 3072) (hj : 6 * j ≤ 3072 + 6) : (Int32.ofNat L - 6 < nI (6 * j)) ↔ L < 6 * j + 6 := by
  have e : (Int32.ofNat L - 6 : Int32).toInt = (L : Int) - 6 := by
    rw [Int32.toInt_sub, show (Int32.ofNat L).toInt = (L : Int) from nI_toInt (by omega)]
    exact Int.bmod_eq_of_le (by show _ ≤ (L : Int) - 6; omega) (by show (L : Int) - 6 < _; omega)
  rw [Int32.lt_iff_toInt_lt, e, nI_toInt (by omega)]
  omega
set_option maxHeartbeats 4000000 in
set_option maxRecDepth 100000 in
/-- the law's loop: what holds of the memory is kept by every call -/
theorem wl_loop {Inv : yy_T → Prop} (hInv : ∀ (τ : yy_T) (op y1 y2 y3 y4 y5 : Int32), Inv τ → ∃ τ1, mm_L op y1 y2 y3 y4 y5 τ = some ((), τ1) ∧ Inv τ1) (hnt : l.stackTraces = false) (hS9 : yx_S (fun q : Nat => s.heap.size ≤ q) s) (hJ : yl_J κ s) (hk4 : s.heap.size ≤ κ 4) (hr : meth.sig.returnType = ret) (hlocks : meth.locks = false) (hX : va_X b L xs s s.heap) (hbl : b < s.heap.size) (hL : L ≤ 3072) (C : yy_C D κ p m c cL_law 7 s #[Value.ref b] RL) :
    ∀ (n j : Nat), 6 * j ≤ L → L < 6 * (j + n) → ∀ (u : Nat → Int64) (τ : yy_T) (H : Heap) (locs : List Loc) (ls : Array Slot), Inv τ → yy_Z D κ [yl_o κ qo u] (fun q : Nat => s.heap.size ≤ q) s.heap τ H locs → lv_has ls 7 [(0, .ref b), (1, .ref (κ 4 + 0)), (2, .ref (κ 4 + 112)), (3, .ref qo), (4, .int (nI (6 * j)))] → W p l e room_1 s m #[Value.ref b] below meth c H locs (200 + 120 * j) (8000 + 1680 * j) (lw_Z below #[Value.ref b] s) (F0 m 23 ls [])
  | 0, j, h1, h2, u, τ, H, locs, ls, hI, Z, hl => by omega
  | n + 1, j, h1, h2, u, τ, H, locs, ls, hI, Z, hl => by
    refine lv_iload C.1.1 C.1.2.1 dL_law_23 (lv_at hl 4 rfl) ?_
    refine lv_aload_n C.1.1 C.1.2.1 dL_law_25 rfl (lv_at hl 0 rfl) ?_
    refine va_slen C.1.1 C.1.2.1 hX hbl (Nat.not_le.mpr hbl) Z.2.2.1 dL_law_26 ?_
    refine lv_bipush (v := 6) C.1.1 C.1.2.1 dL_law_27 (by decide) ?_
    refine lv_isub C.1.1 C.1.2.1 dL_law_29 ?_
    refine lv_icmp_gt (tgt := 865) C.1.1 C.1.2.1 dL_law_30 (by decide) (fun hc => ?_) (fun hc => ?_)
    · refine lv_iconst (v := 1) C.1.1 C.1.2.1 dL_law_865 (by decide) ?_
      refine va_forget (fun q hq => Z.2.2.1.2.2 q hq) ?_
      refine W.widen (k := 601024) (n := 7293034) (by omega) (by omega) ?_
      exact lw_ret C.1.1 C.1.2.1 hr hlocks dL_law_866
    · have hj : 6 * j + 6 ≤ L := by
        by_cases hq : L < 6 * j + 6
        · exact absurd ((yl_cmp hL (by omega)).mpr hq) hc
        · omega
      obtain ⟨τ1, hs, hI1⟩ := hInv τ (xs (6 * j + 0)) (xs (6 * j + 1)) (xs (6 * j + 2)) (xs (6 * j + 3)) (xs (6 * j + 4)) (xs (6 * j + 5)) hI
      refine wl_all hnt hS9 hJ hk4 hX hbl hL hj (by omega) (by omega) C Z hl hs (fun u τ2 H locs ls he Z hl => ?_)
      cases he
      refine lv_iinc (v := nI (6 * (j + 1))) (lv' := [(4, .int (nI (6 * (j + 1)))), (0, .ref b), (1, .ref (κ 4 + 0)), (2, .ref (κ 4 + 112)), (3, .ref qo)]) C.1.1 C.1.2.1 dL_law_859 hl (k := 4) rfl (nI_add (6 * j) 6) (by decide) rfl (fun ls hl => ?_)
      refine lv_goto (tgt := 23) C.1.1 C.1.2.1 dL_law_862 (by decide) ?_
      exact wl_loop hInv hnt hS9 hJ hk4 hr hlocks hX hbl hL C n (j + 1) (by omega) (by omega) u τ1 H locs ls hI1 Z (lv_sub hl [1, 2, 3, 4, 0] rfl)
end
