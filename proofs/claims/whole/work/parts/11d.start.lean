set_option maxHeartbeats 8000000 in
set_option maxRecDepth 100000 in
/-- the law from its entry, for any words of the memory that the start has and every call keeps -/
theorem yl_start {Inv : yy_T → Prop} (hInv : ∀ (τ : yy_T) (op y1 y2 y3 y4 y5 : Int32), Inv τ → ∃ τ1, mm_L op y1 y2 y3 y4 y5 τ = some ((), τ1) ∧ Inv τ1) (h0 : Inv yy_t0) {p : Program} {e : Env} {s : State} {m : MethodId} {below : List Frame} {meth : Method} {c : Code} (l : Launch) (hflags : l.flags = flags0) {b L : Nat} {xs : Nat → Int32} (hL : L ≤ 3072) (C0 : lw_At p s m meth c b L xs) : W p l e room_1 s m #[Value.ref b] below meth c s.heap [] 0 0 (lw_Z below #[Value.ref b] s) (entryFrame m ([Value.ref b] : List Value).toArray 7) := by
  obtain ⟨hx, hb, hr, hml, hown, hts, hX, hbl, hlocks, hgv⟩ := C0
  have hnt : l.stackTraces = false := by unfold Launch.stackTraces; rw [hflags]; decide +kernel
  have hfl := flat_of_before _ hgv
  have hts1 : ∀ w ∈ gT, w.before #[Value.ref b] s = true := fun w hw => hts w (gT_tbl hw)
  obtain ⟨c0, iS0, hKn0⟩ := u_known (C := RX0) (T := TX0) (N := 5) (n := 5) hts1 inX0 (hts1 (.instantiable RX0 5) tw_238)
  obtain ⟨c1, iS1, hKn1⟩ := u_known (C := RX1) (T := TX1) (N := 4) (n := 4) hts1 inX1 (hts1 (.instantiable RX1 4) tw_171)
  obtain ⟨c2, iS2, hKn2⟩ := u_known (C := RX2) (T := TX2) (N := 3) (n := 3) hts1 inX2 (hts1 (.instantiable RX2 3) tw_100)
  obtain ⟨c3, iS3, hKn3⟩ := u_known (C := RX3) (T := TX3) (N := 9) (n := 9) hts1 inX3 (hts1 (.instantiable RX3 9) tw_204)
  obtain ⟨c4, iS4, hKn4⟩ := u_known (C := RX4) (T := TX4) (N := 4) (n := 4) hts1 inX4 (hts1 (.instantiable RX4 4) tw_177)
  obtain ⟨c5, iS5, hKn5⟩ := u_known (C := RX5) (T := TX5) (N := 4) (n := 4) hts1 inX5 (hts1 (.instantiable RX5 4) tw_146)
  obtain ⟨c6, iS6, hKn6⟩ := u_known (C := RX6) (T := TX6) (N := 5) (n := 5) hts1 inX6 (hts1 (.instantiable RX6 5) tw_94)
  obtain ⟨c7, iS7, hKn7⟩ := u_known (C := RX7) (T := TX7) (N := 2) (n := 2) hts1 inX7 (hts1 (.instantiable RX7 2) tw_77)
  obtain ⟨c8, iS8, hKn8⟩ := u_known (C := RX8) (T := TX8) (N := 11) (n := 11) hts1 inX8 (hts1 (.instantiable RX8 11) tw_277)
  obtain ⟨c9, iS9, hKn9⟩ := u_known (C := RX9) (T := TX9) (N := 11) (n := 11) hts1 inX9 (hts1 (.instantiable RX9 11) tw_69)
  obtain ⟨c10, iS10, hKn10⟩ := u_known (C := RX10) (T := TX10) (N := 20) (n := 20) hts1 inX10 (hts1 (.instantiable RX10 20) tw_781)
  obtain ⟨dC, dI, hKc⟩ : ∃ (dC : Nat → ClassId) (dI : Nat → Nat → Nat), ∀ (k : Nat) (q : vw_C), yy_cls[k]? = some q → u_Kn s q.1 q.2.1 q.2.2 (dC k) (dI k) := by
    refine ⟨fun k => [c0, c1, c2, c3, c4, c5, c6, c7, c8, c9, c10].getD k 0, fun k => [iS0, iS1, iS2, iS3, iS4, iS5, iS6, iS7, iS8, iS9, iS10].getD k iS0, ?_⟩
    intro k q hq
    match k, hq with
    | 0, hq => cases hq; exact hKn0
    | 1, hq => cases hq; exact hKn1
    | 2, hq => cases hq; exact hKn2
    | 3, hq => cases hq; exact hKn3
    | 4, hq => cases hq; exact hKn4
    | 5, hq => cases hq; exact hKn5
    | 6, hq => cases hq; exact hKn6
    | 7, hq => cases hq; exact hKn7
    | 8, hq => cases hq; exact hKn8
    | 9, hq => cases hq; exact hKn9
    | 10, hq => cases hq; exact hKn10
    | k + 11, hq => simp [yy_cls] at hq
  obtain ⟨cI, kI, pI, fI, gI, tI⟩ := Cond.arrayClass_spec (hts (.arrayClass .int) (List.mem_of_getElem? (i := 123) (by decide +kernel)))
  obtain ⟨cB, kB, pB, fB, gB, tB⟩ := Cond.arrayClass_spec (hts (.arrayClass .byte) (List.mem_of_getElem? (i := 92) (by decide +kernel)))
  obtain ⟨cJ, kJ, pJ, fJ, gJ, tJ⟩ := Cond.arrayClass_spec (hts (.arrayClass .long) (List.mem_of_getElem? (i := 1048) (by decide +kernel)))
  obtain ⟨pE, cE, kE, fE1, -, gE, tE, fE⟩ := Cond.arrayOver_spec (hts (.arrayOver (.object "MovedLines$Edition")) (List.mem_of_getElem? (i := 152) (by decide +kernel)))
  obtain ⟨pQ, cQ, kQ, fQ1, gQ, tQ, fQ⟩ := Cond.arrayOver_specA (hts (.arrayOver (.array .int)) (List.mem_of_getElem? (i := 260) (by decide +kernel)))
  obtain ⟨κ, k0, k1, k2, k3, k4, k5⟩ : ∃ κ : Nat → Nat, κ 0 = cI ∧ κ 1 = cB ∧ κ 2 = cE ∧ κ 3 = cQ ∧ κ 4 = s.heap.size ∧ κ 5 = cJ := ⟨fun k => [cI, cB, cE, cQ, s.heap.size, cJ].getD k 0, rfl, rfl, rfl, rfl, rfl, rfl⟩
  subst k0 k1 k2 k3 k5
  have hK1 : va_K (dC, dI) yy_cls (yy_tys κ) s := ⟨hKc, fun k q hq => by
    match k, hq with
    | 0, hq => cases hq; exact ⟨fun n z => ⟨fun k h => (by cases h), kI, gI, pI, tI⟩, fI⟩
    | 1, hq => cases hq; exact ⟨fun n z => ⟨fun k h => (by cases h), kB, gB, pB, tB⟩, fB⟩
    | 2, hq => cases hq; exact ⟨fun n z => ⟨fun k h => (by cases h), kE, gE, pE, tE⟩, kE, pE, gE, tE, fE1, fE⟩
    | 3, hq => cases hq; exact ⟨fun n z => ⟨fun k h => (by cases h), kQ, gQ, pQ, tQ⟩, fQ⟩
    | k + 4, hq => simp [yy_tys] at hq⟩
  have hJ : yl_J κ s := ⟨fun n z => ⟨fun k h => (by cases h), kJ, gJ, pJ, tJ⟩, fJ⟩
  obtain ⟨a1, _, _, _, ea1, -⟩ := Cond.exactly_spec (hfl (.exactly (.string "MovedLines" 134) "java/lang/String") (by decide +kernel))
  obtain ⟨a2, _, _, _, ea2, -⟩ := Cond.exactly_spec (hfl (.exactly (.string "MovedLines" 153) "java/lang/String") (by decide +kernel))
  have hXs : yy_X s := ⟨va_AO.of (hts _ (List.mem_of_getElem? (i := 152) (by decide +kernel))), va_AOA.of (hts _ (List.mem_of_getElem? (i := 260) (by decide +kernel))), va_Nw.of rfl (hts _ (List.mem_of_getElem? (i := 706) (by decide +kernel))), va_Nw.of rfl (hts _ (List.mem_of_getElem? (i := 708) (by decide +kernel))), va_Nw.of rfl (hts _ (List.mem_of_getElem? (i := 710) (by decide +kernel))), va_Nw.of rfl (hts _ (List.mem_of_getElem? (i := 712) (by decide +kernel))), ⟨a1, vk_R.of (hts _ (List.mem_of_getElem? (i := 743) (by decide +kernel))) ea1⟩, a2, vk_R.of (hts _ (List.mem_of_getElem? (i := 769) (by decide +kernel))) ea2⟩
  have hnest : ∀ q ∈ yy_nest, va_Nw (.methodLinkNest q.1 q.2.1 q.2.2 "MovedLines") s := List.forall_mem_cons.mpr ⟨va_Nw.of rfl (hts _ (List.mem_of_getElem? (i := 78) (by decide +kernel))), List.forall_mem_cons.mpr ⟨va_Nw.of rfl (hts _ (List.mem_of_getElem? (i := 95) (by decide +kernel))), List.forall_mem_cons.mpr ⟨va_Nw.of rfl (hts _ (List.mem_of_getElem? (i := 101) (by decide +kernel))), List.forall_mem_cons.mpr ⟨va_Nw.of rfl (hts _ (List.mem_of_getElem? (i := 144) (by decide +kernel))), List.forall_mem_cons.mpr ⟨va_Nw.of rfl (hts _ (List.mem_of_getElem? (i := 153) (by decide +kernel))), List.forall_mem_cons.mpr ⟨va_Nw.of rfl (hts _ (List.mem_of_getElem? (i := 172) (by decide +kernel))), List.forall_mem_cons.mpr ⟨va_Nw.of rfl (hts _ (List.mem_of_getElem? (i := 178) (by decide +kernel))), List.forall_mem_cons.mpr ⟨va_Nw.of rfl (hts _ (List.mem_of_getElem? (i := 205) (by decide +kernel))), List.forall_mem_cons.mpr ⟨va_Nw.of rfl (hts _ (List.mem_of_getElem? (i := 239) (by decide +kernel))), List.forall_mem_cons.mpr ⟨va_Nw.of rfl (hts _ (List.mem_of_getElem? (i := 275) (by decide +kernel))), List.forall_mem_cons.mpr ⟨va_Nw.of rfl (hts _ (List.mem_of_getElem? (i := 278) (by decide +kernel))), List.forall_mem_cons.mpr ⟨va_Nw.of rfl (hts _ (List.mem_of_getElem? (i := 581) (by decide +kernel))), fun _ h => absurd h List.not_mem_nil⟩⟩⟩⟩⟩⟩⟩⟩⟩⟩⟩⟩
  have C : yy_C (dC, dI) κ p m c cL_law 7 s #[Value.ref b] RL := ⟨⟨hx, hb, hml, hown, hts1⟩, hK1, hnest, hXs⟩
  have hS9 : yx_S (fun q : Nat => s.heap.size ≤ q) s := ⟨vx_Zqof (hts _ (List.mem_of_getElem? (i := 731) (by decide +kernel))) (hts _ (List.mem_of_getElem? (i := 64) (by decide +kernel))) (hfl _ (by decide +kernel)) (fun a ha => Nat.not_le.mpr ha), vx_Zqof (hts _ (List.mem_of_getElem? (i := 733) (by decide +kernel))) (hts _ (List.mem_of_getElem? (i := 64) (by decide +kernel))) (hfl _ (by decide +kernel)) (fun a ha => Nat.not_le.mpr ha)⟩
  have hA : ∀ q : Nat, κ 4 ≤ q → s.heap.size ≤ q := fun q h => by rw [k4] at h; exact h
  have Z : yl_Z (dC, dI) κ (fun q : Nat => s.heap.size ≤ q) s.heap 0 s.heap [] := ⟨fun k h => by omega, by rw [k4]; rfl, va_S.rf⟩
  have hl := lv_entry ([.ref b]) (n := 7) (Nat.le_of_ble_eq_true rfl)
  rw [lg_entry_eq]
  generalize (lg_sl ([.ref b]) ++ List.replicate (7 - (lg_sl ([.ref b])).length) Slot.unset).toArray = ls at hl ⊢
  have hl : lv_has ls 7 [(0, .ref b)] := hl
  refine yl_ni (N := 11) (cj := 9) (gs := [.null, .null, .null, .null, .null, .null, .null, .null, .null, .null, .int 0]) (rest := []) C Z hA rfl inX9 tyX9_ok (by decide) tw_68 kk_X9 (sk_X9 l (dC, dI) κ) tw_70 ⟨rfl, rfl⟩ ⟨Nat.le_of_ble_eq_true rfl, Nat.le_of_ble_eq_true rfl⟩ ⟨Nat.le_of_ble_eq_true rfl, Nat.le_of_ble_eq_true rfl⟩ hl.1 (Nat.le_of_ble_eq_true rfl) dL_law_0 dL_law_3 dL_law_4 (fun H locs Z => ?_)
  refine W.widen (k := 112) (n := 3649) (Nat.le_refl _) (Nat.le_refl _) ?_
  refine lv_astore_n (lv' := [(1, .ref (κ 4 + 0)), (0, .ref b)]) C.1.1 C.1.2.1 dL_law_7 rfl hl (by decide) rfl (fun ls hl => ?_)
  refine yl_ni (hi := 112) (N := 20) (cj := 10) (gs := [.int 0, .null, .int 0, .null, .null, .null, .int 0, .int 0, .int 0, .int 0, .null, .null, .null, .null, .null, .null, .int 0, .int 0, .int 0, .null]) (rest := []) C Z hA rfl inX10 tyX10_ok (by decide) tw_787 kk_X10 (sk_X10 l (dC, dI) κ) tw_788 ⟨rfl, rfl⟩ ⟨Nat.le_of_ble_eq_true rfl, Nat.le_of_ble_eq_true rfl⟩ ⟨Nat.le_of_ble_eq_true rfl, Nat.le_of_ble_eq_true rfl⟩ hl.1 (Nat.le_of_ble_eq_true rfl) dL_law_8 dL_law_11 dL_law_12 (fun H locs Z => ?_)
  refine W.widen (k := 124) (n := 7493) (Nat.le_refl _) (Nat.le_refl _) ?_
  refine lv_astore_n (lv' := [(2, .ref (κ 4 + 112)), (1, .ref (κ 4 + 0)), (0, .ref b)]) C.1.1 C.1.2.1 dL_law_15 rfl hl (by decide) rfl (fun ls hl => ?_)
  have Z := yl_all (ext := []) Z hA (fun q h => h)
  refine lv_iconst (v := 1) C.1.1 C.1.2.1 dL_law_16 (by decide) ?_
  refine va_newa (atype := .long) (ty := .long) (N' := 1) (a0 := (1, .inr (.inl (fun _ => 0)))) C.1.1 C.1.2.1 (hts1 (.arrayClass .long) tw_1048) rfl hK1 Z.1 Z.2.1 Z.2.2.1 Z.2.2.2 (fun cA => rfl) (by decide) (by decide) (by decide) (Nat.le_of_ble_eq_true rfl) (Nat.le_of_ble_eq_true rfl) dL_law_17 (fun qo cA H hK2 hP2 hD2 hS2 => ?_)
  have e1 : s.vm.findClass ("[" ++ FieldType.long.toString) = some cA := (hK2.2 (yy_tys κ).length (cA, .long) (by rw [List.getElem?_append_right (Nat.le_refl _), Nat.sub_self]; rfl)).2
  have e3 : cA = κ 5 := Option.some.inj (e1.symm.trans fJ)
  subst e3
  rw [List.append_nil] at hP2 hD2
  have Z : yy_Z (dC, dI) κ [yl_o κ qo (fun _ => 0)] (fun q : Nat => s.heap.size ≤ q) s.heap yy_t0 H locs := ⟨hP2, hD2, hS2, fun q h => h⟩
  refine W.widen (k := 200) (n := 8000) (Nat.le_of_ble_eq_true rfl) (Nat.le_of_ble_eq_true rfl) ?_
  refine lv_astore_n (lv' := [(3, .ref qo), (2, .ref (κ 4 + 112)), (1, .ref (κ 4 + 0)), (0, .ref b)]) C.1.1 C.1.2.1 dL_law_19 rfl hl (by decide) rfl (fun ls hl => ?_)
  refine lv_iconst (v := 0) C.1.1 C.1.2.1 dL_law_20 (by decide) ?_
  refine lv_istore (lv' := [(4, .int 0), (3, .ref qo), (2, .ref (κ 4 + 112)), (1, .ref (κ 4 + 0)), (0, .ref b)]) C.1.1 C.1.2.1 dL_law_21 hl (by decide) rfl (fun ls hl => ?_)
  exact wl_loop hInv hnt hS9 hJ (by rw [k4]; exact Nat.le_refl _) hr hlocks hX hbl hL C (L + 1) 0 (Nat.zero_le L) (by omega) _ _ H locs ls h0 Z (lv_sub hl [4, 3, 2, 1, 0] rfl)
