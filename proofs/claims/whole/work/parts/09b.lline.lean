/-! the law's own line(..): it calls MovedLines.line and catches; 'out' is a cell of one long ahead of the others -/
abbrev yl_o (κ : Nat → Nat) (qo : Nat) (o : Nat → Int64) : Nat × va_E := (qo, .inl (κ 5, 1, .inr (.inl o)))
def yl_J (κ : Nat → Nat) (U : State) : Prop := ArrOfT U (κ 5) .long ∧ va_RA U (κ 5) .long
theorem yl_J.moved {κ : Nat → Nat} {u U : State} (hvm : u.vm.Alike U.vm) (h : yl_J κ u) : yl_J κ U := ⟨arrOfT_moved hvm h.1, h.2.moved hvm⟩
def yl_Pre (D : va_G) (κ : Nat → Nat) (ext : va_W) (av : List Value) (sz : Nat) (τ : yy_T) : Array Value → State → Prop := fun v U => yx_Pre D κ ext av sz τ v U ∧ yl_J κ U
theorem yl_Pre.blind {D : va_G} {κ : Nat → Nat} {ext : va_W} {av : List Value} {sz : Nat} {τ : yy_T} : FrameBlind (yl_Pre D κ ext av sz τ) := fun a U g mk q => ⟨yx_Pre.blind a U g mk q.1, yl_J.moved (u := U) (U := U.calling g mk a) (Vm.Alike.refl U.vm) q.2⟩
abbrev yl_Q (D : va_G) (κ : Nat → Nat) (ext : va_W) (A : Nat → Prop) (qo : Nat) (res : (Int32 ⊕ Unit) × yy_T) := va_Qi (fun (r : Int32) (u : Nat → Int64) => (∃ v, res.1 = .inl v ∧ r = 0 ∧ u 0 = v.toInt64) ∨ (res.1 = .inr () ∧ r = 1)) (fun u t => yy_B D κ (yl_o κ qo u :: ext) A res.2 t) A
def yl_hh : List (Nat × Nat × Nat × Nat) := [(0, 12, 15, 13)]
abbrev rm_L_line : Room := { frames := 8, cells := 1, slots := 6, locals := 230 }
theorem tw_lline : Cond.codeWith yL_line cL_line 6 (some .int) yl_hh ∈ gT := gT_mem 698 (by decide +kernel) rfl
set_option maxHeartbeats 4000000 in
set_option maxRecDepth 100000 in
theorem ss_L_line (l : Launch) (hnt : l.stackTraces = false) (D : va_G) (κ : Nat → Nat) (ext : va_W) (qo : Nat) (o : Nat → Int64) (x1 x2 x3 : Int32) (sz : Nat) (τ : yy_T) (res : (Int32 ⊕ Unit) × yy_T) (h : mm_X9_line x1 x2 x3 τ = some res) : Met l yL_line (Cond.codeWith yL_line cL_line 6 (some .int) yl_hh :: gT) rm_L_line (yl_Pre D κ (yl_o κ qo o :: ext) [.ref (κ 4 + 0), .int x1, .int x2, .int x3, .ref qo] sz τ) (yl_Q D κ ext (yy_A κ (yl_o κ qo o :: ext) sz) qo res) 1 6 (yy_A κ (yl_o κ qo o :: ext) sz) := by
  refine va_MetW (cc := cL_line) (maxL := 6) (ret := some .int) (by decide) rfl ?_
  intro p e s m args below meth c s₁ B hml hv
  obtain ⟨⟨⟨rfl, hsz, hP, hK, hD0⟩, hS9⟩, hJ⟩ := hv
  have hts0 := atoms_spec (ws := Cond.codeWith yL_line cL_line 6 (some .int) yl_hh :: gT) B.pre
  have hts : ∀ w ∈ gT, w.before _ s = true := fun w hw => hts0 w (List.mem_cons_of_mem _ hw)
  have htab : c.exceptionTable.toList = [⟨0, 12, 15, 13⟩] := vx_table (x := yL_line) B (hts0 _ List.mem_cons_self)
  have hx := B.exec
  have hb := B.bytes
  have hr := B.returns
  have hlk := B.notSynchronized
  have hown : s.vm.findClass RL = some m.cls := findClass_of_methodNamed B.named
  have hl := lv_entry [.ref (κ 4 + 0), .int x1, .int x2, .int x3, .ref qo] (n := 6) (Nat.le_of_ble_eq_true rfl)
  rw [lg_entry_eq]
  generalize (lg_sl ([.ref (κ 4 + 0), .int x1, .int x2, .int x3, .ref qo]) ++ List.replicate (6 - (lg_sl ([.ref (κ 4 + 0), .int x1, .int x2, .int x3, .ref qo])).length) Slot.unset).toArray = ls at hl ⊢
  have hl : lv_has ls 6 [(0, .ref (κ 4 + 0)), (1, .int x1), (2, .int x2), (3, .int x3), (4, .ref qo)] := hl
  subst hsz
  have hD := yy_A_D (sz := s.heap.size) hD0
  generalize hAe : yy_A κ (yl_o κ qo o :: ext) s.heap.size = A at hD hS9 ⊢
  have hA : ∀ q : Nat, s.heap.size ≤ q → A q := fun q h => by rw [← hAe]; exact Or.inr (Or.inr h)
  have C : yy_C D κ p m c cL_line 6 s _ RL := ⟨⟨hx, hb, hml, hown, hts⟩, hK⟩
  have Z : yy_Z D κ (yl_o κ qo o :: ext) A s.heap τ s.heap [] := ⟨hP, hD, va_S.rf, hA⟩
  refine lv_aload hx hb dL_line_0 (lv_at hl 4 rfl) ?_
  refine lv_iconst (v := 0) hx hb dL_line_2 (by decide) ?_
  refine lv_aload_n hx hb dL_line_3 rfl (lv_at hl 0 rfl) ?_
  refine lv_iload_n hx hb dL_line_4 rfl (lv_at hl 1 rfl) ?_
  refine lv_iload_n hx hb dL_line_5 rfl (lv_at hl 2 rfl) ?_
  refine lv_iload_n hx hb dL_line_6 rfl (lv_at hl 3 rfl) ?_
  have hG : GoodIn gT (wsV RL 7 RX9 yX9_line (Cond.code yX9_line cX9_line 4 (some .int) :: gT)) := yy_goodT (by
    intro w hw
    unfold wsV at hw
    simp only [List.cons_append, List.nil_append, List.mem_cons] at hw
    rcases hw with rfl | rfl | rfl | rfl | rfl | hw
    · exact tw_700
    · exact kw_X9_line.1.1
    · exact kw_X9_line.1.2.1
    · exact kw_X9_line.1.2.2.1
    · exact kw_X9_line.1.2.2.2
    · exact hw)
  have hrun := vx_runV (l := l) (e := e) (R := rm_L_line) (below := below) (meth := meth) (H := s.heap) (locs := []) (cells := 0) (slots := 0) (g := F0 m 7 ls [.int x3, .int x2, .int x1, .ref (κ 4 + 0), .int 0, .ref qo]) (As := [.int x1, .int x2, .int x3]) (rest := [.int 0, .ref qo]) (b := κ 4 + 0) C.1 (ss_X9_line l hnt D κ (yl_o κ qo o :: ext) x1 x2 x3 s.heap.size τ res h)
    (cwV 3 hts hG rfl rfl rfl kw_X9_line.2 ⟨Nat.le_of_ble_eq_true rfl, Nat.le_of_ble_eq_true rfl⟩) ⟨yx_Pre.blind, va_recv hK.1 hP (ci := 9) (q := (RX9, TX9, 11)) rfl (by rw [yy_lay_at (k := 0) (by decide), yy_ent_0]), fun U hU hW => ⟨⟨rfl, by rw [hU], by rw [hU]; exact hP, hK.warm hW, hD.weaken (fun _ _ _ _ => trivial)⟩, by rw [hAe]; exact hS9.same hW.alike hU⟩⟩ rfl rfl hl.1 rfl (lv_room (Nat.le_of_ble_eq_true rfl)) dL_line_7 ⟨Nat.le_of_ble_eq_true rfl, Nat.le_of_ble_eq_true rfl⟩
  rw [hAe] at hrun
  refine vx_calli hrun (va_S.rf (A := A) (H0 := s.heap)) (fun q _ h => h) (fun q h => h) (fun q _ h => h) (fun E ce q9 u t H1 locs1 ht hvm hpx hBX hz1 hk1 hS1 hce hcv hcl => ?_) (fun r u t H1 locs1 ht hvm hw hB hz1 hk1 hS1 => ?_)
  · obtain ⟨rfl, hP1, hD1⟩ := hBX
    rw [ht] at hP1
    refine vx_catch (own := RL) (name := yx_ns) hown [] ⟨0, 12, 15, 13⟩ [] htab (fun z hz => by cases hz) (by decide) (by decide) (hts _ tw_699) (va_Nw.use rfl hK.2.2.2.2.1) hce hcv hcl ?_
    refine lv_astore (lv' := [(5, .ref q9), (0, .ref (κ 4 + 0)), (1, .int x1), (2, .int x2), (3, .int x3), (4, .ref qo)]) hx hb dL_line_15 hl (by decide) rfl (fun ls hl => ?_)
    refine lv_iconst (v := 1) hx hb dL_line_17 (by decide) ?_
    exact W.zret hx hb hr rfl (fun t ht hW => ⟨⟨1, o, rfl, Or.inr ⟨hpx, rfl⟩, by rw [ht]; exact hP1, hD1⟩, hS1.F ht⟩) hS1.2.2 dL_line_18
  · obtain ⟨hP1, hD1⟩ := hB
    rw [ht] at hP1
    have hKJ : va_K D yy_cls [(κ 5, .long)] s := ⟨hK.1.1, fun k q hq => by
      have h0 : k < 1 := (List.getElem?_eq_some_iff.mp hq).1
      rw [show k = 0 by omega] at hq
      cases hq
      exact hJ⟩
    refine lv_i2l hx hb dL_line_10 rfl ?_
    refine va_last hx hb hKJ hP1 hD1 hS1 (124 + 0) 0 (by rw [yy_ext_at]; rfl) rfl (by unfold vp_in; decide) dL_line_11 (fun H2 locs2 hP2 hD2 hS2 => ?_)
    rw [yy_ext_set] at hP2 hD2
    refine lv_goto (tgt := 19) hx hb dL_line_12 (by decide) ?_
    refine lv_iconst (v := 0) hx hb dL_line_19 (by decide) ?_
    exact W.zret hx hb hr rfl (fun t ht hW => ⟨⟨0, vp_updL o (Int32.toNatClampNeg 0) r.toInt64, rfl, Or.inl ⟨r, hw, rfl, rfl⟩, by rw [ht]; exact hP2, hD2⟩, hS2.F ht⟩) hS2.2.2 dL_line_20
