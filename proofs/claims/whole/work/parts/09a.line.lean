/-! MovedLines.line, which may throw -/
theorem yx_hat {args : Array Value} {s : State} (hts : ∀ w ∈ gT, w.before args s = true) (hX : yy_X s) : ∀ w ∈ yx_atoms.filter vx_no, w.before args s = true := by
  have h1 : ∀ w ∈ Bundle.throwableAtoms, vx_no w = true → w.before args s = true := List.forall_mem_cons.mpr ⟨fun _ => hts _ (gT_mem 64 (by decide +kernel) rfl), List.forall_mem_cons.mpr ⟨fun _ => hts _ (gT_mem 726 (by decide +kernel) rfl), List.forall_mem_cons.mpr ⟨fun _ => hts _ (gT_mem 735 (by decide +kernel) rfl), List.forall_mem_cons.mpr ⟨fun _ => hts _ (gT_mem 737 (by decide +kernel) rfl), List.forall_mem_cons.mpr ⟨fun _ => hts _ (gT_mem 740 (by decide +kernel) rfl), List.forall_mem_cons.mpr ⟨fun _ => hts _ (gT_mem 742 (by decide +kernel) rfl), List.forall_mem_cons.mpr ⟨fun _ => hts _ (gT_mem 727 (by decide +kernel) rfl), List.forall_mem_cons.mpr ⟨fun _ => hts _ (gT_mem 728 (by decide +kernel) rfl), List.forall_mem_cons.mpr ⟨fun _ => hts _ (gT_mem 74 (by decide +kernel) rfl), List.forall_mem_cons.mpr ⟨fun _ => hts _ (gT_mem 75 (by decide +kernel) rfl), List.forall_mem_cons.mpr ⟨fun _ => hts _ (gT_mem 729 (by decide +kernel) rfl), List.forall_mem_cons.mpr ⟨fun _ => hts _ (gT_mem 734 (by decide +kernel) rfl), List.forall_mem_cons.mpr ⟨fun _ => hts _ (gT_mem 738 (by decide +kernel) rfl), List.forall_mem_cons.mpr ⟨fun _ => hts _ (gT_mem 758 (by decide +kernel) rfl), List.forall_mem_cons.mpr ⟨fun _ => hts _ (gT_mem 716 (by decide +kernel) rfl), List.forall_mem_cons.mpr ⟨fun _ => hts _ (gT_mem 759 (by decide +kernel) rfl), List.forall_mem_cons.mpr ⟨fun _ => hts _ (gT_mem 718 (by decide +kernel) rfl), List.forall_mem_cons.mpr ⟨fun _ => hts _ (gT_mem 760 (by decide +kernel) rfl), List.forall_mem_cons.mpr ⟨fun _ => hts _ (gT_mem 720 (by decide +kernel) rfl), List.forall_mem_cons.mpr ⟨fun _ => hts _ (gT_mem 730 (by decide +kernel) rfl), List.forall_mem_cons.mpr ⟨fun h => absurd h (by decide +kernel), List.forall_mem_cons.mpr ⟨fun _ => hts _ (gT_mem 732 (by decide +kernel) rfl), List.forall_mem_cons.mpr ⟨fun h => absurd h (by decide +kernel), List.forall_mem_cons.mpr ⟨fun _ => hts _ (gT_mem 722 (by decide +kernel) rfl), fun _ h => absurd h List.not_mem_nil⟩⟩⟩⟩⟩⟩⟩⟩⟩⟩⟩⟩⟩⟩⟩⟩⟩⟩⟩⟩⟩⟩⟩⟩
  have h2 : ∀ w ∈ Bundle.throwableSAtoms, vx_no w = true → w.before args s = true := List.forall_mem_cons.mpr ⟨fun _ => hts _ (gT_mem 754 (by decide +kernel) rfl), List.forall_mem_cons.mpr ⟨fun _ => hts _ (gT_mem 755 (by decide +kernel) rfl), List.forall_mem_cons.mpr ⟨fun _ => hts _ (gT_mem 757 (by decide +kernel) rfl), List.forall_mem_cons.mpr ⟨fun _ => hts _ (gT_mem 722 (by decide +kernel) rfl), fun _ h => absurd h List.not_mem_nil⟩⟩⟩⟩
  have h3 : ∀ w ∈ Bundle.passSAtoms yx_ns yx_rt 13 yx_rx, vx_no w = true → w.before args s = true := List.forall_mem_cons.mpr ⟨fun _ => hts _ (gT_mem 745 (by decide +kernel) rfl), List.forall_mem_cons.mpr ⟨fun _ => hts _ (gT_mem 746 (by decide +kernel) rfl), List.forall_mem_cons.mpr ⟨fun _ => hts _ (gT_mem 747 (by decide +kernel) rfl), List.forall_mem_cons.mpr ⟨fun _ => hts _ (gT_mem 748 (by decide +kernel) rfl), List.forall_mem_cons.mpr ⟨fun _ => va_Nw.use rfl hX.2.2.2.1, fun _ h => absurd h List.not_mem_nil⟩⟩⟩⟩⟩
  have h4 : ∀ w ∈ Bundle.chainSAtoms yx_rt ["java/lang/Exception"], vx_no w = true → w.before args s = true := List.forall_mem_cons.mpr ⟨fun _ => hts _ (gT_mem 748 (by decide +kernel) rfl), List.forall_mem_cons.mpr ⟨fun _ => hts _ (gT_mem 749 (by decide +kernel) rfl), List.forall_mem_cons.mpr ⟨fun _ => hts _ (gT_mem 750 (by decide +kernel) rfl), List.forall_mem_cons.mpr ⟨fun _ => hts _ (gT_mem 751 (by decide +kernel) rfl), List.forall_mem_cons.mpr ⟨fun _ => va_Nw.use rfl hX.2.2.2.2.1, List.forall_mem_cons.mpr ⟨fun _ => hts _ (gT_mem 751 (by decide +kernel) rfl), List.forall_mem_cons.mpr ⟨fun _ => hts _ (gT_mem 752 (by decide +kernel) rfl), List.forall_mem_cons.mpr ⟨fun _ => hts _ (gT_mem 753 (by decide +kernel) rfl), List.forall_mem_cons.mpr ⟨fun _ => hts _ (gT_mem 754 (by decide +kernel) rfl), List.forall_mem_cons.mpr ⟨fun _ => va_Nw.use rfl hX.2.2.2.2.2.1, fun _ h => absurd h List.not_mem_nil⟩⟩⟩⟩⟩⟩⟩⟩⟩⟩
  have h5 : ∀ w ∈ yx_own, vx_no w = true → w.before args s = true := List.forall_mem_cons.mpr ⟨fun _ => hts _ (gT_mem 744 (by decide +kernel) rfl), List.forall_mem_cons.mpr ⟨fun _ => hts _ (gT_mem 705 (by decide +kernel) rfl), List.forall_mem_cons.mpr ⟨fun _ => va_Nw.use rfl hX.2.2.1, List.forall_mem_cons.mpr ⟨fun _ => hts _ (gT_mem 713 (by decide +kernel) rfl), List.forall_mem_cons.mpr ⟨fun _ => hts _ (gT_mem 714 (by decide +kernel) rfl), List.forall_mem_cons.mpr ⟨fun _ => hts _ (gT_mem 715 (by decide +kernel) rfl), List.forall_mem_cons.mpr ⟨fun _ => hts _ (gT_mem 717 (by decide +kernel) rfl), List.forall_mem_cons.mpr ⟨fun _ => hts _ (gT_mem 719 (by decide +kernel) rfl), List.forall_mem_cons.mpr ⟨fun _ => hts _ (gT_mem 721 (by decide +kernel) rfl), List.forall_mem_cons.mpr ⟨fun h => absurd h (by decide +kernel), List.forall_mem_cons.mpr ⟨fun h => absurd h (by decide +kernel), List.forall_mem_cons.mpr ⟨fun _ => hts _ (gT_mem 725 (by decide +kernel) rfl), List.forall_mem_cons.mpr ⟨fun _ => hts _ (gT_mem 724 (by decide +kernel) rfl), List.forall_mem_cons.mpr ⟨fun _ => hts _ (gT_mem 723 (by decide +kernel) rfl), fun _ h => absurd h List.not_mem_nil⟩⟩⟩⟩⟩⟩⟩⟩⟩⟩⟩⟩⟩⟩
  intro w hw
  obtain ⟨hw1, hw2⟩ := List.mem_filter.mp hw
  unfold yx_atoms at hw1
  rcases List.mem_append.mp hw1 with h | h
  · exact h1 w h hw2
  · rcases List.mem_append.mp h with h | h
    · exact h2 w h hw2
    · rcases List.mem_append.mp h with h | h
      · exact h3 w h hw2
      · rcases List.mem_append.mp h with h | h
        · exact h4 w h hw2
        · exact h5 w h hw2
/-- the two statics that an exception is made of lie outside A -/
def yx_S (A : Nat → Prop) (U : State) : Prop := vx_Zq Bundle.tN "UNASSIGNED_STACK" Bundle.steD A U U.heap ∧ vx_Zq Bundle.tN "SUPPRESSED_SENTINEL" Bundle.listD A U U.heap
abbrev yx_Qi (D : va_G) (κ : Nat → Nat) (ext : va_W) (A : Nat → Prop) (res : (Int32 ⊕ Unit) × yy_T) := va_Qi (fun (r : Int32) (_ : Unit) => res.1 = .inl r) (fun _ t => yy_B D κ ext A res.2 t) A
abbrev yx_XC (D : va_G) (κ : Nat → Nat) (ext : va_W) (A : Nat → Prop) (res : (Int32 ⊕ Unit) × yy_T) := vx_X (fun (_ : Unit) => res.1 = .inr ()) (fun E _ t => E = yx_ns ∧ yy_B D κ ext A res.2 t) A
def yx_Pre (D : va_G) (κ : Nat → Nat) (ext : va_W) (av : List Value) (sz : Nat) (τ : yy_T) : Array Value → State → Prop := fun v U => yy_Pre D κ ext av sz τ v U ∧ yx_S (yy_A κ ext sz) U
theorem yx_S.same {A : Nat → Prop} {s U : State} (hv : s.vm.Alike U.vm) (hh : U.heap = s.heap) (h : yx_S A s) : yx_S A U := ⟨by rw [hh]; exact vx_Zq.moved hv h.1, by rw [hh]; exact vx_Zq.moved hv h.2⟩
theorem yx_Pre.blind {D : va_G} {κ : Nat → Nat} {ext : va_W} {av : List Value} {sz : Nat} {τ : yy_T} : FrameBlind (yx_Pre D κ ext av sz τ) := fun a U g mk q => ⟨yy_Pre.blind a U g mk q.1, yx_S.same (s := U) (U := U.calling g mk a) (Vm.Alike.refl U.vm) rfl q.2⟩
section
variable {p : Program} {l : Launch} {e : Env} {R : Room} {s : State} {m : MethodId} {args : Array Value} {below : List Frame} {meth : Method} {c : Code} {H : Heap} {locs : List Loc} {cells slots : Nat}
variable {cc : ByteArray} {nL pc : Nat} {ls : Array Slot} {rest : List Value} {D : va_G} {κ : Nat → Nat} {ext : va_W} {A : Nat → Prop} {τ : yy_T} {res : (Int32 ⊕ Unit) × yy_T}
theorem yx_iret {v : Int32} {own : String} {XC : String → State → State → Prop} (C : yy_C D κ p m c cc nL s args own) (Z : yy_Z D κ ext A s.heap τ H locs) (hr : meth.sig.returnType = some .int) (hlocks : meth.locks = false) (hn : narrow .int (.int v) = .int v) (hdg : decode cc pc = .ok (.ireturn, 1)) (h : yy_rt (.inl v) τ = some res) : W p l e R s m args below meth c H locs cells slots (vx_MQ below (yx_Qi D κ ext A res) XC args s cells slots A) (F0 m pc ls [.int v]) := by
  obtain ⟨⟨hx, hb, hml, hown, hts⟩, hK⟩ := C
  obtain ⟨hP, hD, hS, hA⟩ := Z
  refine vx_ret ?_
  rw [yy_rt_of h]
  exact W.zret hx hb hr hn (fun t ht hW => ⟨⟨v, (), rfl, rfl, by rw [ht]; exact hP, hD⟩, hS.F ht⟩) hS.2.2 hdg
theorem yx_thr {is : Nat} {text : String} {Qc : Array Value → State → Outcome → State → Prop} (C : yy_C D κ p m c cc nL s args "MovedLines") (Z : yy_Z D κ ext A s.heap τ H locs) (hS : yx_S A s) (hnt : l.stackTraces = false) (hstr : ∃ a, vk_R "MovedLines" is text a s) (hls : ls.size = nL)
    (d0 : decode cc pc = .ok (.new 132, 3)) (d3 : decode cc (pc + 3) = .ok (.dup, 1)) (d4 : decode cc (pc + 4) = .ok (.ldc is, 2)) (d6 : decode cc (pc + 6) = .ok (.invokespecial 136, 3)) (d9 : decode cc (pc + 9) = .ok (.athrow, 1)) (hout : ∀ x ∈ c.exceptionTable.toList, False)
    (hRframes : 6 ≤ R.frames) (hRlocals : (rest.map fun v => v.category).sum + (13 * 3 + 43) ≤ R.locals) (hRcells : cells + 1 ≤ R.cells) (hRslots : slots + 6 ≤ R.slots) (hlk : meth.locks = false) (h : yy_rt (.inr ()) τ = some res) :
    W p l e R s m args below meth c H locs cells slots (vx_MQ below Qc (yx_XC D κ ext A res) args s (cells + 1) (slots + 6) A) (F0 m pc ls rest) := by
  obtain ⟨⟨hx, hb, hml, hown, hts⟩, hK⟩ := C
  obtain ⟨hP, hD, hSv, hA⟩ := Z
  obtain ⟨sa, hstr⟩ := hstr
  have hres := yy_rt_of h
  subst hres
  refine yx_throw (A := A) hx hb hnt hown (hts _ tw_704) (hts _ tw_67) hstr (yx_hat hts hK.2.2) hS.1 hS.2 hSv (by rw [hls, hml]) d0 d3 d4 d6 d9 (fun x hx => (hout x hx).elim) hRframes hRlocals hRcells hRslots hlk (fun t hv hz hk => ?_) (fun z hz => hSv.2.2 z hz) (Nat.le_refl _) (Nat.le_refl _)
  exact ⟨(), rfl, ⟨rfl, hP.kept (fun k q hq => hk q.1 (hP k q hq).lt), hD⟩, Nat.le_trans hSv.1 hz, fun q h1 h2 => (hk q (Nat.lt_of_lt_of_le h1 hSv.1)).trans (hSv.2.1 q h1 h2)⟩
end

section
variable {p : Program} {l : Launch} {e : Env} {s : State} {m : MethodId} {args : Array Value} {below : List Frame} {meth : Method} {c : Code} {H : Heap} {locs : List Loc} {ls : Array Slot} {D : va_G} {κ : Nat → Nat} {ext : va_W} {A : Nat → Prop} {τ : yy_T}
noncomputable def mm_X9_line (x1 : Int32) (x2 : Int32) (x3 : Int32) : yy_M (Int32 ⊕ Unit) :=
  yy_cl (mm_X9_hasLine x1 x2) (fun r1 => yy_br (r1 = 0) (yy_rt (.inr ())) (yy_br (x3 = 0) (yy_cl (mm_X9_editionOf x1) (fun r2 => yy_cl (mm_X2_sizeOf r2 x2) (fun r4 => yy_rt (.inl r4)))) (yy_br (x3 = 1) (yy_cl (mm_X9_compared ) (fun r5 => yy_ck (yy_in x1 2 = true) (yy_rA (r5 + 1 + 1 + Int32.toNatClampNeg x1) 14 x2 fun v8 => yy_rt (.inl v8)))) (yy_br (x3 = 2) (yy_cl (mm_X9_compared ) (fun r9 => yy_ck (yy_in x1 2 = true) (yy_rA (r9 + 4 + 1 + Int32.toNatClampNeg x1) 14 x2 fun v12 => yy_rt (.inl v12)))) (yy_br (x3 = 3) (yy_cl (mm_X9_compared ) (fun r13 => yy_ck (yy_in x1 2 = true) (yy_rA (r13 + 7 + 1 + Int32.toNatClampNeg x1) 14 x2 fun v16 => yy_rt (.inl v16)))) (yy_rt (.inr ())))))))
theorem kw_X9_line : yy_wV RX9 yX9_line cX9_line 4 (some .int) 3 := ⟨⟨tw_701, tw_702, tw_51, tw_703⟩, by decide +kernel⟩
abbrev rm_X9_line : Room := { frames := 7, cells := 1, slots := 6, locals := 190 }
set_option maxHeartbeats 4000000 in
set_option maxRecDepth 100000 in
theorem ww_X9_line_E {x1 x2 x3 : Int32} {res : (Int32 ⊕ Unit) × yy_T} (C : yy_C D κ p m c cX9_line 4 s args RX9) (hr : meth.sig.returnType = (some .int)) (hlk : meth.locks = false) (hnt : l.stackTraces = false) (hS : yx_S A s) (hout : ∀ x ∈ c.exceptionTable.toList, False) (Z : yy_Z D κ ext A s.heap τ H locs) (hl : lv_has ls 4 [(0, .ref (κ 4 + 0)), (1, .int x1), (2, .int x2), (3, .int x3)]) (h : mm_X9_line x1 x2 x3 τ = some res) : W p l e rm_X9_line s m args below meth c H locs 0 0 (vx_MQ below (yx_Qi D κ ext A res) (yx_XC D κ ext A res) args s 1 6 A) (F0 m 0 ls []) := by
  unfold mm_X9_line at h
  refine lv_aload_n C.1.1 C.1.2.1 dX9_line_0 rfl (lv_at hl 0 rfl) ?_
  refine lv_iload_n C.1.1 C.1.2.1 dX9_line_1 rfl (lv_at hl 1 rfl) ?_
  refine lv_iload_n C.1.1 C.1.2.1 dX9_line_2 rfl (lv_at hl 2 rfl) ?_
  refine yy_cVi0 (As := [.int x1, .int x2]) (rest := []) (id := 0) (ci := 9) (q := (RX9, TX9, 11)) C Z (ss_X9_hasLine l D κ ext x1 x2) (by decide) (yy_ent_0 _) rfl tw_567 kw_X9_hasLine ⟨⟨rfl, rfl⟩, ⟨Nat.le_of_ble_eq_true rfl, Nat.le_of_ble_eq_true rfl⟩, Nat.le_of_ble_eq_true rfl, Nat.le_of_ble_eq_true rfl⟩ hl.1 rfl (Nat.le_of_ble_eq_true rfl) dX9_line_3 h (fun r1 τ H locs Z h => ?_)
  refine yy_if_ne (tgt := 19) C dX9_line_6 (by decide) h (fun h => ?_) (fun h => ?_)
  · refine lv_iload_n C.1.1 C.1.2.1 dX9_line_19 rfl (lv_at hl 3 rfl) ?_
    rcases yy_br_of h with ⟨hc0, h⟩ | ⟨hc0, h⟩
    · refine lv_tableIn (off := 32) (tgt := 52) C.1.1 C.1.2.1 dX9_line_20 (by rw [hc0]; decide) (by rw [hc0]; decide) (by rw [hc0]; rfl) (by decide) ?_
      refine lv_aload_n C.1.1 C.1.2.1 dX9_line_52 rfl (lv_at hl 0 rfl) ?_
      refine lv_iload_n C.1.1 C.1.2.1 dX9_line_53 rfl (lv_at hl 1 rfl) ?_
      refine yy_cVr0 (As := [.int x1]) (rest := []) (id := 0) (ci := 9) (q := (RX9, TX9, 11)) C Z (ss_X9_editionOf l D κ ext x1) (by decide) (yy_ent_0 _) rfl tw_408 kw_X9_editionOf ⟨⟨rfl, rfl⟩, ⟨Nat.le_of_ble_eq_true rfl, Nat.le_of_ble_eq_true rfl⟩, Nat.le_of_ble_eq_true rfl, Nat.le_of_ble_eq_true rfl⟩ hl.1 rfl (Nat.le_of_ble_eq_true rfl) dX9_line_54 h (fun r2 τ H locs hp3 Z h => ?_)
      refine lv_iload_n C.1.1 C.1.2.1 dX9_line_57 rfl (lv_at hl 2 rfl) ?_
      refine yy_cVi0 (As := [.int x2]) (rest := []) (id := r2) (ci := 2) (q := (RX2, TX2, 3)) C Z (ss_X2_sizeOf l D κ ext r2 x2 hp3) (yy_Eds_lt _ hp3) (yy_ent_Eds hp3 _) rfl tw_598 kw_X2_sizeOf ⟨⟨rfl, rfl⟩, ⟨Nat.le_of_ble_eq_true rfl, Nat.le_of_ble_eq_true rfl⟩, Nat.le_of_ble_eq_true rfl, Nat.le_of_ble_eq_true rfl⟩ hl.1 rfl (Nat.le_of_ble_eq_true rfl) dX9_line_58 h (fun r4 τ H locs Z h => ?_)
      refine W.widen (k := 1) (n := 6) (Nat.le_of_ble_eq_true rfl) (Nat.le_of_ble_eq_true rfl) ?_
      exact yx_iret C Z hr hlk rfl dX9_line_61 h
    · rcases yy_br_of h with ⟨hc1, h⟩ | ⟨hc1, h⟩
      · refine lv_tableIn (off := 42) (tgt := 62) C.1.1 C.1.2.1 dX9_line_20 (by rw [hc1]; decide) (by rw [hc1]; decide) (by rw [hc1]; rfl) (by decide) ?_
        refine lv_aload_n C.1.1 C.1.2.1 dX9_line_62 rfl (lv_at hl 0 rfl) ?_
        refine yy_cVr0 (As := []) (rest := []) (id := 0) (ci := 9) (q := (RX9, TX9, 11)) C Z (ss_X9_compared l D κ ext ) (by decide) (yy_ent_0 _) rfl tw_439 kw_X9_compared ⟨⟨rfl, rfl⟩, ⟨Nat.le_of_ble_eq_true rfl, Nat.le_of_ble_eq_true rfl⟩, Nat.le_of_ble_eq_true rfl, Nat.le_of_ble_eq_true rfl⟩ hl.1 rfl (Nat.le_of_ble_eq_true rfl) dX9_line_63 h (fun r5 τ H locs hp6 Z h => ?_)
        refine yg_X8_0 C Z hp6 tw_284 dX9_line_66 ?_
        refine lv_iload_n C.1.1 C.1.2.1 dX9_line_69 rfl (lv_at hl 1 rfl) ?_
        refine yy_aald2 C Z (yy_D1 _ hp6) dX9_line_70 h (fun hn7 h => ?_)
        refine lv_iload_n C.1.1 C.1.2.1 dX9_line_71 rfl (lv_at hl 2 rfl) ?_
        refine yy_iald C Z (yy_G0 _ (yy_D1 _ hp6) _ hn7) (yy_lenG0 _ (yy_D1 _ hp6) _ hn7) dX9_line_72 h (fun v8 h => ?_)
        refine W.widen (k := 1) (n := 6) (Nat.le_of_ble_eq_true rfl) (Nat.le_of_ble_eq_true rfl) ?_
        exact yx_iret C Z hr hlk rfl dX9_line_73 h
      · rcases yy_br_of h with ⟨hc2, h⟩ | ⟨hc2, h⟩
        · refine lv_tableIn (off := 54) (tgt := 74) C.1.1 C.1.2.1 dX9_line_20 (by rw [hc2]; decide) (by rw [hc2]; decide) (by rw [hc2]; rfl) (by decide) ?_
          refine lv_aload_n C.1.1 C.1.2.1 dX9_line_74 rfl (lv_at hl 0 rfl) ?_
          refine yy_cVr0 (As := []) (rest := []) (id := 0) (ci := 9) (q := (RX9, TX9, 11)) C Z (ss_X9_compared l D κ ext ) (by decide) (yy_ent_0 _) rfl tw_439 kw_X9_compared ⟨⟨rfl, rfl⟩, ⟨Nat.le_of_ble_eq_true rfl, Nat.le_of_ble_eq_true rfl⟩, Nat.le_of_ble_eq_true rfl, Nat.le_of_ble_eq_true rfl⟩ hl.1 rfl (Nat.le_of_ble_eq_true rfl) dX9_line_75 h (fun r9 τ H locs hp10 Z h => ?_)
          refine yg_X8_1 C Z hp10 tw_286 dX9_line_78 ?_
          refine lv_iload_n C.1.1 C.1.2.1 dX9_line_81 rfl (lv_at hl 1 rfl) ?_
          refine yy_aald2 C Z (yy_D4 _ hp10) dX9_line_82 h (fun hn11 h => ?_)
          refine lv_iload_n C.1.1 C.1.2.1 dX9_line_83 rfl (lv_at hl 2 rfl) ?_
          refine yy_iald C Z (yy_G0 _ (yy_D4 _ hp10) _ hn11) (yy_lenG0 _ (yy_D4 _ hp10) _ hn11) dX9_line_84 h (fun v12 h => ?_)
          refine W.widen (k := 1) (n := 6) (Nat.le_of_ble_eq_true rfl) (Nat.le_of_ble_eq_true rfl) ?_
          exact yx_iret C Z hr hlk rfl dX9_line_85 h
        · rcases yy_br_of h with ⟨hc3, h⟩ | ⟨hc3, h⟩
          · refine lv_tableIn (off := 66) (tgt := 86) C.1.1 C.1.2.1 dX9_line_20 (by rw [hc3]; decide) (by rw [hc3]; decide) (by rw [hc3]; rfl) (by decide) ?_
            refine lv_aload_n C.1.1 C.1.2.1 dX9_line_86 rfl (lv_at hl 0 rfl) ?_
            refine yy_cVr0 (As := []) (rest := []) (id := 0) (ci := 9) (q := (RX9, TX9, 11)) C Z (ss_X9_compared l D κ ext ) (by decide) (yy_ent_0 _) rfl tw_439 kw_X9_compared ⟨⟨rfl, rfl⟩, ⟨Nat.le_of_ble_eq_true rfl, Nat.le_of_ble_eq_true rfl⟩, Nat.le_of_ble_eq_true rfl, Nat.le_of_ble_eq_true rfl⟩ hl.1 rfl (Nat.le_of_ble_eq_true rfl) dX9_line_87 h (fun r13 τ H locs hp14 Z h => ?_)
            refine yg_X8_2 C Z hp14 tw_288 dX9_line_90 ?_
            refine lv_iload_n C.1.1 C.1.2.1 dX9_line_93 rfl (lv_at hl 1 rfl) ?_
            refine yy_aald2 C Z (yy_D7 _ hp14) dX9_line_94 h (fun hn15 h => ?_)
            refine lv_iload_n C.1.1 C.1.2.1 dX9_line_95 rfl (lv_at hl 2 rfl) ?_
            refine yy_iald C Z (yy_G0 _ (yy_D7 _ hp14) _ hn15) (yy_lenG0 _ (yy_D7 _ hp14) _ hn15) dX9_line_96 h (fun v16 h => ?_)
            refine W.widen (k := 1) (n := 6) (Nat.le_of_ble_eq_true rfl) (Nat.le_of_ble_eq_true rfl) ?_
            exact yx_iret C Z hr hlk rfl dX9_line_97 h
          · refine lv_tableOut (tgt := 98) C.1.1 C.1.2.1 dX9_line_20 (yy_out 4 (fun k hk => by rcases (show k = 0 ∨ k = 1 ∨ k = 2 ∨ k = 3 by omega) with rfl | rfl | rfl | rfl <;> assumption)) (by decide) ?_
            exact yx_thr C Z hS hnt C.2.2.2.2.2.2.2.2.2.2 hl.1 dX9_line_98 dX9_line_101 dX9_line_102 dX9_line_104 dX9_line_107 hout (Nat.le_of_ble_eq_true rfl) (Nat.le_of_ble_eq_true rfl) (Nat.le_of_ble_eq_true rfl) (Nat.le_of_ble_eq_true rfl) hlk h
  · exact yx_thr C Z hS hnt C.2.2.2.2.2.2.2.2.2.1 hl.1 dX9_line_9 dX9_line_12 dX9_line_13 dX9_line_15 dX9_line_18 hout (Nat.le_of_ble_eq_true rfl) (Nat.le_of_ble_eq_true rfl) (Nat.le_of_ble_eq_true rfl) (Nat.le_of_ble_eq_true rfl) hlk h
theorem ss_X9_line (l : Launch) (hnt : l.stackTraces = false) (D : va_G) (κ : Nat → Nat) (ext : va_W) (x1 x2 x3 : Int32) (sz : Nat) (τ : yy_T) (res : (Int32 ⊕ Unit) × yy_T) (h : mm_X9_line x1 x2 x3 τ = some res) : vx_Met l yX9_line (Cond.code yX9_line cX9_line 4 (some .int) :: gT) rm_X9_line (yx_Pre D κ ext [.ref (κ 4 + 0), .int x1, .int x2, .int x3] sz τ) (yx_Qi D κ ext (yy_A κ ext sz) res) (yx_XC D κ ext (yy_A κ ext sz) res) 1 6 (yy_A κ ext sz) := by
  refine vx_ofW (cc := cX9_line) (maxL := 4) (ret := some .int) (by decide) rfl ?_
  intro p e s m args below meth c s₁ B hml hout hv
  obtain ⟨⟨rfl, hsz, hP, hK, hD0⟩, hS⟩ := hv
  have hts := atoms_spec (ws := Cond.code yX9_line cX9_line 4 (some .int) :: gT) B.pre
  have hl := lv_entry [.ref (κ 4 + 0), .int x1, .int x2, .int x3] (n := 4) (Nat.le_of_ble_eq_true rfl)
  rw [lg_entry_eq]
  subst hsz
  exact ww_X9_line_E ⟨⟨B.exec, B.bytes, hml, findClass_of_methodNamed B.named, fun w hw => hts w (List.mem_cons_of_mem _ hw)⟩, hK⟩ B.returns B.notSynchronized hnt hS hout ⟨hP, yy_A_D hD0, va_S.rf, fun q hq => Or.inr (Or.inr hq)⟩ hl h
end
