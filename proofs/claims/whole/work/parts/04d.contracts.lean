/-! CONTRACTS: a method is met by a program -/
def yy_Pre (D : va_G) (κ : Nat → Nat) (ext : va_W) (av : List Value) (sz : Nat) (τ : yy_T) : Array Value → State → Prop := va_Pc av (fun U => U.heap.size = sz ∧ va_P D yy_cls (yy_lay κ τ ++ ext) U.heap ∧ yy_K D κ U ∧ va_D (fun _ => True) (yy_lay κ τ ++ ext))
theorem yy_Pre.blind {D : va_G} {κ : Nat → Nat} {ext : va_W} {av : List Value} {sz : Nat} {τ : yy_T} : FrameBlind (yy_Pre D κ ext av sz τ) := fun a U g mk q => by
  obtain ⟨q0, q1, qP, qK, qD⟩ := q
  exact ⟨q0, q1, qP, yy_K.same (s := U) (U := U.calling g mk a) rfl qK, qD⟩
def yy_A (κ : Nat → Nat) (ext : va_W) (sz : Nat) : Nat → Prop := fun q => (κ 4 ≤ q ∧ q < κ 4 + 124) ∨ (∃ (k : Nat) (e : va_E), ext[k]? = some (q, e)) ∨ sz ≤ q
theorem yy_A_D {κ : Nat → Nat} {ext : va_W} {sz : Nat} {τ : yy_T} {A : Nat → Prop} (h : va_D A (yy_lay κ τ ++ ext)) : va_D (yy_A κ ext sz) (yy_lay κ τ ++ ext) := by
  refine ⟨h.1, fun k q hq => ?_⟩
  by_cases hk : k < 124
  · rw [yy_lay_at hk] at hq
    cases hq
    exact Or.inl ⟨Nat.le_add_right _ _, Nat.add_lt_add_left hk _⟩
  · rw [List.getElem?_append_right (by rw [yy_lay_len]; omega)] at hq
    exact Or.inr (Or.inl ⟨_, q.2, hq⟩)
theorem yy_A_in {κ : Nat → Nat} {ext : va_W} {sz : Nat} {τ : yy_T} {A : Nat → Prop} (h : va_D A (yy_lay κ τ ++ ext)) (hA : ∀ q : Nat, sz ≤ q → A q) : ∀ q, yy_A κ ext sz q → A q := by
  intro q hq
  rcases hq with ⟨h1, h2⟩ | ⟨k, e, h1⟩ | h1
  · have := h.2 (q - κ 4) _ (yy_lay_at (κ := κ) (τ := τ) (ext := ext) (k := q - κ 4) (by omega))
    rw [show κ 4 + (q - κ 4) = q by omega] at this
    exact this
  · exact h.2 (124 + k) (q, e) (by rw [List.getElem?_append_right (by rw [yy_lay_len]; omega), yy_lay_len, Nat.add_sub_cancel_left]; exact h1)
  · exact hA q h1
def yy_B (D : va_G) (κ : Nat → Nat) (ext : va_W) (A : Nat → Prop) (τ : yy_T) (t : State) : Prop := va_P D yy_cls (yy_lay κ τ ++ ext) t.heap ∧ va_D A (yy_lay κ τ ++ ext)
abbrev yy_Qi (D : va_G) (κ : Nat → Nat) (ext : va_W) (A : Nat → Prop) (res : Int32 × yy_T) := va_Qi (fun (r : Int32) (_ : Unit) => r = res.1) (fun _ t => yy_B D κ ext A res.2 t) A
abbrev yy_Qv (D : va_G) (κ : Nat → Nat) (ext : va_W) (A : Nat → Prop) (res : Unit × yy_T) := va_Qv (fun (_ : Unit) => True) (fun _ t => yy_B D κ ext A res.2 t) A
abbrev yy_Qr (P : Nat → Prop) (D : va_G) (κ : Nat → Nat) (ext : va_W) (A : Nat → Prop) (res : Nat × yy_T) := va_Qr (fun (_ : Unit) => P res.1) (fun _ a t => a = κ 4 + res.1 ∧ yy_B D κ ext A res.2 t) A
def yy_Mi (l : Launch) (D : va_G) (κ : Nat → Nat) (ext : va_W) (y : MethodName) (bytes : ByteArray) (maxL : Nat) (ret : Option FieldType) (rm : Room) (mc ms : Nat) (av : List Value) (prog : yy_M Int32) : Prop := ∀ (sz : Nat) (τ : yy_T) (res : Int32 × yy_T), prog τ = some res → Met l y (Cond.code y bytes maxL ret :: gT) rm (yy_Pre D κ ext av sz τ) (yy_Qi D κ ext (yy_A κ ext sz) res) mc ms (yy_A κ ext sz)
def yy_Mv (l : Launch) (D : va_G) (κ : Nat → Nat) (ext : va_W) (y : MethodName) (bytes : ByteArray) (maxL : Nat) (ret : Option FieldType) (rm : Room) (mc ms : Nat) (av : List Value) (prog : yy_M Unit) : Prop := ∀ (sz : Nat) (τ : yy_T) (res : Unit × yy_T), prog τ = some res → Met l y (Cond.code y bytes maxL ret :: gT) rm (yy_Pre D κ ext av sz τ) (yy_Qv D κ ext (yy_A κ ext sz) res) mc ms (yy_A κ ext sz)
def yy_Mr (P : Nat → Prop) (l : Launch) (D : va_G) (κ : Nat → Nat) (ext : va_W) (y : MethodName) (bytes : ByteArray) (maxL : Nat) (ret : Option FieldType) (rm : Room) (mc ms : Nat) (av : List Value) (prog : yy_M Nat) : Prop := ∀ (sz : Nat) (τ : yy_T) (res : Nat × yy_T), prog τ = some res → Met l y (Cond.code y bytes maxL ret :: gT) rm (yy_Pre D κ ext av sz τ) (yy_Qr P D κ ext (yy_A κ ext sz) res) mc ms (yy_A κ ext sz)
/-- what a method's body begins with -/
def yy_E (l : Launch) (D : va_G) (κ : Nat → Nat) (ext : va_W) (y : MethodName) (bytes : ByteArray) (maxL : Nat) (ret : Option FieldType) (av : List Value) (τ : yy_T) (p : Program) (e : Env) (s : State) (m : MethodId) (args : Array Value) (meth : Method) (c : Code) (ls : Array Slot) : Prop :=
  yy_C D κ p m c bytes maxL s args y.cls ∧ meth.sig.returnType = ret ∧ meth.locks = false ∧ yy_Z D κ ext (yy_A κ ext s.heap.size) s.heap τ s.heap [] ∧ lv_has ls maxL (lv_args 0 av)
theorem yy_ofW {l : Launch} {D : va_G} {κ : Nat → Nat} {ext : va_W} {y : MethodName} {bytes : ByteArray} {maxL : Nat} {ret : Option FieldType} {rm : Room} {mc ms : Nat} {av : List Value} {τ : yy_T} {sz : Nat} {Qc : Array Value → State → Outcome → State → Prop} (hy : plainName y.cls = true) (hav : (lg_sl av).length ≤ maxL)
    (body : ∀ (p : Program) (e : Env) (s : State) (m : MethodId) (args : Array Value) (below : List Frame) (meth : Method) (c : Code) (ls : Array Slot), s.heap.size = sz → yy_E l D κ ext y bytes maxL ret av τ p e s m args meth c ls → W p l e rm s m args below meth c s.heap [] 0 0 (MQ below Qc args s mc ms (yy_A κ ext sz)) (F0 m 0 ls [])) : Met l y (Cond.code y bytes maxL ret :: gT) rm (yy_Pre D κ ext av sz τ) Qc mc ms (yy_A κ ext sz) := by
  refine Met.ofW (cc := bytes) (maxL := maxL) (ret := ret) hy rfl ?_
  intro p e s m args below meth c s₁ B hml hv
  obtain ⟨rfl, hsz, hP, hK, hD0⟩ := hv
  have hts := atoms_spec (ws := Cond.code y bytes maxL ret :: gT) B.pre
  have hl := lv_entry av (n := maxL) hav
  rw [lg_entry_eq]
  refine body p e s m _ below meth c _ hsz ⟨⟨⟨B.exec, B.bytes, hml, findClass_of_methodNamed B.named, fun w hw => hts w (List.mem_cons_of_mem _ hw)⟩, hK⟩, B.returns, B.notSynchronized, ⟨hP, yy_A_D hD0, va_S.rf, fun q hq => Or.inr (Or.inr hq)⟩, hl⟩
theorem yy_good {w0 : Cond} {ws : List Cond} (h : ∀ w ∈ ws, w ∈ gT) : GoodIn (w0 :: gT) ws := fun w hw => ⟨List.mem_cons_of_mem _ (h w hw), good_of_word (gT_good (h w hw))⟩
theorem yy_goodT {ws : List Cond} (h : ∀ w ∈ ws, w ∈ gT) : GoodIn gT ws := fun w hw => ⟨h w hw, good_of_word (gT_good (h w hw))⟩
section YC
variable {p : Program} {l : Launch} {e : Env} {R : Room} {s : State} {m : MethodId} {args : Array Value} {below : List Frame} {meth : Method} {c : Code} {H : Heap} {locs : List Loc} {cells slots : Nat} {Q : State → Prop}
variable {cc : ByteArray} {nL pc : Nat} {own : String} {ls : Array Slot} {rest st0 : List Value} {D : va_G} {κ : Nat → Nat} {ext : va_W} {A : Nat → Prop} {H0 : Heap} {τ : yy_T} {α β : Type} {res : α × yy_T}
variable {y : MethodName} {bytes : ByteArray} {maxL mc ms index id ci : Nat} {ret : Option FieldType} {rm : Room} {As : List Value} {q : vw_C} {fs : List Value}
/-- the words of a method, and its room at a caller -/
def yy_wV (Cn : String) (y : MethodName) (bytes : ByteArray) (maxL : Nat) (ret : Option FieldType) (n : Nat) : Prop := (Cond.instanceMethod y ∈ gT ∧ Cond.selects Cn y y ∈ gT ∧ Cond.initialized Cn ∈ gT ∧ Cond.code y bytes maxL ret ∈ gT) ∧ y.cls = Cn ∧ y.cls ≠ "java/lang/invoke/MethodHandle" ∧ y.cls ≠ "java/lang/invoke/VarHandle" ∧ (parseMethodDescriptor y.desc).map (fun d => d.parameters.length) = some n
def yy_wS (Cn : String) (y : MethodName) (bytes : ByteArray) (maxL : Nat) (ret : Option FieldType) (n : Nat) : Prop := (Cond.static y ∈ gT ∧ Cond.initialized Cn ∈ gT ∧ Cond.code y bytes maxL ret ∈ gT) ∧ y.cls = Cn ∧ y.cls ≠ "java/lang/invoke/MethodHandle" ∧ y.cls ≠ "java/lang/invoke/VarHandle" ∧ (parseMethodDescriptor y.desc).map (fun d => d.parameters.length) = some n
abbrev yy_rm (R rm : Room) (maxL mc ms cells slots : Nat) : Prop := (rm.cells = mc ∧ rm.slots = ms) ∧ (rm.frames + 1 ≤ R.frames ∧ 8 + (maxL + 11) + rm.locals ≤ R.locals) ∧ cells + mc ≤ R.cells ∧ slots + ms ≤ R.slots
theorem yy_runV {Qc : Array Value → State → Outcome → State → Prop} (C : yy_C D κ p m c cc nL s args own) (Z : yy_Z D κ ext A H0 τ H locs) (hM : Met l y (Cond.code y bytes maxL ret :: gT) rm (yy_Pre D κ ext (.ref (κ 4 + id) :: As) H.size τ) Qc mc ms (yy_A κ ext H.size)) (hid : id < 124) (he : yy_ent κ id (τ id) = .inr (ci, fs)) (hc : yy_cls[ci]? = some q) (hlink : Cond.methodLink own index y ∈ gT) (hw : yy_wV q.1 y bytes maxL ret As.length) (hrm : yy_rm R rm maxL mc ms cells slots) (hls : ls.size = nL) (hst : st0 = As.reverse ++ .ref (κ 4 + id) :: rest) (hW : (rest.map fun v => v.category).sum ≤ 8) (hdg : decode cc pc = .ok (.invokevirtual index, 3)) :
    va_Run p l e R s m args below meth c H locs cells slots mc ms (F0 m pc ls st0) rest (Qc (Value.ref (κ 4 + id) :: As).toArray) (yy_A κ ext H.size) := by
  obtain ⟨hC, hK⟩ := C
  obtain ⟨hP, hD, hS, hA⟩ := Z
  obtain ⟨⟨w1, w2, w3, w4⟩, hd⟩ := hw
  have hG : GoodIn gT (wsV own index q.1 y (Cond.code y bytes maxL ret :: gT)) := yy_goodT (by
    intro w hw
    unfold wsV at hw
    simp only [List.cons_append, List.nil_append, List.mem_cons] at hw
    rcases hw with rfl | rfl | rfl | rfl | rfl | hw
    · exact hlink
    · exact w1
    · exact w2
    · exact w3
    · exact w4
    · exact hw)
  exact va_runV (As := As) (rest := rest) hC hM (cwV As.length hC.2.2.2.2 hG rfl hrm.1.1 hrm.1.2 hd hrm.2.1) ⟨yy_Pre.blind, va_recv hK.1 hP hc (by rw [yy_lay_at hid, he]), fun U hU hW => ⟨rfl, by rw [hU], by rw [hU]; exact hP, hK.warm hW, hD.weaken (fun _ _ _ _ => trivial)⟩⟩ rfl rfl hls hst (lv_room hW) hdg hrm.2.2
theorem yy_runS {Qc : Array Value → State → Outcome → State → Prop} (C : yy_C D κ p m c cc nL s args own) (Z : yy_Z D κ ext A H0 τ H locs) (hM : Met l y (Cond.code y bytes maxL ret :: gT) rm (yy_Pre D κ ext As H.size τ) Qc mc ms (yy_A κ ext H.size)) (hlink : Cond.methodLink own index y ∈ gT) (hw : yy_wS own y bytes maxL ret As.length) (hrm : yy_rm R rm maxL mc ms cells slots) (hls : ls.size = nL) (hst : st0 = As.reverse ++ rest) (hW : (rest.map fun v => v.category).sum ≤ 8) (hdg : decode cc pc = .ok (.invokestatic index, 3)) :
    va_Run p l e R s m args below meth c H locs cells slots mc ms (F0 m pc ls st0) rest (Qc As.toArray) (yy_A κ ext H.size) := by
  obtain ⟨hC, hK⟩ := C
  obtain ⟨hP, hD, hS, hA⟩ := Z
  obtain ⟨⟨w1, w2, w3⟩, hd⟩ := hw
  have hG : GoodIn gT (wsS own index y (Cond.code y bytes maxL ret :: gT)) := yy_goodT (by
    intro w hw
    unfold wsS at hw
    simp only [List.cons_append, List.nil_append, List.mem_cons] at hw
    rcases hw with rfl | rfl | rfl | rfl | hw
    · exact hlink
    · exact w1
    · exact w2
    · exact w3
    · exact hw)
  exact va_runS (As := As) (rest := rest) hC hM (cwS As.length hC.2.2.2.2 hG rfl hrm.1.1 hrm.1.2 hd hrm.2.1) ⟨yy_Pre.blind, fun U hU hW => ⟨rfl, by rw [hU], by rw [hU]; exact hP, hK.warm hW, hD.weaken (fun _ _ _ _ => trivial)⟩⟩ rfl rfl hls hst (lv_room hW) hdg hrm.2.2
/-- a static method of a nest mate -/
theorem yy_runN {Cn : String} {Qc : Array Value → State → Outcome → State → Prop} (C : yy_C D κ p m c cc nL s args own) (Z : yy_Z D κ ext A H0 τ H locs) (hM : Met l y (Cond.code y bytes maxL ret :: gT) rm (yy_Pre D κ ext As H.size τ) Qc mc ms (yy_A κ ext H.size)) (hlink : (own, index, y) ∈ yy_nest) (hw : yy_wS Cn y bytes maxL ret As.length) (hrm : yy_rm R rm maxL mc ms cells slots) (hls : ls.size = nL) (hst : st0 = As.reverse ++ rest) (hW : (rest.map fun v => v.category).sum ≤ 8) (hdg : decode cc pc = .ok (.invokestatic index, 3)) :
    va_Run p l e R s m args below meth c H locs cells slots mc ms (F0 m pc ls st0) rest (Qc As.toArray) (yy_A κ ext H.size) := by
  obtain ⟨hC, hK⟩ := C
  obtain ⟨hP, hD, hS, hA⟩ := Z
  obtain ⟨⟨w1, w2, w3⟩, hd⟩ := hw
  have hG : GoodIn gT (Cond.code y bytes maxL ret :: gT) := yy_goodT (by
    intro w hw
    rcases List.mem_cons.mp hw with rfl | hw
    · exact w3
    · exact hw)
  exact va_runSN (As := As) (rest := rest) (host := "MovedLines") hC hM ⟨va_cnB As.length hC.2.2.2.2 hG rfl hrm.1.1 hrm.1.2 (hK.2.1 _ hlink) (by rw [hd.1]; exact hC.2.2.2.2 _ w2) hd.2 hrm.2.1, hC.2.2.2.2 _ w1, trivial⟩ ⟨yy_Pre.blind, fun U hU hW => ⟨rfl, by rw [hU], by rw [hU]; exact hP, hK.warm hW, hD.weaken (fun _ _ _ _ => trivial)⟩⟩ rfl rfl hls hst (lv_room hW) hdg hrm.2.2
theorem yy_goi {av : Array Value} {prog : yy_M Int32} {K : Int32 → yy_M α} {rs : Int32 × yy_T} (Z : yy_Z D κ ext A H0 τ H locs) (hr : va_Run p l e R s m args below meth c H locs cells slots mc ms (F0 m pc ls st0) rest (yy_Qi D κ ext (yy_A κ ext H.size) rs av) (yy_A κ ext H.size)) (hK : K rs.1 rs.2 = some res)
    (kk : ∀ (r : Int32) (τ1 : yy_T) (H1 : Heap) (locs1 : List Loc), yy_Z D κ ext A H0 τ1 H1 locs1 → K r τ1 = some res → W p l e R s m args below meth c H1 locs1 (cells + mc) (slots + ms) Q (F0 m (pc + 3) ls (.int r :: rest))) : W p l e R s m args below meth c H locs cells slots Q (F0 m pc ls st0) := by
  obtain ⟨hP, hD, hS, hA⟩ := Z
  have hF := yy_A_in (sz := H.size) hD (fun q h => hA q (Nat.le_trans hS.1 h))
  refine va_calli hr hS (fun q _ h => hF q h) hF (fun r u t H1 locs1 ht hvm hw hB hz1 hk1 hS1 => ?_)
  obtain ⟨hP1, hD1⟩ := hB
  rw [ht] at hP1
  rw [hw]
  exact kk rs.1 rs.2 H1 locs1 ⟨hP1, hD1.weaken (fun _ q _ h => hF q.1 h), hS1, hA⟩ hK
theorem yy_gov {av : Array Value} {K : Unit → yy_M α} {rs : Unit × yy_T} (Z : yy_Z D κ ext A H0 τ H locs) (hr : va_Run p l e R s m args below meth c H locs cells slots mc ms (F0 m pc ls st0) rest (yy_Qv D κ ext (yy_A κ ext H.size) rs av) (yy_A κ ext H.size)) (hK : K rs.1 rs.2 = some res)
    (kk : ∀ (τ1 : yy_T) (H1 : Heap) (locs1 : List Loc), yy_Z D κ ext A H0 τ1 H1 locs1 → K () τ1 = some res → W p l e R s m args below meth c H1 locs1 (cells + mc) (slots + ms) Q (F0 m (pc + 3) ls rest)) : W p l e R s m args below meth c H locs cells slots Q (F0 m pc ls st0) := by
  obtain ⟨hP, hD, hS, hA⟩ := Z
  have hF := yy_A_in (sz := H.size) hD (fun q h => hA q (Nat.le_trans hS.1 h))
  refine va_callv hr hS (fun q _ h => hF q h) hF (fun u t H1 locs1 ht hvm hw hB hz1 hk1 hS1 => ?_)
  obtain ⟨hP1, hD1⟩ := hB
  rw [ht] at hP1
  exact kk rs.2 H1 locs1 ⟨hP1, hD1.weaken (fun _ q _ h => hF q.1 h), hS1, hA⟩ hK
theorem yy_gor {P : Nat → Prop} {av : Array Value} {K : Nat → yy_M α} {rs : Nat × yy_T} (Z : yy_Z D κ ext A H0 τ H locs) (hr : va_Run p l e R s m args below meth c H locs cells slots mc ms (F0 m pc ls st0) rest (yy_Qr P D κ ext (yy_A κ ext H.size) rs av) (yy_A κ ext H.size)) (hK : K rs.1 rs.2 = some res)
    (kk : ∀ (r : Nat) (τ1 : yy_T) (H1 : Heap) (locs1 : List Loc), P r → yy_Z D κ ext A H0 τ1 H1 locs1 → K r τ1 = some res → W p l e R s m args below meth c H1 locs1 (cells + mc) (slots + ms) Q (F0 m (pc + 3) ls (.ref (κ 4 + r) :: rest))) : W p l e R s m args below meth c H locs cells slots Q (F0 m pc ls st0) := by
  obtain ⟨hP, hD, hS, hA⟩ := Z
  have hF := yy_A_in (sz := H.size) hD (fun q h => hA q (Nat.le_trans hS.1 h))
  refine va_callr hr hS (fun q _ h => hF q h) hF (fun u ra t H1 locs1 ht hvm hw hB hz1 hk1 hS1 => ?_)
  obtain ⟨rfl, hP1, hD1⟩ := hB
  rw [ht] at hP1
  exact kk rs.1 rs.2 H1 locs1 hw ⟨hP1, hD1.weaken (fun _ q _ h => hF q.1 h), hS1, hA⟩ hK
--CALLS--
theorem yy_cVi0 {prog : yy_M Int32} {K : Int32 → yy_M α} (C : yy_C D κ p m c cc nL s args own) (Z : yy_Z D κ ext A H0 τ H locs) (hM : yy_Mi l D κ ext y bytes maxL ret rm 0 0 (.ref (κ 4 + id) :: As) prog) (hid : id < 124) (he : yy_ent κ id (τ id) = .inr (ci, fs)) (hc : yy_cls[ci]? = some q) (hlink : Cond.methodLink own index y ∈ gT) (hw : yy_wV q.1 y bytes maxL ret As.length) (hrm : yy_rm R rm maxL 0 0 cells slots) (hls : ls.size = nL) (hst : st0 = As.reverse ++ .ref (κ 4 + id) :: rest) (hW : (rest.map fun v => v.category).sum ≤ 8) (hdg : decode cc pc = .ok (.invokevirtual index, 3)) (h : yy_cl prog K τ = some res)
    (kk : ∀ (r : Int32) (τ1 : yy_T) (H1 : Heap) (locs1 : List Loc), yy_Z D κ ext A H0 τ1 H1 locs1 → K r τ1 = some res → W p l e R s m args below meth c H1 locs1 cells slots Q (F0 m (pc + 3) ls (.int r :: rest))) : W p l e R s m args below meth c H locs cells slots Q (F0 m pc ls st0) := by
  obtain ⟨r, τ1, hp, hK⟩ := yy_cl_of h
  exact yy_goi (prog := prog) (rs := (r, τ1)) Z (yy_runV C Z (hM H.size τ (r, τ1) hp) hid he hc hlink hw hrm hls hst hW hdg) hK kk
theorem yy_cVi {prog : yy_M Int32} {K : Int32 → yy_M α} (C : yy_C D κ p m c cc nL s args own) (Z : yy_Z D κ ext A H0 τ H locs) (hM : yy_Mi l D κ ext y bytes maxL ret rm mc ms (.ref (κ 4 + id) :: As) prog) (hid : id < 124) (he : yy_ent κ id (τ id) = .inr (ci, fs)) (hc : yy_cls[ci]? = some q) (hlink : Cond.methodLink own index y ∈ gT) (hw : yy_wV q.1 y bytes maxL ret As.length) (hrm : yy_rm R rm maxL mc ms cells slots) (hls : ls.size = nL) (hst : st0 = As.reverse ++ .ref (κ 4 + id) :: rest) (hW : (rest.map fun v => v.category).sum ≤ 8) (hdg : decode cc pc = .ok (.invokevirtual index, 3)) (h : yy_cl prog K τ = some res)
    (kk : ∀ (r : Int32) (τ1 : yy_T) (H1 : Heap) (locs1 : List Loc), yy_Z D κ ext A H0 τ1 H1 locs1 → K r τ1 = some res → W p l e R s m args below meth c H1 locs1 (cells + mc) (slots + ms) Q (F0 m (pc + 3) ls (.int r :: rest))) : W p l e R s m args below meth c H locs cells slots Q (F0 m pc ls st0) := by
  obtain ⟨r, τ1, hp, hK⟩ := yy_cl_of h
  exact yy_goi (prog := prog) (rs := (r, τ1)) Z (yy_runV C Z (hM H.size τ (r, τ1) hp) hid he hc hlink hw hrm hls hst hW hdg) hK kk
theorem yy_cVv0 {prog : yy_M Unit} {K : Unit → yy_M α} (C : yy_C D κ p m c cc nL s args own) (Z : yy_Z D κ ext A H0 τ H locs) (hM : yy_Mv l D κ ext y bytes maxL ret rm 0 0 (.ref (κ 4 + id) :: As) prog) (hid : id < 124) (he : yy_ent κ id (τ id) = .inr (ci, fs)) (hc : yy_cls[ci]? = some q) (hlink : Cond.methodLink own index y ∈ gT) (hw : yy_wV q.1 y bytes maxL ret As.length) (hrm : yy_rm R rm maxL 0 0 cells slots) (hls : ls.size = nL) (hst : st0 = As.reverse ++ .ref (κ 4 + id) :: rest) (hW : (rest.map fun v => v.category).sum ≤ 8) (hdg : decode cc pc = .ok (.invokevirtual index, 3)) (h : yy_cl prog K τ = some res)
    (kk : ∀ (τ1 : yy_T) (H1 : Heap) (locs1 : List Loc), yy_Z D κ ext A H0 τ1 H1 locs1 → K () τ1 = some res → W p l e R s m args below meth c H1 locs1 cells slots Q (F0 m (pc + 3) ls rest)) : W p l e R s m args below meth c H locs cells slots Q (F0 m pc ls st0) := by
  obtain ⟨r, τ1, hp, hK⟩ := yy_cl_of h
  exact yy_gov (rs := (r, τ1)) Z (yy_runV C Z (hM H.size τ (r, τ1) hp) hid he hc hlink hw hrm hls hst hW hdg) hK kk
theorem yy_cVv {prog : yy_M Unit} {K : Unit → yy_M α} (C : yy_C D κ p m c cc nL s args own) (Z : yy_Z D κ ext A H0 τ H locs) (hM : yy_Mv l D κ ext y bytes maxL ret rm mc ms (.ref (κ 4 + id) :: As) prog) (hid : id < 124) (he : yy_ent κ id (τ id) = .inr (ci, fs)) (hc : yy_cls[ci]? = some q) (hlink : Cond.methodLink own index y ∈ gT) (hw : yy_wV q.1 y bytes maxL ret As.length) (hrm : yy_rm R rm maxL mc ms cells slots) (hls : ls.size = nL) (hst : st0 = As.reverse ++ .ref (κ 4 + id) :: rest) (hW : (rest.map fun v => v.category).sum ≤ 8) (hdg : decode cc pc = .ok (.invokevirtual index, 3)) (h : yy_cl prog K τ = some res)
    (kk : ∀ (τ1 : yy_T) (H1 : Heap) (locs1 : List Loc), yy_Z D κ ext A H0 τ1 H1 locs1 → K () τ1 = some res → W p l e R s m args below meth c H1 locs1 (cells + mc) (slots + ms) Q (F0 m (pc + 3) ls rest)) : W p l e R s m args below meth c H locs cells slots Q (F0 m pc ls st0) := by
  obtain ⟨r, τ1, hp, hK⟩ := yy_cl_of h
  exact yy_gov (rs := (r, τ1)) Z (yy_runV C Z (hM H.size τ (r, τ1) hp) hid he hc hlink hw hrm hls hst hW hdg) hK kk
theorem yy_cVr0 {P : Nat → Prop} {prog : yy_M Nat} {K : Nat → yy_M α} (C : yy_C D κ p m c cc nL s args own) (Z : yy_Z D κ ext A H0 τ H locs) (hM : yy_Mr P l D κ ext y bytes maxL ret rm 0 0 (.ref (κ 4 + id) :: As) prog) (hid : id < 124) (he : yy_ent κ id (τ id) = .inr (ci, fs)) (hc : yy_cls[ci]? = some q) (hlink : Cond.methodLink own index y ∈ gT) (hw : yy_wV q.1 y bytes maxL ret As.length) (hrm : yy_rm R rm maxL 0 0 cells slots) (hls : ls.size = nL) (hst : st0 = As.reverse ++ .ref (κ 4 + id) :: rest) (hW : (rest.map fun v => v.category).sum ≤ 8) (hdg : decode cc pc = .ok (.invokevirtual index, 3)) (h : yy_cl prog K τ = some res)
    (kk : ∀ (r : Nat) (τ1 : yy_T) (H1 : Heap) (locs1 : List Loc), P r → yy_Z D κ ext A H0 τ1 H1 locs1 → K r τ1 = some res → W p l e R s m args below meth c H1 locs1 cells slots Q (F0 m (pc + 3) ls (.ref (κ 4 + r) :: rest))) : W p l e R s m args below meth c H locs cells slots Q (F0 m pc ls st0) := by
  obtain ⟨r, τ1, hp, hK⟩ := yy_cl_of h
  exact yy_gor (rs := (r, τ1)) Z (yy_runV C Z (hM H.size τ (r, τ1) hp) hid he hc hlink hw hrm hls hst hW hdg) hK kk
theorem yy_cVr {P : Nat → Prop} {prog : yy_M Nat} {K : Nat → yy_M α} (C : yy_C D κ p m c cc nL s args own) (Z : yy_Z D κ ext A H0 τ H locs) (hM : yy_Mr P l D κ ext y bytes maxL ret rm mc ms (.ref (κ 4 + id) :: As) prog) (hid : id < 124) (he : yy_ent κ id (τ id) = .inr (ci, fs)) (hc : yy_cls[ci]? = some q) (hlink : Cond.methodLink own index y ∈ gT) (hw : yy_wV q.1 y bytes maxL ret As.length) (hrm : yy_rm R rm maxL mc ms cells slots) (hls : ls.size = nL) (hst : st0 = As.reverse ++ .ref (κ 4 + id) :: rest) (hW : (rest.map fun v => v.category).sum ≤ 8) (hdg : decode cc pc = .ok (.invokevirtual index, 3)) (h : yy_cl prog K τ = some res)
    (kk : ∀ (r : Nat) (τ1 : yy_T) (H1 : Heap) (locs1 : List Loc), P r → yy_Z D κ ext A H0 τ1 H1 locs1 → K r τ1 = some res → W p l e R s m args below meth c H1 locs1 (cells + mc) (slots + ms) Q (F0 m (pc + 3) ls (.ref (κ 4 + r) :: rest))) : W p l e R s m args below meth c H locs cells slots Q (F0 m pc ls st0) := by
  obtain ⟨r, τ1, hp, hK⟩ := yy_cl_of h
  exact yy_gor (rs := (r, τ1)) Z (yy_runV C Z (hM H.size τ (r, τ1) hp) hid he hc hlink hw hrm hls hst hW hdg) hK kk
theorem yy_cSi0 {prog : yy_M Int32} {K : Int32 → yy_M α} (C : yy_C D κ p m c cc nL s args own) (Z : yy_Z D κ ext A H0 τ H locs) (hM : yy_Mi l D κ ext y bytes maxL ret rm 0 0 As prog) (hlink : Cond.methodLink own index y ∈ gT) (hw : yy_wS own y bytes maxL ret As.length) (hrm : yy_rm R rm maxL 0 0 cells slots) (hls : ls.size = nL) (hst : st0 = As.reverse ++ rest) (hW : (rest.map fun v => v.category).sum ≤ 8) (hdg : decode cc pc = .ok (.invokestatic index, 3)) (h : yy_cl prog K τ = some res)
    (kk : ∀ (r : Int32) (τ1 : yy_T) (H1 : Heap) (locs1 : List Loc), yy_Z D κ ext A H0 τ1 H1 locs1 → K r τ1 = some res → W p l e R s m args below meth c H1 locs1 cells slots Q (F0 m (pc + 3) ls (.int r :: rest))) : W p l e R s m args below meth c H locs cells slots Q (F0 m pc ls st0) := by
  obtain ⟨r, τ1, hp, hK⟩ := yy_cl_of h
  exact yy_goi (prog := prog) (rs := (r, τ1)) Z (yy_runS C Z (hM H.size τ (r, τ1) hp) hlink hw hrm hls hst hW hdg) hK kk
theorem yy_cSi {prog : yy_M Int32} {K : Int32 → yy_M α} (C : yy_C D κ p m c cc nL s args own) (Z : yy_Z D κ ext A H0 τ H locs) (hM : yy_Mi l D κ ext y bytes maxL ret rm mc ms As prog) (hlink : Cond.methodLink own index y ∈ gT) (hw : yy_wS own y bytes maxL ret As.length) (hrm : yy_rm R rm maxL mc ms cells slots) (hls : ls.size = nL) (hst : st0 = As.reverse ++ rest) (hW : (rest.map fun v => v.category).sum ≤ 8) (hdg : decode cc pc = .ok (.invokestatic index, 3)) (h : yy_cl prog K τ = some res)
    (kk : ∀ (r : Int32) (τ1 : yy_T) (H1 : Heap) (locs1 : List Loc), yy_Z D κ ext A H0 τ1 H1 locs1 → K r τ1 = some res → W p l e R s m args below meth c H1 locs1 (cells + mc) (slots + ms) Q (F0 m (pc + 3) ls (.int r :: rest))) : W p l e R s m args below meth c H locs cells slots Q (F0 m pc ls st0) := by
  obtain ⟨r, τ1, hp, hK⟩ := yy_cl_of h
  exact yy_goi (prog := prog) (rs := (r, τ1)) Z (yy_runS C Z (hM H.size τ (r, τ1) hp) hlink hw hrm hls hst hW hdg) hK kk
theorem yy_cSv0 {prog : yy_M Unit} {K : Unit → yy_M α} (C : yy_C D κ p m c cc nL s args own) (Z : yy_Z D κ ext A H0 τ H locs) (hM : yy_Mv l D κ ext y bytes maxL ret rm 0 0 As prog) (hlink : Cond.methodLink own index y ∈ gT) (hw : yy_wS own y bytes maxL ret As.length) (hrm : yy_rm R rm maxL 0 0 cells slots) (hls : ls.size = nL) (hst : st0 = As.reverse ++ rest) (hW : (rest.map fun v => v.category).sum ≤ 8) (hdg : decode cc pc = .ok (.invokestatic index, 3)) (h : yy_cl prog K τ = some res)
    (kk : ∀ (τ1 : yy_T) (H1 : Heap) (locs1 : List Loc), yy_Z D κ ext A H0 τ1 H1 locs1 → K () τ1 = some res → W p l e R s m args below meth c H1 locs1 cells slots Q (F0 m (pc + 3) ls rest)) : W p l e R s m args below meth c H locs cells slots Q (F0 m pc ls st0) := by
  obtain ⟨r, τ1, hp, hK⟩ := yy_cl_of h
  exact yy_gov (rs := (r, τ1)) Z (yy_runS C Z (hM H.size τ (r, τ1) hp) hlink hw hrm hls hst hW hdg) hK kk
theorem yy_cSv {prog : yy_M Unit} {K : Unit → yy_M α} (C : yy_C D κ p m c cc nL s args own) (Z : yy_Z D κ ext A H0 τ H locs) (hM : yy_Mv l D κ ext y bytes maxL ret rm mc ms As prog) (hlink : Cond.methodLink own index y ∈ gT) (hw : yy_wS own y bytes maxL ret As.length) (hrm : yy_rm R rm maxL mc ms cells slots) (hls : ls.size = nL) (hst : st0 = As.reverse ++ rest) (hW : (rest.map fun v => v.category).sum ≤ 8) (hdg : decode cc pc = .ok (.invokestatic index, 3)) (h : yy_cl prog K τ = some res)
    (kk : ∀ (τ1 : yy_T) (H1 : Heap) (locs1 : List Loc), yy_Z D κ ext A H0 τ1 H1 locs1 → K () τ1 = some res → W p l e R s m args below meth c H1 locs1 (cells + mc) (slots + ms) Q (F0 m (pc + 3) ls rest)) : W p l e R s m args below meth c H locs cells slots Q (F0 m pc ls st0) := by
  obtain ⟨r, τ1, hp, hK⟩ := yy_cl_of h
  exact yy_gov (rs := (r, τ1)) Z (yy_runS C Z (hM H.size τ (r, τ1) hp) hlink hw hrm hls hst hW hdg) hK kk
theorem yy_cNi0 {Cn : String} {prog : yy_M Int32} {K : Int32 → yy_M α} (C : yy_C D κ p m c cc nL s args own) (Z : yy_Z D κ ext A H0 τ H locs) (hM : yy_Mi l D κ ext y bytes maxL ret rm 0 0 As prog) (hlink : (own, index, y) ∈ yy_nest) (hw : yy_wS Cn y bytes maxL ret As.length) (hrm : yy_rm R rm maxL 0 0 cells slots) (hls : ls.size = nL) (hst : st0 = As.reverse ++ rest) (hW : (rest.map fun v => v.category).sum ≤ 8) (hdg : decode cc pc = .ok (.invokestatic index, 3)) (h : yy_cl prog K τ = some res)
    (kk : ∀ (r : Int32) (τ1 : yy_T) (H1 : Heap) (locs1 : List Loc), yy_Z D κ ext A H0 τ1 H1 locs1 → K r τ1 = some res → W p l e R s m args below meth c H1 locs1 cells slots Q (F0 m (pc + 3) ls (.int r :: rest))) : W p l e R s m args below meth c H locs cells slots Q (F0 m pc ls st0) := by
  obtain ⟨r, τ1, hp, hK⟩ := yy_cl_of h
  exact yy_goi (prog := prog) (rs := (r, τ1)) Z (yy_runN C Z (hM H.size τ (r, τ1) hp) hlink hw hrm hls hst hW hdg) hK kk
theorem yy_cNi {Cn : String} {prog : yy_M Int32} {K : Int32 → yy_M α} (C : yy_C D κ p m c cc nL s args own) (Z : yy_Z D κ ext A H0 τ H locs) (hM : yy_Mi l D κ ext y bytes maxL ret rm mc ms As prog) (hlink : (own, index, y) ∈ yy_nest) (hw : yy_wS Cn y bytes maxL ret As.length) (hrm : yy_rm R rm maxL mc ms cells slots) (hls : ls.size = nL) (hst : st0 = As.reverse ++ rest) (hW : (rest.map fun v => v.category).sum ≤ 8) (hdg : decode cc pc = .ok (.invokestatic index, 3)) (h : yy_cl prog K τ = some res)
    (kk : ∀ (r : Int32) (τ1 : yy_T) (H1 : Heap) (locs1 : List Loc), yy_Z D κ ext A H0 τ1 H1 locs1 → K r τ1 = some res → W p l e R s m args below meth c H1 locs1 (cells + mc) (slots + ms) Q (F0 m (pc + 3) ls (.int r :: rest))) : W p l e R s m args below meth c H locs cells slots Q (F0 m pc ls st0) := by
  obtain ⟨r, τ1, hp, hK⟩ := yy_cl_of h
  exact yy_goi (prog := prog) (rs := (r, τ1)) Z (yy_runN C Z (hM H.size τ (r, τ1) hp) hlink hw hrm hls hst hW hdg) hK kk
theorem yy_rt_of {α : Type} {v : α} {τ : yy_T} {res : α × yy_T} (h : yy_rt v τ = some res) : res = (v, τ) := (Option.some.inj h).symm
theorem yy_nar_z {v : Int32} (h : v = 0 ∨ v = 1) : narrow .boolean (.int v) = .int v := by
  rcases h with rfl | rfl <;> rfl
theorem yy_ck_of {α : Type} {c : Prop} [Decidable c] {K : yy_M α} {τ : yy_T} {res : α × yy_T} (h : yy_ck c K τ = some res) : c ∧ K τ = some res := by
  unfold yy_ck at h
  by_cases hc : c
  · rw [if_pos hc] at h; exact ⟨hc, h⟩
  · rw [if_neg hc] at h; cases h
theorem yy_iret {v : Int32} {ty : FieldType} {res : Int32 × yy_T} (C : yy_C D κ p m c cc nL s args own) (Z : yy_Z D κ ext A s.heap τ H locs) (hr : meth.sig.returnType = some ty) (hlocks : meth.locks = false) (hn : narrow ty (.int v) = .int v) (hdg : decode cc pc = .ok (.ireturn, 1)) (h : yy_rt v τ = some res) : W p l e R s m args below meth c H locs cells slots (MQ below (yy_Qi D κ ext A res) args s cells slots A) (F0 m pc ls [.int v]) := by
  obtain ⟨⟨hx, hb, hml, hown, hts⟩, hK⟩ := C
  obtain ⟨hP, hD, hS, hA⟩ := Z
  rw [yy_rt_of h]
  exact W.zret hx hb hr hn (fun t ht hW => ⟨⟨v, (), rfl, rfl, by rw [ht]; exact hP, hD⟩, hS.F ht⟩) hS.2.2 hdg
theorem yy_zret {v : Int32} {res : Int32 × yy_T} (C : yy_C D κ p m c cc nL s args own) (Z : yy_Z D κ ext A s.heap τ H locs) (hr : meth.sig.returnType = some .boolean) (hlocks : meth.locks = false) (hdg : decode cc pc = .ok (.ireturn, 1)) (h : yy_ck (v = 0 ∨ v = 1) (yy_rt v) τ = some res) : W p l e R s m args below meth c H locs cells slots (MQ below (yy_Qi D κ ext A res) args s cells slots A) (F0 m pc ls [.int v]) :=
  yy_iret C Z hr hlocks (yy_nar_z (yy_ck_of h).1) hdg (yy_ck_of h).2
theorem yy_vret {res : Unit × yy_T} (C : yy_C D κ p m c cc nL s args own) (Z : yy_Z D κ ext A s.heap τ H locs) (hr : meth.sig.returnType = none) (hlocks : meth.locks = false) (hdg : decode cc pc = .ok (.return_, 1)) (h : yy_rt () τ = some res) : W p l e R s m args below meth c H locs cells slots (MQ below (yy_Qv D κ ext A res) args s cells slots A) (F0 m pc ls []) := by
  obtain ⟨⟨hx, hb, hml, hown, hts⟩, hK⟩ := C
  obtain ⟨hP, hD, hS, hA⟩ := Z
  rw [yy_rt_of h]
  exact W.vret hx hb hr (fun t ht hW => ⟨⟨(), rfl, trivial, by rw [ht]; exact hP, hD⟩, hS.F ht⟩) hS.2.2 hdg
theorem yy_aret {P : Nat → Prop} {r : Nat} {cn : String} {res : Nat × yy_T} (C : yy_C D κ p m c cc nL s args own) (Z : yy_Z D κ ext A s.heap τ H locs) (hr : meth.sig.returnType = some (.object cn)) (hlocks : meth.locks = false) (hp : P r) (hdg : decode cc pc = .ok (.areturn, 1)) (h : yy_rt r τ = some res) : W p l e R s m args below meth c H locs cells slots (MQ below (yy_Qr P D κ ext A res) args s cells slots A) (F0 m pc ls [.ref (κ 4 + r)]) := by
  obtain ⟨⟨hx, hb, hml, hown, hts⟩, hK⟩ := C
  obtain ⟨hP, hD, hS, hA⟩ := Z
  rw [yy_rt_of h]
  exact W.aret hx hb hr (Or.inl ⟨_, rfl⟩) (Or.inr ⟨_, rfl⟩) (fun t ht hW => ⟨⟨(), κ 4 + r, rfl, hp, rfl, by rw [ht]; exact hP, hD⟩, hS.F ht⟩) hS.2.2 hdg
theorem yy_if_eq {x : Int32} {off : Int} {tgt : Nat} {K1 K2 : yy_M α} (C : yy_C D κ p m c cc nL s args own) (hdg : decode cc pc = .ok (.ifCond .eq off, 3)) (ht : (pc : Int) + off = (tgt : Int)) (h : yy_br (x = 0) K1 K2 τ = some res) (kt : K1 τ = some res → W p l e R s m args below meth c H locs cells slots Q (F0 m tgt ls rest)) (kf : K2 τ = some res → W p l e R s m args below meth c H locs cells slots Q (F0 m (pc + 3) ls rest)) : W p l e R s m args below meth c H locs cells slots Q (F0 m pc ls (.int x :: rest)) :=
  lv_if_eq C.1.1 C.1.2.1 hdg ht (fun hc => kt (by unfold yy_br at h; rw [if_pos hc] at h; exact h)) (fun hc => kf (by unfold yy_br at h; rw [if_neg hc] at h; exact h))
theorem yy_if_ne {x : Int32} {off : Int} {tgt : Nat} {K1 K2 : yy_M α} (C : yy_C D κ p m c cc nL s args own) (hdg : decode cc pc = .ok (.ifCond .ne off, 3)) (ht : (pc : Int) + off = (tgt : Int)) (h : yy_br (x = 0) K2 K1 τ = some res) (kt : K1 τ = some res → W p l e R s m args below meth c H locs cells slots Q (F0 m tgt ls rest)) (kf : K2 τ = some res → W p l e R s m args below meth c H locs cells slots Q (F0 m (pc + 3) ls rest)) : W p l e R s m args below meth c H locs cells slots Q (F0 m pc ls (.int x :: rest)) :=
  lv_if_ne C.1.1 C.1.2.1 hdg ht (fun hc => kt (by unfold yy_br at h; rw [if_neg hc] at h; exact h)) (fun hc => kf (by unfold yy_br at h; rw [if_pos hc] at h; exact h))
theorem yy_if_lt {x : Int32} {off : Int} {tgt : Nat} {K1 K2 : yy_M α} (C : yy_C D κ p m c cc nL s args own) (hdg : decode cc pc = .ok (.ifCond .lt off, 3)) (ht : (pc : Int) + off = (tgt : Int)) (h : yy_br (x < 0) K1 K2 τ = some res) (kt : K1 τ = some res → W p l e R s m args below meth c H locs cells slots Q (F0 m tgt ls rest)) (kf : K2 τ = some res → W p l e R s m args below meth c H locs cells slots Q (F0 m (pc + 3) ls rest)) : W p l e R s m args below meth c H locs cells slots Q (F0 m pc ls (.int x :: rest)) :=
  lv_if_lt C.1.1 C.1.2.1 hdg ht (fun hc => kt (by unfold yy_br at h; rw [if_pos hc] at h; exact h)) (fun hc => kf (by unfold yy_br at h; rw [if_neg hc] at h; exact h))
theorem yy_if_ge {x : Int32} {off : Int} {tgt : Nat} {K1 K2 : yy_M α} (C : yy_C D κ p m c cc nL s args own) (hdg : decode cc pc = .ok (.ifCond .ge off, 3)) (ht : (pc : Int) + off = (tgt : Int)) (h : yy_br (0 ≤ x) K1 K2 τ = some res) (kt : K1 τ = some res → W p l e R s m args below meth c H locs cells slots Q (F0 m tgt ls rest)) (kf : K2 τ = some res → W p l e R s m args below meth c H locs cells slots Q (F0 m (pc + 3) ls rest)) : W p l e R s m args below meth c H locs cells slots Q (F0 m pc ls (.int x :: rest)) :=
  lv_if_ge C.1.1 C.1.2.1 hdg ht (fun hc => kt (by unfold yy_br at h; rw [if_pos hc] at h; exact h)) (fun hc => kf (by unfold yy_br at h; rw [if_neg hc] at h; exact h))
theorem yy_if_gt {x : Int32} {off : Int} {tgt : Nat} {K1 K2 : yy_M α} (C : yy_C D κ p m c cc nL s args own) (hdg : decode cc pc = .ok (.ifCond .gt off, 3)) (ht : (pc : Int) + off = (tgt : Int)) (h : yy_br (0 < x) K1 K2 τ = some res) (kt : K1 τ = some res → W p l e R s m args below meth c H locs cells slots Q (F0 m tgt ls rest)) (kf : K2 τ = some res → W p l e R s m args below meth c H locs cells slots Q (F0 m (pc + 3) ls rest)) : W p l e R s m args below meth c H locs cells slots Q (F0 m pc ls (.int x :: rest)) :=
  lv_if_gt C.1.1 C.1.2.1 hdg ht (fun hc => kt (by unfold yy_br at h; rw [if_pos hc] at h; exact h)) (fun hc => kf (by unfold yy_br at h; rw [if_neg hc] at h; exact h))
theorem yy_if_le {x : Int32} {off : Int} {tgt : Nat} {K1 K2 : yy_M α} (C : yy_C D κ p m c cc nL s args own) (hdg : decode cc pc = .ok (.ifCond .le off, 3)) (ht : (pc : Int) + off = (tgt : Int)) (h : yy_br (x ≤ 0) K1 K2 τ = some res) (kt : K1 τ = some res → W p l e R s m args below meth c H locs cells slots Q (F0 m tgt ls rest)) (kf : K2 τ = some res → W p l e R s m args below meth c H locs cells slots Q (F0 m (pc + 3) ls rest)) : W p l e R s m args below meth c H locs cells slots Q (F0 m pc ls (.int x :: rest)) :=
  lv_if_le C.1.1 C.1.2.1 hdg ht (fun hc => kt (by unfold yy_br at h; rw [if_pos hc] at h; exact h)) (fun hc => kf (by unfold yy_br at h; rw [if_neg hc] at h; exact h))
theorem yy_icmp_eq {x y : Int32} {off : Int} {tgt : Nat} {K1 K2 : yy_M α} (C : yy_C D κ p m c cc nL s args own) (hdg : decode cc pc = .ok (.if_icmp .eq off, 3)) (ht : (pc : Int) + off = (tgt : Int)) (h : yy_br (x = y) K1 K2 τ = some res) (kt : K1 τ = some res → W p l e R s m args below meth c H locs cells slots Q (F0 m tgt ls rest)) (kf : K2 τ = some res → W p l e R s m args below meth c H locs cells slots Q (F0 m (pc + 3) ls rest)) : W p l e R s m args below meth c H locs cells slots Q (F0 m pc ls (.int y :: .int x :: rest)) :=
  lv_icmp_eq C.1.1 C.1.2.1 hdg ht (fun hc => kt (by unfold yy_br at h; rw [if_pos hc] at h; exact h)) (fun hc => kf (by unfold yy_br at h; rw [if_neg hc] at h; exact h))
theorem yy_icmp_ne {x y : Int32} {off : Int} {tgt : Nat} {K1 K2 : yy_M α} (C : yy_C D κ p m c cc nL s args own) (hdg : decode cc pc = .ok (.if_icmp .ne off, 3)) (ht : (pc : Int) + off = (tgt : Int)) (h : yy_br (x = y) K2 K1 τ = some res) (kt : K1 τ = some res → W p l e R s m args below meth c H locs cells slots Q (F0 m tgt ls rest)) (kf : K2 τ = some res → W p l e R s m args below meth c H locs cells slots Q (F0 m (pc + 3) ls rest)) : W p l e R s m args below meth c H locs cells slots Q (F0 m pc ls (.int y :: .int x :: rest)) :=
  lv_icmp_ne C.1.1 C.1.2.1 hdg ht (fun hc => kt (by unfold yy_br at h; rw [if_neg hc] at h; exact h)) (fun hc => kf (by unfold yy_br at h; rw [if_pos hc] at h; exact h))
theorem yy_icmp_lt {x y : Int32} {off : Int} {tgt : Nat} {K1 K2 : yy_M α} (C : yy_C D κ p m c cc nL s args own) (hdg : decode cc pc = .ok (.if_icmp .lt off, 3)) (ht : (pc : Int) + off = (tgt : Int)) (h : yy_br (x < y) K1 K2 τ = some res) (kt : K1 τ = some res → W p l e R s m args below meth c H locs cells slots Q (F0 m tgt ls rest)) (kf : K2 τ = some res → W p l e R s m args below meth c H locs cells slots Q (F0 m (pc + 3) ls rest)) : W p l e R s m args below meth c H locs cells slots Q (F0 m pc ls (.int y :: .int x :: rest)) :=
  lv_icmp_lt C.1.1 C.1.2.1 hdg ht (fun hc => kt (by unfold yy_br at h; rw [if_pos hc] at h; exact h)) (fun hc => kf (by unfold yy_br at h; rw [if_neg hc] at h; exact h))
theorem yy_icmp_ge {x y : Int32} {off : Int} {tgt : Nat} {K1 K2 : yy_M α} (C : yy_C D κ p m c cc nL s args own) (hdg : decode cc pc = .ok (.if_icmp .ge off, 3)) (ht : (pc : Int) + off = (tgt : Int)) (h : yy_br (y ≤ x) K1 K2 τ = some res) (kt : K1 τ = some res → W p l e R s m args below meth c H locs cells slots Q (F0 m tgt ls rest)) (kf : K2 τ = some res → W p l e R s m args below meth c H locs cells slots Q (F0 m (pc + 3) ls rest)) : W p l e R s m args below meth c H locs cells slots Q (F0 m pc ls (.int y :: .int x :: rest)) :=
  lv_icmp_ge C.1.1 C.1.2.1 hdg ht (fun hc => kt (by unfold yy_br at h; rw [if_pos hc] at h; exact h)) (fun hc => kf (by unfold yy_br at h; rw [if_neg hc] at h; exact h))
theorem yy_icmp_gt {x y : Int32} {off : Int} {tgt : Nat} {K1 K2 : yy_M α} (C : yy_C D κ p m c cc nL s args own) (hdg : decode cc pc = .ok (.if_icmp .gt off, 3)) (ht : (pc : Int) + off = (tgt : Int)) (h : yy_br (y < x) K1 K2 τ = some res) (kt : K1 τ = some res → W p l e R s m args below meth c H locs cells slots Q (F0 m tgt ls rest)) (kf : K2 τ = some res → W p l e R s m args below meth c H locs cells slots Q (F0 m (pc + 3) ls rest)) : W p l e R s m args below meth c H locs cells slots Q (F0 m pc ls (.int y :: .int x :: rest)) :=
  lv_icmp_gt C.1.1 C.1.2.1 hdg ht (fun hc => kt (by unfold yy_br at h; rw [if_pos hc] at h; exact h)) (fun hc => kf (by unfold yy_br at h; rw [if_neg hc] at h; exact h))
theorem yy_icmp_le {x y : Int32} {off : Int} {tgt : Nat} {K1 K2 : yy_M α} (C : yy_C D κ p m c cc nL s args own) (hdg : decode cc pc = .ok (.if_icmp .le off, 3)) (ht : (pc : Int) + off = (tgt : Int)) (h : yy_br (x ≤ y) K1 K2 τ = some res) (kt : K1 τ = some res → W p l e R s m args below meth c H locs cells slots Q (F0 m tgt ls rest)) (kf : K2 τ = some res → W p l e R s m args below meth c H locs cells slots Q (F0 m (pc + 3) ls rest)) : W p l e R s m args below meth c H locs cells slots Q (F0 m pc ls (.int y :: .int x :: rest)) :=
  lv_icmp_le C.1.1 C.1.2.1 hdg ht (fun hc => kt (by unfold yy_br at h; rw [if_pos hc] at h; exact h)) (fun hc => kf (by unfold yy_br at h; rw [if_neg hc] at h; exact h))
end YC
