/-! CONSTRUCTORS: cell o is being made, the cells behind it up to hi stand already; every cell comes to the address that the layout gives it -/
def yy_t0 : yy_T := fun a i => if a = 0 ∧ i = 10 then 1 else 0
theorem yy_t0_z {k : Nat} (h : k ≠ 0) : yy_t0 k = fun _ => 0 := by
  funext i
  unfold yy_t0
  rw [if_neg (fun q => h q.1)]
def yk_E (κ : Nat → Nat) (k : Nat) : va_E := yy_ent κ k (yy_t0 k)
def yk_ws (κ : Nat → Nat) (o ci : Nat) (fs : List Value) (E : Nat → va_E) (hi : Nat) : va_W := (κ 4 + o, .inr (ci, fs)) :: (List.range (hi - o - 1)).map (fun j => (κ 4 + (o + 1 + j), E (o + 1 + j)))
def yk_Z (D : va_G) (κ : Nat → Nat) (A : Nat → Prop) (H0 : Heap) (o ci : Nat) (fs : List Value) (E : Nat → va_E) (hi : Nat) (H : Heap) (locs : List Loc) : Prop :=
  va_P D yy_cls (yk_ws κ o ci fs E hi) H ∧ H.size = κ 4 + hi ∧ o < hi ∧ va_S A H0 H locs ∧ ∀ q : Nat, κ 4 + o ≤ q → A q
theorem yk_ws_at {κ : Nat → Nat} {o ci : Nat} {fs : List Value} {E : Nat → va_E} {hi k : Nat} (h1 : o < k) (h2 : k < hi) : (yk_ws κ o ci fs E hi)[k - o]? = some (κ 4 + k, E k) := by
  unfold yk_ws
  rw [show k - o = (k - o - 1) + 1 by omega, List.getElem?_cons_succ]
  have : o + 1 + (k - o - 1) = k := by omega
  simp [show k - o - 1 < hi - o - 1 by omega, this]
theorem yk_ws_D {κ : Nat → Nat} {A : Nat → Prop} {o ci : Nat} {fs : List Value} {E : Nat → va_E} {hi : Nat} (hA : ∀ q : Nat, κ 4 + o ≤ q → A q) : va_D A (yk_ws κ o ci fs E hi) := by
  have key : ∀ (k : Nat) (q : Nat × va_E), (yk_ws κ o ci fs E hi)[k]? = some q → q.1 = κ 4 + o + k := by
    intro k q hq
    unfold yk_ws at hq
    cases k with
    | zero => cases hq; rfl
    | succ k =>
      rw [List.getElem?_cons_succ] at hq
      rw [List.getElem?_map] at hq
      cases hj : (List.range (hi - o - 1))[k]? with
      | none => rw [hj] at hq; cases hq
      | some j =>
        rw [hj] at hq
        have hk := (List.getElem?_eq_some_iff.mp hj).2
        rw [List.getElem_range] at hk
        subst hk
        rw [← Option.some.inj hq]
        show κ 4 + (o + 1 + k) = κ 4 + o + (k + 1)
        omega
  refine ⟨fun i j a b ha hb hab => ?_, fun k q hq => hA _ (by rw [key k q hq]; omega)⟩
  have := key i a ha
  have := key j b hb
  omega
theorem yk_ws_P {D : va_G} {κ : Nat → Nat} {o ci : Nat} {fs : List Value} {E : Nat → va_E} {hi : Nat} {H : Heap} (h0 : va_at D yy_cls (κ 4 + o, .inr (ci, fs)) H) (h1 : ∀ k, o < k → k < hi → va_at D yy_cls (κ 4 + k, E k) H) : va_P D yy_cls (yk_ws κ o ci fs E hi) H := by
  intro k q hq
  unfold yk_ws at hq
  cases k with
  | zero => cases hq; exact h0
  | succ k =>
    rw [List.getElem?_cons_succ] at hq
    have hm := List.mem_of_getElem? hq
    obtain ⟨j, hj, rfl⟩ := List.mem_map.mp hm
    have := List.mem_range.mp hj
    exact h1 _ (by omega) (by omega)
theorem yk_Z.cell {D : va_G} {κ : Nat → Nat} {A : Nat → Prop} {H0 : Heap} {o ci : Nat} {fs : List Value} {E : Nat → va_E} {hi : Nat} {H : Heap} {locs : List Loc} (Z : yk_Z D κ A H0 o ci fs E hi H locs) {k : Nat} (h1 : o < k) (h2 : k < hi) : va_at D yy_cls (κ 4 + k, E k) H := Z.1 _ _ (yk_ws_at h1 h2)
theorem yk_Z.own {D : va_G} {κ : Nat → Nat} {A : Nat → Prop} {H0 : Heap} {o ci : Nat} {fs : List Value} {E : Nat → va_E} {hi : Nat} {H : Heap} {locs : List Loc} (Z : yk_Z D κ A H0 o ci fs E hi H locs) : va_at D yy_cls (κ 4 + o, .inr (ci, fs)) H := Z.1 0 _ rfl
def yk_Pre (D : va_G) (κ : Nat → Nat) (o ci : Nat) (fs : List Value) : Array Value → State → Prop := va_Pc [.ref (κ 4 + o)] (fun U => U.heap.size = κ 4 + o + 1 ∧ va_at D yy_cls (κ 4 + o, .inr (ci, fs)) U.heap ∧ yy_K D κ U)
theorem yk_Pre.blind {D : va_G} {κ : Nat → Nat} {o ci : Nat} {fs : List Value} : FrameBlind (yk_Pre D κ o ci fs) := fun a U g mk q => by
  obtain ⟨q0, q1, q2, qK⟩ := q
  exact ⟨q0, q1, q2, yy_K.same (s := U) (U := U.calling g mk a) rfl qK⟩
abbrev yk_Q (D : va_G) (κ : Nat → Nat) (o n : Nat) := va_Qv (fun (_ : Unit) => True) (fun _ t => t.heap.size = κ 4 + (o + n) ∧ ∀ k, o ≤ k → k < o + n → va_at D yy_cls (κ 4 + k, yk_E κ k) t.heap) (fun q => κ 4 + o ≤ q)
def yk_M (l : Launch) (D : va_G) (κ : Nat → Nat) (y : MethodName) (bytes : ByteArray) (maxL : Nat) (rm : Room) (o ci : Nat) (fs : List Value) (n mc ms : Nat) : Prop := Met l y (Cond.code y bytes maxL none :: gT) rm (yk_Pre D κ o ci fs) (yk_Q D κ o n) mc ms (fun q => κ 4 + o ≤ q)
theorem yk_ofW {l : Launch} {D : va_G} {κ : Nat → Nat} {y : MethodName} {bytes : ByteArray} {maxL : Nat} {rm : Room} {o ci n mc ms : Nat} {fs : List Value} (hy : plainName y.cls = true) (hini : y.name = "<init>") (hav : 1 ≤ maxL)
    (body : ∀ (p : Program) (e : Env) (s : State) (m : MethodId) (args : Array Value) (below : List Frame) (meth : Method) (c : Code) (ls : Array Slot), yy_C D κ p m c bytes maxL s args y.cls → meth.sig.returnType = none → meth.locks = false → meth.name = "<init>" → yk_Z D κ (fun q => κ 4 + o ≤ q) s.heap o ci fs (yk_E κ) (o + 1) s.heap [] → lv_has ls maxL [(0, .ref (κ 4 + o))] → W p l e rm s m args below meth c s.heap [] 0 0 (MQ below (yk_Q D κ o n) args s mc ms (fun q => κ 4 + o ≤ q)) (F0 m 0 ls [])) : yk_M l D κ y bytes maxL rm o ci fs n mc ms := by
  refine Met.ofW (cc := bytes) (maxL := maxL) (ret := none) hy rfl ?_
  intro p e s m args below meth c s₁ B hml hv
  obtain ⟨rfl, hsz, hP, hK⟩ := hv
  have hts := atoms_spec (ws := Cond.code y bytes maxL none :: gT) B.pre
  have hl := lv_entry [.ref (κ 4 + o)] (n := maxL) hav
  rw [lg_entry_eq]
  exact body p e s m _ below meth c _ ⟨⟨B.exec, B.bytes, hml, findClass_of_methodNamed B.named, fun w hw => hts w (List.mem_cons_of_mem _ hw)⟩, hK⟩ B.returns B.notSynchronized (((name_of_methodNamed B.named B.method).1).trans hini)
    ⟨yk_ws_P hP (fun k h1 h2 => by omega), hsz, Nat.lt_succ_self o, va_S.rf, fun q h => h⟩ hl
section YK
variable {p : Program} {l : Launch} {e : Env} {R : Room} {s : State} {m : MethodId} {args : Array Value} {below : List Frame} {meth : Method} {c : Code} {H : Heap} {locs : List Loc} {cells slots : Nat} {Q : State → Prop}
variable {cc : ByteArray} {nL pc : Nat} {own : String} {ls : Array Slot} {rest : List Value} {D : va_G} {κ : Nat → Nat} {A : Nat → Prop} {H0 : Heap} {o ci hi : Nat} {fs : List Value} {E : Nat → va_E}
theorem yk_putF (C : yy_C D κ p m c cc nL s args own) (Z : yk_Z D κ A H0 o ci fs E hi H locs) {k N index id : Nat} {T : u_T} {ty0 : Nat → FieldType} {ty : FieldType} (hc : yy_cls[ci]? = some (own, T, N)) (hin : ∀ w ∈ u_ws own T N, w ∈ gT) (hty : ∀ k, k < N → parseFieldDescriptor (T k).2.2.1 = some (ty0 k)) (hnm : ∀ a, a < N → ∀ b, b < N → a ≠ b → (T a).2.1 ≠ (T b).2.1) (hk : k < N) (hT : (T k).1 = own) (hfin : (T k).2.2.2 = true) (hini : meth.name = "<init>") (hd : parseFieldDescriptor (T k).2.2.1 = some ty) (hn : narrow ty (.ref (κ 4 + id)) = .ref (κ 4 + id)) (hfit : fits ty (.ref (κ 4 + id)) = true) (hl : k < fs.length) (hlink : Cond.fieldLink own index own (T k).2.1 (T k).2.2.1 ∈ gT) (hdg : decode cc pc = .ok (.putfield index, 3))
    (kk : ∀ (H1 : Heap) (locs1 : List Loc), yk_Z D κ A H0 o ci (fs.set k (.ref (κ 4 + id))) E hi H1 locs1 → W p l e R s m args below meth c H1 locs1 cells slots Q (F0 m (pc + 3) ls rest)) : W p l e R s m args below meth c H locs cells slots Q (F0 m pc ls (.ref (κ 4 + id) :: .ref (κ 4 + o) :: rest)) := by
  obtain ⟨⟨hx, hb, hml, hown, hts⟩, hK, hNs⟩ := C
  obtain ⟨hP, hz, hlt, hS0, hA⟩ := Z
  have hD : va_D A (yk_ws κ o ci fs E hi) := yk_ws_D hA
  have hap := va_apart (own := own) hts hin ty0 hty hnm hK hc
  have he : (yk_ws κ o ci fs E hi)[0]? = some (κ 4 + o, .inr (ci, fs)) := rfl
  obtain ⟨r, h1, cell, q1, q2, q3, q4⟩ := hP 0 _ he
  have hr : r = (own, T, N) := Option.some.inj (h1.symm.trans hc)
  subst hr
  obtain ⟨hS, hfc, kC, hkC, hkind⟩ := hK.1 ci _ hc
  obtain ⟨cf, kf, fi, f, hif, hsl⟩ := hS k hk
  have hlay := hts _ (hin _ (u_in_lay hk))
  unfold u_lay at hlay
  rw [if_pos hfin] at hlay
  have hst := (u_facts hfc hkC (u_lays hts hin hk) hif).1
  have hcf : m.cls = cf := by
    obtain ⟨_, _, c', _, _, _, -, -, hf', -, -, -, hown2, -⟩ := Cond.laysFinal_spec hlay
    have e1 : c' = cf := by have := hif.symm.trans hf'; simp at this; exact this.1.symm
    rw [hT] at hown2
    rw [← e1]; exact Option.some.inj (hown.symm.trans hown2)
  have h6 := u_fits hfc hkC hkind (Or.inr hlay) hif hd hn hfit
  refine W.putFinK hx hb hown (hts _ hlink) (by rw [hT] at hif; exact hif) hst hcf hini (by rw [q2]; exact h6) q1 q3 (by rw [hsl]; exact k2_hasslot (q4 k hk)) rfl rfl hdg fun H' e1 e2 e3 => ?_
  rw [hsl] at e1 ⊢
  exact kk H' _ ⟨hP.set hD he ⟨_, hc, t_OB.to (V := updV (vp_V fs) k (.ref (κ 4 + id))) ⟨_, e1, q2, q3, t_set q4 hap hk _⟩ (fun j _ => vp_updV_set hl _ j)⟩ e3, by rw [e2]; exact hz, hlt, hS0.put e2 e3 (hA _ (Nat.le_refl _)), hA⟩
theorem yk_putI (C : yy_C D κ p m c cc nL s args own) (Z : yk_Z D κ A H0 o ci fs E hi H locs) {k N index : Nat} {v : Int32} {T : u_T} {ty0 : Nat → FieldType} {ty : FieldType} (hc : yy_cls[ci]? = some (own, T, N)) (hin : ∀ w ∈ u_ws own T N, w ∈ gT) (hty : ∀ k, k < N → parseFieldDescriptor (T k).2.2.1 = some (ty0 k)) (hnm : ∀ a, a < N → ∀ b, b < N → a ≠ b → (T a).2.1 ≠ (T b).2.1) (hk : k < N) (hT : (T k).1 = own) (hfin : (T k).2.2.2 = false) (hd : parseFieldDescriptor (T k).2.2.1 = some ty) (hn : narrow ty (.int v) = .int v) (hfit : fits ty (.int v) = true) (hl : k < fs.length) (hlink : Cond.fieldLink own index own (T k).2.1 (T k).2.2.1 ∈ gT) (hdg : decode cc pc = .ok (.putfield index, 3))
    (kk : ∀ (H1 : Heap) (locs1 : List Loc), yk_Z D κ A H0 o ci (fs.set k (.int v)) E hi H1 locs1 → W p l e R s m args below meth c H1 locs1 cells slots Q (F0 m (pc + 3) ls rest)) : W p l e R s m args below meth c H locs cells slots Q (F0 m pc ls (.int v :: .ref (κ 4 + o) :: rest)) := by
  obtain ⟨⟨hx, hb, hml, hown, hts⟩, hK, hNs⟩ := C
  obtain ⟨hP, hz, hlt, hS0, hA⟩ := Z
  have hD : va_D A (yk_ws κ o ci fs E hi) := yk_ws_D hA
  have hap := va_apart (own := own) hts hin ty0 hty hnm hK hc
  have he : (yk_ws κ o ci fs E hi)[0]? = some (κ 4 + o, .inr (ci, fs)) := rfl
  obtain ⟨r, h1, cell, q1, q2, q3, q4⟩ := hP 0 _ he
  have hr : r = (own, T, N) := Option.some.inj (h1.symm.trans hc)
  subst hr
  obtain ⟨hS, hfc, kC, hkC, hkind⟩ := hK.1 ci _ hc
  obtain ⟨cf, kf, fi, f, hif, hsl⟩ := hS k hk
  have hlay := hts _ (hin _ (u_in_lay hk))
  unfold u_lay at hlay
  rw [if_neg (by rw [hfin]; decide)] at hlay
  have hst := (u_facts hfc hkC (u_lays hts hin hk) hif).1
  have h6 := u_store hfc hkC hkind hlay hif hd hn hfit
  refine W.putK hx hb (f := f) ⟨hown, hts _ hlink, ⟨_, _, _, by rw [hT] at hif; exact hif⟩, hst⟩ (by rw [q2]; exact h6) q1 q3 (by rw [hsl]; exact k2_hasslot (q4 k hk)) rfl rfl hdg fun H' e1 e2 e3 => ?_
  rw [hsl] at e1 ⊢
  exact kk H' _ ⟨hP.set hD he ⟨_, hc, t_OB.to (V := updV (vp_V fs) k (.int v)) ⟨_, e1, q2, q3, t_set q4 hap hk _⟩ (fun j _ => vp_updV_set hl _ j)⟩ e3, by rw [e2]; exact hz, hlt, hS0.put e2 e3 (hA _ (Nat.le_refl _)), hA⟩
/-- a cell more -/
theorem yk_Z.grow {hi' : Nat} {H1 : Heap} (Z : yk_Z D κ A H0 o ci fs E hi H locs) (hh : hi < hi') (z1 : H1.size = κ 4 + hi') (o1 : ∀ q, q < κ 4 + hi → H1[q]? = H[q]?) (hn : ∀ k, hi ≤ k → k < hi' → va_at D yy_cls (κ 4 + k, E k) H1) : yk_Z D κ A H0 o ci fs E hi' H1 locs := by
  obtain ⟨hP, hz, hlt, hS, hA⟩ := Z
  have hZ : yk_Z D κ A H0 o ci fs E hi H locs := ⟨hP, hz, hlt, hS, hA⟩
  refine ⟨yk_ws_P (hZ.own.kept (o1 _ (by omega))) (fun k h1 h2 => ?_), z1, by omega, ⟨by have := hS.1; omega, fun q h1 h2 => (o1 q (by have := hS.1; omega)).trans (hS.2.1 q h1 h2), hS.2.2⟩, hA⟩
  by_cases hk : k < hi
  · exact (hZ.cell h1 hk).kept (o1 _ (by show κ 4 + k < _; omega))
  · exact hn k (by omega) h2
theorem yk_newI (C : yy_C D κ p m c cc nL s args own) (Z : yk_Z D κ A H0 o ci fs E hi H locs) {n : Int32} {N' : Nat} (harr : Cond.arrayClass .int ∈ gT) (hn : ¬ n < 0) (hN : n.toNatClampNeg = N') (hbytes : N' * componentBytes .int ≤ 536870912) (hE : E hi = .inl (κ 0, N', .inl (fun _ => 0))) (hcells : cells + 1 ≤ R.cells) (hslots : slots + N' ≤ R.slots) (hdg : decode cc pc = .ok (.newarray .int, 2))
    (kk : ∀ H1 : Heap, yk_Z D κ A H0 o ci fs E (hi + 1) H1 locs → W p l e R s m args below meth c H1 locs (cells + 1) (slots + N') Q (F0 m (pc + 2) ls (.ref (κ 4 + hi) :: rest))) : W p l e R s m args below meth c H locs cells slots Q (F0 m pc ls (.int n :: rest)) := by
  obtain ⟨⟨hx, hb, hml, hown, hts⟩, hK, hNs⟩ := C
  have hz := Z.2.1
  refine va_newaK (atype := .int) hx hb (hts _ harr) rfl hdg rfl hn hN hbytes hcells hslots hz fun H1 cA e1 z1 o1 hAr hNm => ?_
  have e2 : s.vm.findClass ("[" ++ FieldType.int.toString) = some (κ 0) := (hK.2 0 (κ 0, .int) rfl).2
  have e3 : cA = κ 0 := Option.some.inj (hNm.symm.trans e2)
  subst e3
  refine kk H1 (Z.grow (Nat.lt_succ_self hi) z1 o1 (fun k h1 h2 => ?_))
  rw [show k = hi by omega, hE]
  exact e1
theorem yk_newB (C : yy_C D κ p m c cc nL s args own) (Z : yk_Z D κ A H0 o ci fs E hi H locs) {n : Int32} {N' : Nat} (harr : Cond.arrayClass .byte ∈ gT) (hn : ¬ n < 0) (hN : n.toNatClampNeg = N') (hbytes : N' * componentBytes .byte ≤ 536870912) (hE : E hi = .inl (κ 1, N', .inl (fun _ => 0))) (hcells : cells + 1 ≤ R.cells) (hslots : slots + N' ≤ R.slots) (hdg : decode cc pc = .ok (.newarray .byte, 2))
    (kk : ∀ H1 : Heap, yk_Z D κ A H0 o ci fs E (hi + 1) H1 locs → W p l e R s m args below meth c H1 locs (cells + 1) (slots + N') Q (F0 m (pc + 2) ls (.ref (κ 4 + hi) :: rest))) : W p l e R s m args below meth c H locs cells slots Q (F0 m pc ls (.int n :: rest)) := by
  obtain ⟨⟨hx, hb, hml, hown, hts⟩, hK, hNs⟩ := C
  have hz := Z.2.1
  refine va_newaK (atype := .byte) hx hb (hts _ harr) rfl hdg rfl hn hN hbytes hcells hslots hz fun H1 cA e1 z1 o1 hAr hNm => ?_
  have e2 : s.vm.findClass ("[" ++ FieldType.byte.toString) = some (κ 1) := (hK.2 1 (κ 1, .byte) rfl).2
  have e3 : cA = κ 1 := Option.some.inj (hNm.symm.trans e2)
  subst e3
  refine kk H1 (Z.grow (Nat.lt_succ_self hi) z1 o1 (fun k h1 h2 => ?_))
  rw [show k = hi by omega, hE]
  exact e1
theorem yk_newE (C : yy_C D κ p m c cc nL s args own) (Z : yk_Z D κ A H0 o ci fs E hi H locs) {n : Int32} {N' index : Nat} (hcl : Cond.classLink own index "MovedLines$Edition" ∈ gT) (hn : ¬ n < 0) (hN : n.toNatClampNeg = N') (hbytes : N' * 4 ≤ 536870912) (hE : E hi = .inl (κ 2, N', .inr (.inr (.inr (.inr (fun _ => none)))))) (hcells : cells + 1 ≤ R.cells) (hslots : slots + N' ≤ R.slots) (hdg : decode cc pc = .ok (.anewarray index, 3))
    (kk : ∀ H1 : Heap, yk_Z D κ A H0 o ci fs E (hi + 1) H1 locs → W p l e R s m args below meth c H1 locs (cells + 1) (slots + N') Q (F0 m (pc + 3) ls (.ref (κ 4 + hi) :: rest))) : W p l e R s m args below meth c H locs cells slots Q (F0 m pc ls (.int n :: rest)) := by
  obtain ⟨⟨hx, hb, hml, hown, hts⟩, hK, hNs⟩ := C
  have hz := Z.2.1
  subst hN
  refine W.anew hx hb hown (hts _ hcl) (va_AO.use hNs.2.1) rfl hdg rfl hn hbytes hcells hslots fun cA kA comp f1 f2 f3 f4 => ?_
  generalize hH1 : H.push ({ cls := cA, slots := Array.replicate n.toNatClampNeg .null, vm := .none } : Cell) = H1
  have z1 : H1.size = H.size + 1 := by rw [← hH1, Array.size_push]
  have e1 : H1[H.size]? = some (arrV cA n.toNatClampNeg (fun _ => .null)) := by rw [← hH1, Array.getElem?_push_size, ← arrV_new]
  have o1 : ∀ q, q < H.size → H1[q]? = H[q]? := fun q hq => by rw [← hH1, Array.getElem?_push, if_neg (Nat.ne_of_lt hq)]
  obtain ⟨kA2, comp2, g1, g2, g3, g4⟩ := (hK.2 2 (κ 2, .object "MovedLines$Edition") rfl).2
  have e3 : cA = κ 2 := Option.some.inj (f1.symm.trans g4)
  subst e3
  rw [hz] at e1 z1 o1 ⊢
  refine kk H1 (Z.grow (Nat.lt_succ_self hi) z1 o1 (fun k h1 h2 => ?_))
  rw [show k = hi by omega, hE]
  show H1[κ 4 + hi]? = some (vp_cell _ _)
  rw [vp_cell_q]
  exact e1
/-- new int[N'][K']: the row of rows at hi, its rows behind it -/
theorem yk_mna (C : yy_C D κ p m c cc nL s args own) (Z : yk_Z D κ A H0 o ci fs E hi H locs) {n k : Int32} {N' K' index : Nat} (hcl : Cond.classLink own index "[[I" ∈ gT) (harr : Cond.arrayClass .int ∈ gT) (hn : ¬ n < 0) (hk : ¬ k < 0) (hN : n.toNatClampNeg = N') (hM : k.toNatClampNeg = K') (hb1 : N' * 4 ≤ 536870912) (hb2 : K' * componentBytes .int ≤ 536870912) (hb3 : K' ≤ 536870912)
    (hE0 : E hi = .inl (κ 3, N', .inr (.inr (.inr (.inr (fun i => if i < N' then some (κ 4 + (hi + 1 + i)) else none)))))) (hE1 : ∀ j, j < N' → E (hi + 1 + j) = .inl (κ 0, K', .inl (fun _ => 0)))
    (hcells : cells + (1 + N') ≤ R.cells) (hslots : slots + (N' + N' * K') ≤ R.slots) (hdg : decode cc pc = .ok (.multianewarray index 2, 4))
    (kk : ∀ H1 : Heap, yk_Z D κ A H0 o ci fs E (hi + (1 + N')) H1 locs → W p l e R s m args below meth c H1 locs (cells + 1 + N') (slots + N' + N' * K') Q (F0 m (pc + 4) ls (.ref (κ 4 + hi) :: rest))) : W p l e R s m args below meth c H locs cells slots Q (F0 m pc ls (.int k :: .int n :: rest)) := by
  obtain ⟨⟨hx, hb, hml, hown, hts⟩, hK, hNs⟩ := C
  have hz := Z.2.1
  subst hN
  subst hM
  intro T hT Xs
  obtain ⟨vm₁, cA, comp, -, fA, fC, hO, -, X', step⟩ := Xs.multianewarray2F hx (ty := .int) hown (hts _ hcl) (va_AOA.use hNs.2.2.1) (hts _ harr) (g := F0 m pc ls (.int k :: .int n :: rest)) rfl (by rw [hb]; exact hdg) rfl hn hk hb1 hb2 hb3 rfl rfl hcells hslots
  have ec : comp = κ 0 := Option.some.inj (fC.symm.trans (show s.vm.findClass (FieldType.array .int).toString = some (κ 0) from (hK.2 0 (κ 0, .int) rfl).2))
  subst ec
  have ea : cA = κ 3 := Option.some.inj (fA.symm.trans (show s.vm.findClass ("[" ++ (FieldType.array .int).toString) = some (κ 3) from (hK.2 3 (κ 3, .array .int) rfl).2))
  subst ea
  generalize hF : Jvm.Free.Multi.fill (T.setVm vm₁) (κ 3) (κ 0) n.toNatClampNeg k.toNatClampNeg (defaultValue .int) n.toNatClampNeg = F at X' step
  have hTh : (T.setVm vm₁).heap = H := hT
  obtain ⟨f1, f2, -, -⟩ := Jvm.Free.Multi.fill_facts (T.setVm vm₁) (κ 3) (κ 0) n.toNatClampNeg k.toNatClampNeg (defaultValue .int) n.toNatClampNeg
  rw [hF, hTh] at f1 f2
  have hold : ∀ x : Nat, x < H.size → F.heap[x]? = H[x]? := fun x hx => by
    have := Jvm.Free.Multi.fill_old (T.setVm vm₁) (κ 3) (κ 0) n.toNatClampNeg k.toNatClampNeg (defaultValue .int) (a := x) (by rw [hTh]; exact hx) n.toNatClampNeg
    rw [hF, hTh] at this
    exact this
  have hrow : ∀ j : Nat, j < n.toNatClampNeg → F.heap[H.size + 1 + j]? = some (vp_cell (κ 0) (k.toNatClampNeg, .inl (fun _ => 0))) := fun j hj => by
    have := Jvm.Free.Multi.fill_inner (T.setVm vm₁) (κ 3) (κ 0) n.toNatClampNeg k.toNatClampNeg (defaultValue .int) n.toNatClampNeg j hj
    rw [hF, hTh] at this
    rw [this]
    exact congrArg some (arrV_new (κ 0) k.toNatClampNeg (.int 0))
  have hout : Jvm.Free.Multi.outerC (κ 3) n.toNatClampNeg H.size n.toNatClampNeg = vp_cell (κ 3) (n.toNatClampNeg, .inr (.inr (.inr (.inr (fun i => if i < n.toNatClampNeg then some (H.size + 1 + i) else none))))) := by
    rw [vp_cell_q]
    exact vr_outer (κ 3) n.toNatClampNeg H.size n.toNatClampNeg
  rw [hout] at f2
  have Z1 : yk_Z D κ A H0 o ci fs E (hi + (1 + n.toNatClampNeg)) F.heap locs := by
    refine Z.grow (by omega) (by rw [f1, hz]; omega) (fun q hq => hold q (by rw [hz]; exact hq)) (fun j h1 h2 => ?_)
    by_cases hj : j = hi
    · subst hj
      rw [hE0]
      show F.heap[κ 4 + j]? = some (vp_cell _ _)
      have hfn : (fun i => if i < n.toNatClampNeg then some (H.size + 1 + i) else none) = (fun i => if i < n.toNatClampNeg then some (κ 4 + (j + 1 + i)) else none) := by
        funext i
        by_cases hi : i < n.toNatClampNeg
        · simp only [hi, if_true]; congr 1; omega
        · simp only [hi, if_false]
      rw [hfn] at f2
      rw [← hz]
      exact f2
    · have := hrow (j - hi - 1) (by omega)
      rw [show H.size + 1 + (j - hi - 1) = κ 4 + j by omega] at this
      have he := hE1 (j - hi - 1) (by omega)
      rw [show hi + 1 + (j - hi - 1) = j by omega] at he
      rw [he]
      exact this
  obtain ⟨t, a1, b1⟩ := kk F.heap Z1 F rfl X'
  rw [show T.heap.size = κ 4 + hi by rw [hT, hz]] at step
  exact ⟨t, step t a1, b1⟩
end YK
