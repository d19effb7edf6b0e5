section YN
variable {p : Program} {l : Launch} {e : Env} {R : Room} {s : State} {m : MethodId} {args : Array Value} {below : List Frame} {meth : Method} {c : Code} {H : Heap} {locs : List Loc} {cells slots : Nat} {Q : State → Prop}
variable {cc : ByteArray} {nL pc : Nat} {own : String} {ls : Array Slot} {rest : List Value} {D : va_G} {κ : Nat → Nat} {A : Nat → Prop} {H0 : Heap} {o ci hi : Nat} {fs : List Value} {E : Nat → va_E}
theorem yk_obj (C : yy_C D κ p m c cc nL s args own) {idx a : Nat} (hlink : Cond.methodLink own idx Lib.objectInit ∈ gT) (hinst : Cond.instanceMethod Lib.objectInit ∈ gT) (hcode : Cond.code Lib.objectInit ⟨#[0xb1]⟩ 1 none ∈ gT) (hls : ls.size = nL) (hd : decode cc pc = .ok (.invokespecial idx, 3)) (hframes : 1 ≤ R.frames) (hlocals : 2 * 0 + (rest.map fun v => v.category).sum + 12 ≤ R.locals)
    (kk : W p l e R s m args below meth c H locs cells slots Q (F0 m (pc + 3) ls rest)) : W p l e R s m args below meth c H locs cells slots Q (F0 m pc ls (.ref a :: rest)) := by
  obtain ⟨⟨hx, hb, hml, hown, hts⟩, hK, hNs⟩ := C
  exact W.objInit hx hb hown (hts _ hlink) (hts _ hinst) (hts _ hcode) rfl (by rw [hml]; exact hls) rfl hd hframes hlocals kk
theorem yk_get (C : yy_C D κ p m c cc nL s args own) (Z : yk_Z D κ A H0 o ci fs E hi H locs) {k N index : Nat} {T : u_T} {v : Value} (hc : yy_cls[ci]? = some (own, T, N)) (hin : ∀ w ∈ u_ws own T N, w ∈ gT) (hk : k < N) (hT : (T k).1 = own) (hlink : Cond.fieldLink own index own (T k).2.1 (T k).2.2.1 ∈ gT) (hv : fs[k]? = some v) (hdg : decode cc pc = .ok (.getfield index, 3))
    (kk : W p l e R s m args below meth c H locs cells slots Q (F0 m (pc + 3) ls (v :: rest))) : W p l e R s m args below meth c H locs cells slots Q (F0 m pc ls (.ref (κ 4 + o) :: rest)) := by
  obtain ⟨⟨hx, hb, hml, hown, hts⟩, hK, hNs⟩ := C
  exact va_get (D := D) hx hb hts hin hown hK Z.1 0 rfl hc k hk (hts _ hlink) (fun _ h => by rw [hT] at h; exact h) hv hdg kk
/-- a reference into a row of references -/
theorem yk_aast (C : yy_C D κ p m c cc nL s args own) (Z : yk_Z D κ A H0 o ci fs E hi H locs) {g id n : Nat} {f : Nat → Option Nat} {vs : List Value} (g1 : o < g) (g2 : g < hi) (hEg : E g = .inl (κ 2, n, .inr (.inr (.inr (.inr f))))) (i1 : o < id) (i2 : id < hi) (hEi : E id = .inr (2, vs)) {i : Int32} (hin : vp_in i n) (hdg : decode cc pc = .ok (.aastore, 1))
    (kk : ∀ (H1 : Heap) (locs1 : List Loc), yk_Z D κ A H0 o ci fs (va_up E g (.inl (κ 2, n, .inr (.inr (.inr (.inr (va_up f i.toNatClampNeg (some (κ 4 + id)))))))) ) hi H1 locs1 → W p l e R s m args below meth c H1 locs1 cells slots Q (F0 m (pc + 1) ls rest)) : W p l e R s m args below meth c H locs cells slots Q (F0 m pc ls (.ref (κ 4 + id) :: .int i :: .ref (κ 4 + g) :: rest)) := by
  obtain ⟨⟨hx, hb, hml, hown, hts⟩, hK, hNs⟩ := C
  have hlt : i.toNatClampNeg < n := Nat.not_le.mp fun q => hin (Or.inr q)
  have h0 : ¬ i < 0 := fun q => hin (Or.inl q)
  have Zc := Z
  obtain ⟨hP, hz, hol, hS, hA⟩ := Z
  have ha := Zc.cell g1 g2
  rw [hEg] at ha
  have hv := Zc.cell i1 i2
  rw [hEi] at hv
  obtain ⟨r', hr', cellV, k1, k2, k3, -⟩ := hv
  have hcls := (hK.1 2 _ rfl).2
  obtain ⟨kA, comp, t1, t2, t3, -⟩ := (hK.2 2 (κ 2, .object "MovedLines$Edition") rfl).2
  have hcomp : comp = D.1 2 := Option.some.inj (t3.symm.trans hcls.1)
  subst hcomp
  obtain ⟨kC, hkC, -⟩ := hcls.2
  refine W.aast hx hb ha (fun q h => by cases h) (fun h => by cases h) t1 t2 rfl hkC ⟨h0, by show _ < (arrV _ _ _).slots.size; rw [arrV_size]; exact hlt⟩ k1 (fun q h => by rw [k3] at h; cases h) (by rw [k2]; exact hkC) (by rw [k2]; exact va_assign hcls) rfl rfl hdg fun H1 e z oq => ?_
  refine kk H1 _ ⟨yk_ws_P (Zc.own.kept (oq _ (by show κ 4 + o ≠ κ 4 + g; omega))) (fun k h1 h2 => ?_), by rw [z]; exact hz, hol, hS.put z oq (hA _ (by omega)), hA⟩
  by_cases hk : k = g
  · subst hk
    show va_at D yy_cls (κ 4 + k, va_up E k _ k) H1
    have : va_up E k (.inl (κ 2, n, .inr (.inr (.inr (.inr (va_up f i.toNatClampNeg (some (κ 4 + id)))))))) k = .inl (κ 2, n, .inr (.inr (.inr (.inr (va_up f i.toNatClampNeg (some (κ 4 + id))))))) := if_pos rfl
    rw [this]
    show H1[κ 4 + k]? = some (vp_cell _ _)
    rw [e]
    rw [vp_cell_q, vp_cell_q, arrV_store]
    congr 2
    funext q
    by_cases hq : q = i.toNatClampNeg
    · subst hq
      simp [updV, va_up, va_rf]
    · simp [updV, va_up, hq]
  · have : va_up E g (.inl (κ 2, n, .inr (.inr (.inr (.inr (va_up f i.toNatClampNeg (some (κ 4 + id)))))))) k = E k := if_neg hk
    rw [this]
    exact (Zc.cell h1 h2).kept (oq _ (by show κ 4 + k ≠ κ 4 + g; omega))
theorem yk_ret {n mc ms : Nat} (C : yy_C D κ p m c cc nL s args own) (Z : yk_Z D κ (fun q => κ 4 + o ≤ q) s.heap o ci fs E hi H locs) (hr : meth.sig.returnType = none) (hlk : meth.locks = false) (hfs : yk_E κ o = .inr (ci, fs)) (hE : ∀ k, o < k → k < hi → E k = yk_E κ k) (hhi : hi = o + n) (hdg : decode cc pc = .ok (.return_, 1)) : W p l e R s m args below meth c H locs mc ms (MQ below (yk_Q D κ o n) args s mc ms (fun q => κ 4 + o ≤ q)) (F0 m pc ls []) := by
  obtain ⟨⟨hx, hb, hml, hown, hts⟩, hK, hNs⟩ := C
  have Zc := Z
  obtain ⟨hP, hz, hol, hS, hA⟩ := Z
  refine W.vret hx hb hr (fun t ht hW => ⟨⟨(), rfl, trivial, by rw [ht, hz, hhi], fun k h1 h2 => ?_⟩, hS.F ht⟩) hS.2.2 hdg
  rw [ht]
  by_cases hk : k = o
  · subst hk
    rw [hfs]
    exact Zc.own
  · rw [← hE k (by omega) (by omega)]
    exact Zc.cell (by omega) (by omega)
variable {y : MethodName} {bytes : ByteArray} {maxL mc ms n N index ic cj : Nat} {rm : Room} {Cn : String} {T : u_T} {ty0 : Nat → FieldType} {gs : List Value}
/-- what a class and its constructor's words say -/
def yk_w (Cn : String) (N : Nat) (y : MethodName) (bytes : ByteArray) (maxL : Nat) : Prop := (Cond.instantiable Cn N ∈ gT ∧ Cond.initialized Cn ∈ gT ∧ Cond.instanceMethod y ∈ gT ∧ Cond.code y bytes maxL none ∈ gT) ∧ y.name = "<init>" ∧ y.cls = Cn ∧ y.cls ≠ "java/lang/invoke/MethodHandle" ∧ y.cls ≠ "java/lang/invoke/VarHandle" ∧ (parseMethodDescriptor y.desc).map (fun d => d.parameters.length) = some 0
theorem yk_ni (C : yy_C D κ p m c cc nL s args own) (Z : yk_Z D κ A H0 o ci fs E hi H locs) (hc : yy_cls[cj]? = some (Cn, T, N)) (hin : ∀ w ∈ u_ws Cn T N, w ∈ gT) (hty : ∀ k, k < N → parseFieldDescriptor (T k).2.2.1 = some (ty0 k)) (hgs : ∀ j, j < N → defaultValue (ty0 j) = vp_V gs j) (hcl : Cond.classLink own index Cn ∈ gT) (hw : yk_w Cn N y bytes maxL) (hM : yk_M l D κ y bytes maxL rm hi cj gs n mc ms) (hlink : (own, ic, y) ∈ yy_nest ∨ Cond.methodLink own ic y ∈ gT)
    (hE : ∀ k, hi ≤ k → k < hi + n → E k = yk_E κ k) (hn : 0 < n) (hrm : rm.cells = mc ∧ rm.slots = ms) (hR : rm.frames + 1 ≤ R.frames ∧ 8 + (maxL + 11) + rm.locals ≤ R.locals) (hcs : cells + 1 + mc ≤ R.cells ∧ slots + N + ms ≤ R.slots) (hls : ls.size = nL) (hW : ((Value.ref (κ 4 + hi) :: rest).map fun v => v.category).sum ≤ 8)
    (d0 : decode cc pc = .ok (.new index, 3)) (d1 : decode cc (pc + 3) = .ok (.dup, 1)) (d2 : decode cc (pc + 4) = .ok (.invokespecial ic, 3))
    (kk : ∀ (H1 : Heap) (locs1 : List Loc), yk_Z D κ A H0 o ci fs E (hi + n) H1 locs1 → W p l e R s m args below meth c H1 locs1 (cells + 1 + mc) (slots + N + ms) Q (F0 m (pc + 7) ls (.ref (κ 4 + hi) :: rest))) : W p l e R s m args below meth c H locs cells slots Q (F0 m pc ls rest) := by
  obtain ⟨hC, hK⟩ := C
  have Zc := Z
  obtain ⟨hP, hz, hol, hS, hA⟩ := Z
  obtain ⟨⟨w1, w2, w3, w4⟩, hy1, hd⟩ := hw
  have hts := hC.2.2.2.2
  have hKn := hK.1.1 cj _ hc
  refine W.newcK hC.1 hC.2.1 hC.2.2.2.1 (hts _ hcl) (hts _ w1) (hts _ w2) rfl d0 (by omega) (by omega) hKn.2.1 hz fun H1 kC hkC e1 z1 o1 => ?_
  have hnew : va_at D yy_cls (κ 4 + hi, .inr (cj, gs)) H1 := ⟨_, hc, (u_born ty0 hts hin hKn hkC e1 hty).to hgs⟩
  refine lv_dup hC.1 hC.2.1 d1 rfl ?_
  have hG : GoodIn gT (Cond.code y bytes maxL none :: gT) := yy_goodT (by
    intro w hw
    rcases List.mem_cons.mp hw with rfl | hw
    · exact w4
    · exact hw)
  have hS1 : va_S A H0 H1 locs := ⟨by have := hS.1; omega, fun q h1 h2 => (o1 q (by have := hS.1; omega)).trans (hS.2.1 q h1 h2), hS.2.2⟩
  have hrun : va_Run p l e R s m args below meth c H1 locs (cells + 1) (slots + N) mc ms (F0 m (pc + 4) ls (.ref (κ 4 + hi) :: .ref (κ 4 + hi) :: rest)) (.ref (κ 4 + hi) :: rest) (yk_Q D κ hi n [Value.ref (κ 4 + hi)].toArray) (fun q => κ 4 + hi ≤ q) := by
    rcases hlink with hlink | hlink
    · exact va_runIN (As := []) (rest := .ref (κ 4 + hi) :: rest) (host := "MovedLines") hC hM ⟨va_cnB 0 hts hG rfl hrm.1 hrm.2 (hK.2.1 _ hlink) (by rw [hd.1]; exact hts _ w2) hd.2 hR, hy1, hts _ w3⟩ ⟨yk_Pre.blind, fun U hU hW => ⟨rfl, by rw [hU, z1], by rw [hU]; exact hnew, hK.warm hW⟩⟩ rfl rfl hls rfl (lv_room hW) d2 hcs
    · exact va_runI (As := []) (rest := .ref (κ 4 + hi) :: rest) hC hM (cwI 0 hts hG rfl hrm.1 hrm.2 (by rw [hd.1]; exact hts _ w2) (hts _ hlink) (hts _ w3) hy1 hd.2 hR) ⟨yk_Pre.blind, fun U hU hW => ⟨rfl, by rw [hU, z1], by rw [hU]; exact hnew, hK.warm hW⟩⟩ rfl rfl hls rfl (lv_room hW) d2 hcs
  refine va_callv hrun hS1 (fun q _ h => hA q (by omega)) (fun q h => hA q (by omega)) (fun u t H2 locs2 ht hvm hw hB hz1 hk1 hS2 => ?_)
  obtain ⟨hsz, hcells2⟩ := hB
  rw [ht] at hsz
  have o2 : ∀ q, q < κ 4 + hi → H2[q]? = H[q]? := fun q hq => (hk1 q (by rw [z1]; omega) (by omega)).trans (o1 q hq)
  refine kk H2 locs2 ⟨yk_ws_P (Zc.own.kept (o2 _ (by show κ 4 + o < _; omega))) (fun k h1 h2 => ?_), hsz, by omega, hS2, hA⟩
  by_cases hk : k < hi
  · exact (Zc.cell h1 hk).kept (o2 _ (by show κ 4 + k < _; omega))
  · rw [hE k (by omega) h2, ← ht]
    exact hcells2 k (by omega) h2
end YN
