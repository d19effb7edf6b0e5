/-! THE LAW'S START: two objects and a row of one long -/
def yl_Z (D : va_G) (κ : Nat → Nat) (A : Nat → Prop) (H0 : Heap) (hi : Nat) (H : Heap) (locs : List Loc) : Prop := (∀ k, k < hi → va_at D yy_cls (κ 4 + k, yk_E κ k) H) ∧ H.size = κ 4 + hi ∧ va_S A H0 H locs
section
variable {p : Program} {l : Launch} {e : Env} {R : Room} {s : State} {m : MethodId} {args : Array Value} {below : List Frame} {meth : Method} {c : Code} {H : Heap} {locs : List Loc} {cells slots : Nat} {Q : State → Prop}
variable {cc : ByteArray} {nL pc : Nat} {own : String} {ls : Array Slot} {rest : List Value} {D : va_G} {κ : Nat → Nat} {A : Nat → Prop} {H0 : Heap} {hi : Nat}
variable {y : MethodName} {bytes : ByteArray} {maxL mc ms n N index ic cj : Nat} {rm : Room} {Cn : String} {T : u_T} {ty0 : Nat → FieldType} {gs : List Value}
theorem yl_ni (C : yy_C D κ p m c cc nL s args own) (Z : yl_Z D κ A H0 hi H locs) (hA : ∀ q : Nat, κ 4 ≤ q → A q) (hc : yy_cls[cj]? = some (Cn, T, N)) (hin : ∀ w ∈ u_ws Cn T N, w ∈ gT) (hty : ∀ k, k < N → parseFieldDescriptor (T k).2.2.1 = some (ty0 k)) (hgs : ∀ j, j < N → defaultValue (ty0 j) = vp_V gs j) (hcl : Cond.classLink own index Cn ∈ gT) (hw : yk_w Cn N y bytes maxL) (hM : yk_M l D κ y bytes maxL rm hi cj gs n mc ms) (hlink : Cond.methodLink own ic y ∈ gT)
    (hrm : rm.cells = mc ∧ rm.slots = ms) (hR : rm.frames + 1 ≤ R.frames ∧ 8 + (maxL + 11) + rm.locals ≤ R.locals) (hcs : cells + 1 + mc ≤ R.cells ∧ slots + N + ms ≤ R.slots) (hls : ls.size = nL) (hW : ((Value.ref (κ 4 + hi) :: rest).map fun v => v.category).sum ≤ 8)
    (d0 : decode cc pc = .ok (.new index, 3)) (d1 : decode cc (pc + 3) = .ok (.dup, 1)) (d2 : decode cc (pc + 4) = .ok (.invokespecial ic, 3))
    (kk : ∀ (H1 : Heap) (locs1 : List Loc), yl_Z D κ A H0 (hi + n) H1 locs1 → W p l e R s m args below meth c H1 locs1 (cells + 1 + mc) (slots + N + ms) Q (F0 m (pc + 7) ls (.ref (κ 4 + hi) :: rest))) : W p l e R s m args below meth c H locs cells slots Q (F0 m pc ls rest) := by
  obtain ⟨hC, hK⟩ := C
  obtain ⟨hP, hz, hS⟩ := Z
  obtain ⟨⟨w1, w2, w3, w4⟩, hy1, hd⟩ := hw
  have hts := hC.2.2.2.2
  have hKn := hK.1.1 cj _ hc
  refine W.newcK hC.1 hC.2.1 hC.2.2.2.1 (hts _ hcl) (hts _ w1) (hts _ w2) rfl d0 (by omega) (by omega) hKn.2.1 hz fun H1 kC hkC e1 z1 o1 => ?_
  have hnew : va_at D yy_cls (κ 4 + hi, .inr (cj, gs)) H1 := ⟨_, hc, (u_born ty0 hts hin hKn hkC e1 hty).to hgs⟩
  refine lv_dup hC.1 hC.2.1 d1 rfl ?_
  have hG : GoodIn gT (Cond.code y bytes maxL none :: gT) := yy_goodT (by
    intro w hw
    rcases List.mem_cons.mp hw with rfl | hw
    · exact w4
    · exact hw)
  have hS1 : va_S A H0 H1 locs := ⟨by have := hS.1; omega, fun q h1 h2 => (o1 q (by have := hS.1; omega)).trans (hS.2.1 q h1 h2), hS.2.2⟩
  have hrun : va_Run p l e R s m args below meth c H1 locs (cells + 1) (slots + N) mc ms (F0 m (pc + 4) ls (.ref (κ 4 + hi) :: .ref (κ 4 + hi) :: rest)) (.ref (κ 4 + hi) :: rest) (yk_Q D κ hi n [Value.ref (κ 4 + hi)].toArray) (fun q => κ 4 + hi ≤ q) :=
    va_runI (As := []) (rest := .ref (κ 4 + hi) :: rest) hC hM (cwI 0 hts hG rfl hrm.1 hrm.2 (by rw [hd.1]; exact hts _ w2) (hts _ hlink) (hts _ w3) hy1 hd.2 hR) ⟨yk_Pre.blind, fun U hU hW => ⟨rfl, by rw [hU, z1], by rw [hU]; exact hnew, hK.warm hW⟩⟩ rfl rfl hls rfl (lv_room hW) d2 hcs
  refine va_callv hrun hS1 (fun q _ h => hA q (by omega)) (fun q h => hA q (by omega)) (fun u t H2 locs2 ht hvm hw hB hz1 hk1 hS2 => ?_)
  obtain ⟨hsz, hcells2⟩ := hB
  rw [ht] at hsz
  have o2 : ∀ q, q < κ 4 + hi → H2[q]? = H[q]? := fun q hq => (hk1 q (by rw [z1]; omega) (by omega)).trans (o1 q hq)
  refine kk H2 locs2 ⟨fun k hk => ?_, hsz, hS2⟩
  by_cases h9 : k < hi
  · exact (hP k h9).kept (o2 _ (by show κ 4 + k < _; omega))
  · rw [← ht]
    exact hcells2 k (by omega) hk
theorem yl_all {ext : va_W} (Z : yl_Z D κ A H0 124 H locs) (hA : ∀ q : Nat, κ 4 ≤ q → A q) (hA0 : ∀ q : Nat, H0.size ≤ q → A q) : yy_Z D κ [] A H0 yy_t0 H locs := by
  obtain ⟨hP, hz, hS⟩ := Z
  have key : ∀ (k : Nat) (q : Nat × va_E), (yy_lay κ yy_t0 ++ [])[k]? = some q → k < 124 ∧ q = (κ 4 + k, yk_E κ k) := by
    intro k q hq
    have hk : k < 124 := by
      have := (List.getElem?_eq_some_iff.mp hq).1
      rw [List.length_append, yy_lay_len] at this
      exact this
    rw [yy_lay_at hk] at hq
    exact ⟨hk, (Option.some.inj hq).symm⟩
  refine ⟨fun k q hq => ?_, ⟨fun i j a b ha hb hab => ?_, fun k q hq => ?_⟩, hS, hA0⟩
  · obtain ⟨hk, rfl⟩ := key k q hq
    exact hP k hk
  · obtain ⟨hi, rfl⟩ := key i a ha
    obtain ⟨hj, rfl⟩ := key j b hb
    have : κ 4 + i = κ 4 + j := hab
    omega
  · obtain ⟨hk, rfl⟩ := key k q hq
    exact hA _ (Nat.le_add_right _ _)
end
