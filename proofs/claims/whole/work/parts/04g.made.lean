/-! ARRAYS THAT A METHOD MAKES FOR ITSELF: they stand ahead of the others in ext; their contents are values of the program -/
def yy_wL {α : Type} (g : Nat → Int32) (n : Nat) (i x : Int32) (K : (Nat → Int32) → yy_M α) : yy_M α := fun τ => if yy_in i n = true then K (upd g i.toNatClampNeg x) τ else none
/-- cells that the reference's going into a range may make -/
def yy_gN (a b c e : Int32) : Nat := 4 * min (b.toInt - a.toInt).toNat (e.toInt - c.toInt).toNat + 2
theorem yy_gN_2 (a b c e : Int32) : 2 ≤ yy_gN a b c e := by unfold yy_gN; omega
theorem yy_Z.tail {D : va_G} {κ : Nat → Nat} {x : Nat × va_E} {ext : va_W} {A : Nat → Prop} {H0 : Heap} {τ : yy_T} {H : Heap} {locs : List Loc} (Z : yy_Z D κ (x :: ext) A H0 τ H locs) : yy_Z D κ ext A H0 τ H locs := by
  obtain ⟨hP, hD, hS, hA⟩ := Z
  have key : ∀ (k : Nat) (q : Nat × va_E), (yy_lay κ τ ++ ext)[k]? = some q → (yy_lay κ τ ++ (x :: ext))[if k < 124 then k else k + 1]? = some q := by
    intro k q hq
    by_cases hk : k < 124
    · rw [if_pos hk, List.getElem?_append_left (by rw [yy_lay_len]; exact hk)]
      rw [List.getElem?_append_left (by rw [yy_lay_len]; exact hk)] at hq
      exact hq
    · rw [if_neg hk, List.getElem?_append_right (by rw [yy_lay_len]; omega), yy_lay_len, show k + 1 - 124 = (k - 124) + 1 by omega, List.getElem?_cons_succ]
      rw [List.getElem?_append_right (by rw [yy_lay_len]; omega), yy_lay_len] at hq
      exact hq
  refine ⟨fun k q hq => hP _ q (key k q hq), ⟨fun i j a b ha hb hab => ?_, fun k q hq => hD.2 _ q (key k q hq)⟩, hS, hA⟩
  have := hD.1 _ _ a b (key i a ha) (key j b hb) hab
  by_cases h1 : i < 124 <;> by_cases h2 : j < 124 <;> simp only [h1, h2, if_true, if_false] at this <;> omega
section YT
variable {p : Program} {l : Launch} {e : Env} {R : Room} {s : State} {m : MethodId} {args : Array Value} {below : List Frame} {meth : Method} {c : Code} {H : Heap} {locs : List Loc} {cells slots : Nat} {Q : State → Prop}
variable {cc : ByteArray} {nL pc : Nat} {own : String} {ls : Array Slot} {rest : List Value} {D : va_G} {κ : Nat → Nat} {ext : va_W} {A : Nat → Prop} {H0 : Heap} {τ : yy_T} {α : Type} {res : α × yy_T}
theorem yy_newI (C : yy_C D κ p m c cc nL s args own) (Z : yy_Z D κ ext A H0 τ H locs) {n : Int32} {N' : Nat} (harr : Cond.arrayClass .int ∈ gT) (hn : ¬ n < 0) (hN : n.toNatClampNeg = N') (hbytes : N' * componentBytes .int ≤ 536870912) (hcells : cells + 1 ≤ R.cells) (hslots : slots + N' ≤ R.slots) (hdg : decode cc pc = .ok (.newarray .int, 2))
    (kk : ∀ (q : Nat) (H1 : Heap), yy_Z D κ ((q, .inl (κ 0, N', .inl (fun _ => 0))) :: ext) A H0 τ H1 locs → W p l e R s m args below meth c H1 locs (cells + 1) (slots + N') Q (F0 m (pc + 2) ls (.ref q :: rest))) : W p l e R s m args below meth c H locs cells slots Q (F0 m pc ls (.int n :: rest)) := by
  obtain ⟨⟨hx, hb, hml, hown, hts⟩, hK, hNs⟩ := C
  obtain ⟨hP, hD, hS, hA⟩ := Z
  refine va_newa (atype := .int) (ty := .int) (a0 := (N', .inl (fun _ => 0))) hx hb (hts _ harr) rfl hK hP hD hS hA (fun cA => rfl) hn hN hbytes hcells hslots hdg (fun q cA H1 hK1 hP1 hD1 hS1 => ?_)
  have e1 : s.vm.findClass ("[" ++ FieldType.int.toString) = some cA := (hK1.2 (yy_tys κ).length (cA, .int) (by rw [List.getElem?_append_right (Nat.le_refl _), Nat.sub_self]; rfl)).2
  have e2 : s.vm.findClass ("[" ++ FieldType.int.toString) = some (κ 0) := (hK.2 0 (κ 0, .int) rfl).2
  have e3 : cA = κ 0 := Option.some.inj (e1.symm.trans e2)
  subst e3
  have hP2 := hP1.swap
  have hD2 := hD1.swap
  rw [List.append_assoc] at hP2 hD2
  exact kk q H1 ⟨hP2, hD2, hS1, hA⟩
theorem yy_ext_at {k : Nat} : (yy_lay κ τ ++ ext)[124 + k]? = ext[k]? := by
  rw [List.getElem?_append_right (by rw [yy_lay_len]; omega), yy_lay_len, Nat.add_sub_cancel_left]
theorem yy_ext_set {k : Nat} {x : Nat × va_E} : (yy_lay κ τ ++ ext).set (124 + k) x = yy_lay κ τ ++ ext.set k x := by
  rw [List.set_append_right _ _ (by rw [yy_lay_len]; omega), yy_lay_len, Nat.add_sub_cancel_left]
theorem yy_tald (C : yy_C D κ p m c cc nL s args own) (Z : yy_Z D κ ext A H0 τ H locs) (k : Nat) {q n : Nat} {g : Nat → Int32} (hk : ext[k]? = some (q, .inl (κ 0, n, .inl g))) {i : Int32} (hdg : decode cc pc = .ok (.iaload, 1)) {K : Int32 → yy_M α} (h : yy_rL g n i K τ = some res)
    (kk : ∀ v : Int32, K v τ = some res → W p l e R s m args below meth c H locs cells slots Q (F0 m (pc + 1) ls (.int v :: rest))) : W p l e R s m args below meth c H locs cells slots Q (F0 m pc ls (.int i :: .ref q :: rest)) := by
  obtain ⟨⟨hx, hb, hml, hown, hts⟩, hK, hNs⟩ := C
  obtain ⟨hP, hD, hS, hA⟩ := Z
  unfold yy_rL at h
  by_cases hi : yy_in i n = true
  · rw [if_pos hi] at h
    exact va_iald hx hb hK hP (124 + k) 0 (by rw [yy_ext_at]; exact hk) rfl (yy_in_vp hi) hdg (kk _ h)
  · rw [if_neg hi] at h
    cases h
theorem yy_tast (C : yy_C D κ p m c cc nL s args own) (Z : yy_Z D κ ext A H0 τ H locs) (k : Nat) {q n : Nat} {g : Nat → Int32} (hk : ext[k]? = some (q, .inl (κ 0, n, .inl g))) {i x : Int32} (hdg : decode cc pc = .ok (.iastore, 1)) {K : (Nat → Int32) → yy_M α} (h : yy_wL g n i x K τ = some res)
    (kk : ∀ (g1 : Nat → Int32) (H1 : Heap) (locs1 : List Loc), yy_Z D κ (ext.set k (q, .inl (κ 0, n, .inl g1))) A H0 τ H1 locs1 → K g1 τ = some res → W p l e R s m args below meth c H1 locs1 cells slots Q (F0 m (pc + 1) ls rest)) : W p l e R s m args below meth c H locs cells slots Q (F0 m pc ls (.int x :: .int i :: .ref q :: rest)) := by
  obtain ⟨⟨hx, hb, hml, hown, hts⟩, hK, hNs⟩ := C
  obtain ⟨hP, hD, hS, hA⟩ := Z
  unfold yy_wL at h
  by_cases hi : yy_in i n = true
  · rw [if_pos hi] at h
    refine va_iast hx hb hK hP hD hS (124 + k) 0 (by rw [yy_ext_at]; exact hk) rfl (yy_in_vp hi) hdg (fun H1 locs1 hP1 hD1 hS1 => ?_)
    rw [yy_ext_set] at hP1 hD1
    exact kk _ H1 locs1 ⟨hP1, hD1, hS1, hA⟩ h
  · rw [if_neg hi] at h
    cases h
end YT
