/-- an array class over an array type is there -/
def va_AOA (ty : FieldType) (U : State) : Prop := (Cond.arrayOver (.array ty)).before #[] U = true
theorem va_AOA.of {ty : FieldType} {A : Array Value} {U : State} (h : (Cond.arrayOver (.array ty)).before A U = true) : va_AOA ty U := h
theorem va_AOA.use {ty : FieldType} {A : Array Value} {U : State} (h : va_AOA ty U) : (Cond.arrayOver (.array ty)).before A U = true := h
theorem va_AOA.moved {t : FieldType} {u U : State} (hvm : u.vm.Alike U.vm) (h : va_AOA t u) : va_AOA t U := by
  have h0 : (Cond.arrayOver (.array t)).before #[] u = true := h
  simp only [Cond.before, Cond.holds, Cond.value, beq_iff_eq] at h0
  cases hc : u.vm.findClass (FieldType.array t).toString with
  | none => simp [hc] at h0
  | some comp =>
    simp only [hc, Option.bind_some, Option.bind_eq_some_iff, Option.map_eq_some_iff] at h0
    obtain ⟨c, hi, k, hk, hb⟩ := h0
    have hbare : U.vm.bare = u.vm.bare := by first | exact hvm.bare_eq | exact hvm.bare_eq.symm
    have hU : (U.vm.classes.findIdx? fun (x : Class) => match x.kind with | .array component _ => component == comp | _ => false) = some c :=
      (va_idx_bare U.vm comp).symm.trans ((congrArg (fun v : Vm => v.classes.findIdx? fun (x : Class) => match x.kind with | .array component _ => component == comp | _ => false) hbare).trans ((va_idx_bare u.vm comp).trans hi))
    obtain ⟨k', hk', he⟩ := hvm.2.2 _ _ hk
    have hkk : k'.kind = k.kind := by rw [he]
    have f1 : U.vm.findClass (FieldType.array t).toString = some comp := by rw [hvm.findClass]; exact hc
    unfold va_AOA Cond.before Cond.holds
    simp only [Cond.value]
    rw [f1, Option.bind_some]
    refine (congrArg (fun o : Option Nat => (o.bind (fun c => (U.vm.classes[c]?).map fun (k : Class) => match k.kind with | .array _ ty => decide (ty = FieldType.array t) && decide (U.vm.findClass ("[" ++ (FieldType.array t).toString) = some c) | _ => false) == some true)) hU).trans ?_
    rw [Option.bind_some, hk', Option.map_some, hkk, hvm.findClass]
    exact beq_iff_eq.mpr (congrArg some hb)
