/-! THE WORLD OF A MEMORY, and the rows: an instruction, and what it asks of the program -/
def yy_lay (κ : Nat → Nat) (τ : yy_T) : va_W := (List.range 124).map (fun k => (κ 4 + k, yy_ent κ k (τ k)))
theorem yy_lay_len {κ : Nat → Nat} {τ : yy_T} : (yy_lay κ τ).length = 124 := by simp [yy_lay]
theorem yy_lay_at {κ : Nat → Nat} {τ : yy_T} {ext : va_W} {k : Nat} (h : k < 124) : (yy_lay κ τ ++ ext)[k]? = some (κ 4 + k, yy_ent κ k (τ k)) := by
  rw [List.getElem?_append_left (by rw [yy_lay_len]; exact h)]
  simp [yy_lay, h]
theorem yy_lay_set {κ : Nat → Nat} {τ : yy_T} {ext : va_W} {k : Nat} (h : k < 124) (f : Nat → Int32) : (yy_lay κ τ ++ ext).set k (κ 4 + k, yy_ent κ k f) = yy_lay κ (yy_ro τ k f) ++ ext := by
  rw [List.set_append_left _ _ (by rw [yy_lay_len]; exact h)]
  congr 1
  apply List.ext_getElem?
  intro i
  rw [List.getElem?_set]
  by_cases hi : k = i
  · subst hi
    rw [if_pos rfl, if_pos (by rw [yy_lay_len]; exact h)]
    simp [yy_lay, h, yy_ro]
  · rw [if_neg hi]
    by_cases hl : i < 124
    · have hi2 : ¬ i = k := fun q => hi q.symm
      simp [yy_lay, hl, yy_ro, hi2]
    · rw [List.getElem?_eq_none (by rw [yy_lay_len]; omega), List.getElem?_eq_none (by rw [yy_lay_len]; omega)]
def yy_nest : List (String × Nat × MethodName) := [("MovedLines", 9, ({ cls := "MovedLines$Tape", name := "<init>", desc := "()V" } : Jvm.MethodName)), ("MovedLines", 18, ({ cls := "MovedLines$Reader", name := "<init>", desc := "()V" } : Jvm.MethodName)), ("MovedLines$Reader", 11, ({ cls := "MovedLines$Edition", name := "<init>", desc := "()V" } : Jvm.MethodName)), ("MovedLines", 25, ({ cls := "MovedLines$Edition", name := "<init>", desc := "()V" } : Jvm.MethodName)), ("MovedLines$Past", 28, ({ cls := "MovedLines$Edition", name := "<init>", desc := "()V" } : Jvm.MethodName)), ("MovedLines", 45, ({ cls := "MovedLines$Comparer", name := "<init>", desc := "()V" } : Jvm.MethodName)), ("MovedLines$Comparer", 11, ({ cls := "MovedLines$Kinds", name := "<init>", desc := "()V" } : Jvm.MethodName)), ("MovedLines$Comparer", 20, ({ cls := "MovedLines$Keeper", name := "<init>", desc := "()V" } : Jvm.MethodName)), ("MovedLines$Comparer", 27, ({ cls := "MovedLines$CommonRow", name := "<init>", desc := "()V" } : Jvm.MethodName)), ("MovedLines", 52, ({ cls := "MovedLines$CommonRow", name := "<init>", desc := "()V" } : Jvm.MethodName)), ("MovedLines", 59, ({ cls := "MovedLines$Told", name := "<init>", desc := "()V" } : Jvm.MethodName)), ("MovedLines$Edition", 34, ({ cls := "MovedLines", name := "letterIn", desc := "(II)I" } : Jvm.MethodName))]
/-- what else the machine's tables say: rows of rows and of references, the exception's words, the two texts -/
def yy_X (U : State) : Prop := va_AO "MovedLines$Edition" U ∧ va_AOA .int U ∧ va_Nw (.castable "java/util/NoSuchElementException" "java/util/NoSuchElementException") U ∧ va_Nw (.declares ⟨"java/lang/RuntimeException", "<init>", "(Ljava/lang/String;)V"⟩) U ∧ va_Nw (.declares ⟨"java/lang/Exception", "<init>", "(Ljava/lang/String;)V"⟩) U ∧ va_Nw (.declares ⟨"java/lang/Throwable", "<init>", "(Ljava/lang/String;)V"⟩) U ∧ (∃ a, vk_R "MovedLines" 134 "no such line" a U) ∧ ∃ a, vk_R "MovedLines" 153 "no such thing to ask of a line" a U
theorem yy_X.warm {s U : State} (hW : s.WarmedH U.vm) (h : yy_X s) : yy_X U := by
  obtain ⟨h1, h2, h3, h4, h5, h6, ⟨a, h7⟩, b, h8⟩ := h
  exact ⟨va_AO.moved hW.alike h1, va_AOA.moved hW.alike h2, va_Nw.warmC hW h3, va_Nw.warmD hW h4, va_Nw.warmD hW h5, va_Nw.warmD hW h6, ⟨a, vk_R.warm hW h7⟩, b, vk_R.warm hW h8⟩
/-- what the worlds' tables are, and the links between nest mates -/
def yy_K (D : va_G) (κ : Nat → Nat) (U : State) : Prop := va_K D yy_cls (yy_tys κ) U ∧ (∀ q ∈ yy_nest, va_Nw (.methodLinkNest q.1 q.2.1 q.2.2 "MovedLines") U) ∧ yy_X U
theorem yy_K.warm {D : va_G} {κ : Nat → Nat} {s U : State} (hW : s.WarmedH U.vm) (h : yy_K D κ s) : yy_K D κ U := ⟨va_K.moved hW.alike h.1, fun q hq => va_Nw.warmM hW (h.2.1 q hq), h.2.2.warm hW⟩
theorem yy_K.same {D : va_G} {κ : Nat → Nat} {s U : State} (hv : s.vm = U.vm) (h : yy_K D κ s) : yy_K D κ U := h.warm (by rw [← hv]; exact State.WarmedH.refl s)
def yy_C (D : va_G) (κ : Nat → Nat) (p : Program) (m : MethodId) (c : Code) (cc : ByteArray) (nL : Nat) (s : State) (args : Array Value) (own : String) : Prop := CallFix p m c cc nL s args gT own ∧ yy_K D κ s
def yy_Z (D : va_G) (κ : Nat → Nat) (ext : va_W) (A : Nat → Prop) (H0 : Heap) (τ : yy_T) (H : Heap) (locs : List Loc) : Prop := va_P D yy_cls (yy_lay κ τ ++ ext) H ∧ va_D A (yy_lay κ τ ++ ext) ∧ va_S A H0 H locs ∧ ∀ q : Nat, H0.size ≤ q → A q
section YR
variable {p : Program} {l : Launch} {e : Env} {R : Room} {s : State} {m : MethodId} {args : Array Value} {below : List Frame} {meth : Method} {c : Code} {H : Heap} {locs : List Loc} {cells slots : Nat} {Q : State → Prop}
variable {cc : ByteArray} {nL pc : Nat} {own : String} {ls : Array Slot} {rest : List Value} {D : va_G} {κ : Nat → Nat} {ext : va_W} {A : Nat → Prop} {H0 : Heap} {τ : yy_T} {α : Type} {res : α × yy_T}
theorem yy_get (C : yy_C D κ p m c cc nL s args own) (Z : yy_Z D κ ext A H0 τ H locs) {id ci k N index : Nat} {Cn : String} {T : u_T} {fs : List Value} {v : Value} (hid : id < 124) (he : yy_ent κ id (τ id) = .inr (ci, fs)) (hc : yy_cls[ci]? = some (Cn, T, N)) (hin : ∀ w ∈ u_ws Cn T N, w ∈ gT) (hk : k < N) (hT : (T k).1 = Cn) (hlink : Cond.fieldLink own index Cn (T k).2.1 (T k).2.2.1 ∈ gT) (hv : fs[k]? = some v) (hdg : decode cc pc = .ok (.getfield index, 3))
    (kk : W p l e R s m args below meth c H locs cells slots Q (F0 m (pc + 3) ls (v :: rest))) : W p l e R s m args below meth c H locs cells slots Q (F0 m pc ls (.ref (κ 4 + id) :: rest)) := by
  obtain ⟨⟨hx, hb, hml, hown, hts⟩, hK, hN⟩ := C
  obtain ⟨hP, hD, hS, hA⟩ := Z
  exact va_get (D := D) hx hb hts hin hown hK hP id (by rw [yy_lay_at hid, he]) hc k hk (hts _ hlink) (fun _ h => by rw [hT] at h; exact h) hv hdg kk
theorem yy_put (C : yy_C D κ p m c cc nL s args own) (Z : yy_Z D κ ext A H0 τ H locs) {id ci k N index : Nat} {Cn : String} {T : u_T} {fs : List Value} {ty0 : Nat → FieldType} {ty : FieldType} {v : Int32} (hid : id < 124) (he : yy_ent κ id (τ id) = .inr (ci, fs)) (he2 : yy_ent κ id (upd (τ id) k v) = .inr (ci, fs.set k (.int v))) (hc : yy_cls[ci]? = some (Cn, T, N)) (hin : ∀ w ∈ u_ws Cn T N, w ∈ gT) (hty : ∀ k, k < N → parseFieldDescriptor (T k).2.2.1 = some (ty0 k)) (hnm : ∀ a, a < N → ∀ b, b < N → a ≠ b → (T a).2.1 ≠ (T b).2.1) (hk : k < N) (hT : (T k).1 = Cn) (hfin : (T k).2.2.2 = false) (hd : parseFieldDescriptor (T k).2.2.1 = some ty) (hn : narrow ty (.int v) = .int v) (hfit : fits ty (.int v) = true) (hl : k < fs.length) (hlink : Cond.fieldLink own index Cn (T k).2.1 (T k).2.2.1 ∈ gT) (hdg : decode cc pc = .ok (.putfield index, 3)) {K : yy_M α} (h : yy_wF id k v K τ = some res)
    (kk : ∀ (H1 : Heap) (locs1 : List Loc) (τ1 : yy_T), yy_Z D κ ext A H0 τ1 H1 locs1 → K τ1 = some res → W p l e R s m args below meth c H1 locs1 cells slots Q (F0 m (pc + 3) ls rest)) : W p l e R s m args below meth c H locs cells slots Q (F0 m pc ls (.int v :: .ref (κ 4 + id) :: rest)) := by
  obtain ⟨⟨hx, hb, hml, hown, hts⟩, hK, hN⟩ := C
  obtain ⟨hP, hD, hS, hA⟩ := Z
  refine va_put (D := D) (v := .int v) hx hb hts hin ty0 hty hnm hown hK hP hD hS id (by rw [yy_lay_at hid, he]) hc k hk (hts _ hlink) (fun _ h => by rw [hT] at h; exact h) hfin hd hn hfit hl hdg (fun H1 locs1 hP1 hD1 hS1 => ?_)
  rw [← he2, yy_lay_set hid] at hP1 hD1
  exact kk H1 locs1 _ ⟨hP1, hD1, hS1, hA⟩ h
theorem yy_iald (C : yy_C D κ p m c cc nL s args own) (Z : yy_Z D κ ext A H0 τ H locs) {a n : Nat} (ha : a ∈ yy_Ints) (hn : yy_len a = n) {i : Int32} (hdg : decode cc pc = .ok (.iaload, 1)) {K : Int32 → yy_M α} (h : yy_rA a n i K τ = some res)
    (kk : ∀ v : Int32, K v τ = some res → W p l e R s m args below meth c H locs cells slots Q (F0 m (pc + 1) ls (.int v :: rest))) : W p l e R s m args below meth c H locs cells slots Q (F0 m pc ls (.int i :: .ref (κ 4 + a) :: rest)) := by
  obtain ⟨⟨hx, hb, hml, hown, hts⟩, hK, hN⟩ := C
  obtain ⟨hP, hD, hS, hA⟩ := Z
  subst hn
  unfold yy_rA at h
  by_cases hi : yy_in i (yy_len a) = true
  · rw [if_pos hi] at h
    exact va_iald hx hb hK hP a 0 (by rw [yy_lay_at (yy_Ints_lt a ha), yy_ent_Ints ha]) rfl (yy_in_vp hi) hdg (kk _ h)
  · rw [if_neg hi] at h
    cases h
theorem yy_iast (C : yy_C D κ p m c cc nL s args own) (Z : yy_Z D κ ext A H0 τ H locs) {a n : Nat} (ha : a ∈ yy_Ints) (hn : yy_len a = n) {i x : Int32} (hdg : decode cc pc = .ok (.iastore, 1)) {K : yy_M α} (h : yy_wA a n i x K τ = some res)
    (kk : ∀ (H1 : Heap) (locs1 : List Loc) (τ1 : yy_T), yy_Z D κ ext A H0 τ1 H1 locs1 → K τ1 = some res → W p l e R s m args below meth c H1 locs1 cells slots Q (F0 m (pc + 1) ls rest)) : W p l e R s m args below meth c H locs cells slots Q (F0 m pc ls (.int x :: .int i :: .ref (κ 4 + a) :: rest)) := by
  obtain ⟨⟨hx, hb, hml, hown, hts⟩, hK, hN⟩ := C
  obtain ⟨hP, hD, hS, hA⟩ := Z
  subst hn
  unfold yy_wA at h
  by_cases hi : yy_in i (yy_len a) = true
  · rw [if_pos hi] at h
    refine va_iast hx hb hK hP hD hS a 0 (by rw [yy_lay_at (yy_Ints_lt a ha), yy_ent_Ints ha]) rfl (yy_in_vp hi) hdg (fun H1 locs1 hP1 hD1 hS1 => ?_)
    rw [← yy_ent_Ints ha, yy_lay_set (yy_Ints_lt a ha)] at hP1 hD1
    exact kk H1 locs1 _ ⟨hP1, hD1, hS1, hA⟩ h
  · rw [if_neg hi] at h
    cases h
theorem yy_bald (C : yy_C D κ p m c cc nL s args own) (Z : yy_Z D κ ext A H0 τ H locs) {i : Int32} (hdg : decode cc pc = .ok (.baload, 1)) {K : Int32 → yy_M α} (h : yy_rA 2 640 i K τ = some res)
    (kk : ∀ v : Int32, K v τ = some res → W p l e R s m args below meth c H locs cells slots Q (F0 m (pc + 1) ls (.int v :: rest))) : W p l e R s m args below meth c H locs cells slots Q (F0 m pc ls (.int i :: .ref (κ 4 + 2) :: rest)) := by
  obtain ⟨⟨hx, hb, hml, hown, hts⟩, hK, hN⟩ := C
  obtain ⟨hP, hD, hS, hA⟩ := Z
  unfold yy_rA at h
  by_cases hi : yy_in i 640 = true
  · rw [if_pos hi] at h
    exact va_bald hx hb hK hP 2 1 (by rw [yy_lay_at (by decide), yy_ent_2]) rfl (yy_in_vp hi) hdg (kk _ h)
  · rw [if_neg hi] at h
    cases h
theorem yy_bast (C : yy_C D κ p m c cc nL s args own) (Z : yy_Z D κ ext A H0 τ H locs) {i x : Int32} (hdg : decode cc pc = .ok (.bastore, 1)) {K : yy_M α} (h : yy_wA 2 640 i (vp_nar .byte x) K τ = some res)
    (kk : ∀ (H1 : Heap) (locs1 : List Loc) (τ1 : yy_T), yy_Z D κ ext A H0 τ1 H1 locs1 → K τ1 = some res → W p l e R s m args below meth c H1 locs1 cells slots Q (F0 m (pc + 1) ls rest)) : W p l e R s m args below meth c H locs cells slots Q (F0 m pc ls (.int x :: .int i :: .ref (κ 4 + 2) :: rest)) := by
  obtain ⟨⟨hx, hb, hml, hown, hts⟩, hK, hN⟩ := C
  obtain ⟨hP, hD, hS, hA⟩ := Z
  unfold yy_wA at h
  by_cases hi : yy_in i 640 = true
  · rw [if_pos hi] at h
    refine va_bast hx hb hK hP hD hS 2 1 (by rw [yy_lay_at (by decide), yy_ent_2]) rfl (yy_in_vp hi) hdg (fun H1 locs1 hP1 hD1 hS1 => ?_)
    rw [← yy_ent_2 (κ := κ), yy_lay_set (by decide)] at hP1 hD1
    exact kk H1 locs1 _ ⟨hP1, hD1, hS1, hA⟩ h
  · rw [if_neg hi] at h
    cases h
theorem yy_alen (C : yy_C D κ p m c cc nL s args own) (Z : yy_Z D κ ext A H0 τ H locs) {a n : Nat} (ha : a ∈ yy_Ints) (hn : yy_len a = n) (hdg : decode cc pc = .ok (.arraylength, 1))
    (kk : W p l e R s m args below meth c H locs cells slots Q (F0 m (pc + 1) ls (.int (Int32.ofNat n) :: rest))) : W p l e R s m args below meth c H locs cells slots Q (F0 m pc ls (.ref (κ 4 + a) :: rest)) := by
  obtain ⟨⟨hx, hb, hml, hown, hts⟩, hK, hN⟩ := C
  obtain ⟨hP, hD, hS, hA⟩ := Z
  exact va_alen hx hb hK hP a 0 (by rw [yy_lay_at (yy_Ints_lt a ha), yy_ent_Ints ha]) rfl (by rw [← hn]) hdg kk
/-- a row of an array of rows -/
theorem yy_aaldA (hexec : p.tables.exec = Jvm.exec) (hb : c.code = cc) (hK : va_K D yy_cls (yy_tys κ) s) {ws : va_W} {a : Nat} (hP : va_P D yy_cls ws H) (q0 : Nat) {n : Nat} {f : Nat → Option Nat} (ha : ws[q0]? = some (a, .inl (κ 3, n, .inr (.inr (.inr (.inr f)))))) {i : Int32} (hin : vp_in i n) (hdg : decode cc pc = .ok (.aaload, 1))
    (kk : W p l e R s m args below meth c H locs cells slots Q (F0 m (pc + 1) ls (va_rf (f i.toNatClampNeg) :: rest))) : W p l e R s m args below meth c H locs cells slots Q (F0 m pc ls (.int i :: .ref a :: rest)) := by
  have hlt : i.toNatClampNeg < n := Nat.not_le.mp fun q => hin (Or.inr q)
  exact W.aald (v := va_rf (f i.toNatClampNeg)) (ty := .array .int) hexec hb (hP q0 _ ha) ((hK.2 3 _ rfl).1 n (fun j => va_rf (f j))) rfl (fun q => by cases q) (by show ¬ (i < 0 ∨ (arrV _ _ _).slots.size ≤ _); rw [arrV_size]; exact hin) (by show (arrV _ _ _).slots[_]? = _; rw [arrV_read _ _ hlt]) rfl rfl hdg kk
theorem yy_aald2 (C : yy_C D κ p m c cc nL s args own) (Z : yy_Z D κ ext A H0 τ H locs) {g : Nat} (hg : g ∈ yy_Grs) {i : Int32} (hdg : decode cc pc = .ok (.aaload, 1)) {K : yy_M α} (h : yy_ck (yy_in i 2 = true) K τ = some res)
    (kk : i.toNatClampNeg < 2 → K τ = some res → W p l e R s m args below meth c H locs cells slots Q (F0 m (pc + 1) ls (.ref (κ 4 + (g + 1 + i.toNatClampNeg)) :: rest))) : W p l e R s m args below meth c H locs cells slots Q (F0 m pc ls (.int i :: .ref (κ 4 + g) :: rest)) := by
  obtain ⟨⟨hx, hb, hml, hown, hts⟩, hK, hN⟩ := C
  obtain ⟨hP, hD, hS, hA⟩ := Z
  unfold yy_ck at h
  by_cases hi : yy_in i 2 = true
  · rw [if_pos hi] at h
    refine yy_aaldA hx hb hK hP g (by rw [yy_lay_at (yy_Grs_lt g hg), yy_ent_Grs hg]) (yy_in_vp hi) hdg ?_
    rw [if_pos (yy_in_lt hi)]
    exact kk (yy_in_lt hi) h
  · rw [if_neg hi] at h
    cases h
theorem yy_aaldL (C : yy_C D κ p m c cc nL s args own) (Z : yy_Z D κ ext A H0 τ H locs) {i : Int32} (hdg : decode cc pc = .ok (.aaload, 1)) {K : yy_M α} (h : yy_ck (yy_in i 14 = true) K τ = some res)
    (kk : i.toNatClampNeg < 14 → K τ = some res → W p l e R s m args below meth c H locs cells slots Q (F0 m (pc + 1) ls (.ref (κ 4 + (66 + i.toNatClampNeg)) :: rest))) : W p l e R s m args below meth c H locs cells slots Q (F0 m pc ls (.int i :: .ref (κ 4 + 65) :: rest)) := by
  obtain ⟨⟨hx, hb, hml, hown, hts⟩, hK, hN⟩ := C
  obtain ⟨hP, hD, hS, hA⟩ := Z
  unfold yy_ck at h
  by_cases hi : yy_in i 14 = true
  · rw [if_pos hi] at h
    refine yy_aaldA hx hb hK hP 65 (by rw [yy_lay_at (by decide), yy_ent_65]) (yy_in_vp hi) hdg ?_
    rw [if_pos (yy_in_lt hi)]
    exact kk (yy_in_lt hi) h
  · rw [if_neg hi] at h
    cases h
theorem yy_aaldE (C : yy_C D κ p m c cc nL s args own) (Z : yy_Z D κ ext A H0 τ H locs) {i : Int32} (hdg : decode cc pc = .ok (.aaload, 1)) {K : yy_M α} (h : yy_ck (yy_in i 10 = true) K τ = some res)
    (kk : i.toNatClampNeg < 10 → K τ = some res → W p l e R s m args below meth c H locs cells slots Q (F0 m (pc + 1) ls (.ref (κ 4 + (19 + 3 * i.toNatClampNeg)) :: rest))) : W p l e R s m args below meth c H locs cells slots Q (F0 m pc ls (.int i :: .ref (κ 4 + 17) :: rest)) := by
  obtain ⟨⟨hx, hb, hml, hown, hts⟩, hK, hN⟩ := C
  obtain ⟨hP, hD, hS, hA⟩ := Z
  unfold yy_ck at h
  by_cases hi : yy_in i 10 = true
  · rw [if_pos hi] at h
    refine va_aldq hx hb hK hP 17 2 (by rw [yy_lay_at (by decide), yy_ent_17]) rfl (yy_in_vp hi) hdg ?_
    rw [if_pos (yy_in_lt hi)]
    exact kk (yy_in_lt hi) h
  · rw [if_neg hi] at h
    cases h
theorem yy_copy (C : yy_C D κ p m c cc nL s args own) (Z : yy_Z D κ ext A H0 τ H locs) (hls : ls.size = nL) {a b n0 n1 index : Nat} (ha : a ∈ yy_Ints) (hn0 : yy_len a = n0) (hb' : b ∈ yy_Ints) (hn1 : yy_len b = n1) {sp dp n : Int32} (hlink : Cond.methodLink own index arraycopyName ∈ gT) (hnat : Cond.native arraycopyName ∈ gT) (hstat : Cond.static arraycopyName ∈ gT) (hini : Cond.initialized "java/lang/System" ∈ gT) (hframes : 1 ≤ R.frames) (hlocals : (rest.map fun v => v.category).sum + (nativeFrameWords "java/lang/System" "arraycopy" 5 + 11) ≤ R.locals) (hdg : decode cc pc = .ok (.invokestatic index, 3)) {K : yy_M α} (h : yy_cp a n0 sp b n1 dp n K τ = some res)
    (kk : ∀ (H1 : Heap) (locs1 : List Loc) (τ1 : yy_T), yy_Z D κ ext A H0 τ1 H1 locs1 → K τ1 = some res → W p l e R s m args below meth c H1 locs1 cells slots Q (F0 m (pc + 3) ls rest)) : W p l e R s m args below meth c H locs cells slots Q (F0 m pc ls (.int n :: .int dp :: .ref (κ 4 + b) :: .int sp :: .ref (κ 4 + a) :: rest)) := by
  obtain ⟨⟨hx, hb, hml, hown, hts⟩, hK, hN⟩ := C
  obtain ⟨hP, hD, hS, hA⟩ := Z
  subst hn0
  subst hn1
  unfold yy_cp at h
  by_cases hi : yy_cpok sp dp n (yy_len a) (yy_len b) = true
  · rw [if_pos hi] at h
    unfold yy_cpok at hi
    simp only [Bool.and_eq_true, decide_eq_true_eq] at hi
    obtain ⟨⟨⟨⟨h1, h2⟩, h3⟩, h4⟩, h5⟩ := hi
    refine va_copyi hx hb (by rw [hml, hls]) hown (hts _ hlink) (hts _ hnat) (hts _ hstat) (hts _ hini) hK hP hD hS a b 0 0 (by rw [yy_lay_at (yy_Ints_lt a ha), yy_ent_Ints ha]) (by rw [yy_lay_at (yy_Ints_lt b hb'), yy_ent_Ints hb']) rfl rfl rfl h1 h2 h3 h4 h5 (fun i _ => rfl) hframes hlocals hdg (fun H1 locs1 hP1 hD1 hS1 => ?_)
    rw [← yy_ent_Ints hb', yy_lay_set (yy_Ints_lt b hb')] at hP1 hD1
    exact kk H1 locs1 _ ⟨hP1, hD1, hS1, hA⟩ h
  · rw [if_neg hi] at h
    cases h
end YR
