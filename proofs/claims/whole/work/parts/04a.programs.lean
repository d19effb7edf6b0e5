/-! PROGRAMS OVER A MEMORY: a memory gives each cell (by its number) a row of ints; a program is a partial function over memories. Every method of the class and of the reference is met by such a program (the parts behind this one); what the programs compute is then pure. -/
abbrev yy_T : Type := Nat → Nat → Int32
def yy_up (τ : yy_T) (a k : Nat) (v : Int32) : yy_T := fun j => if j = a then upd (τ a) k v else τ j
def yy_ro (τ : yy_T) (a : Nat) (f : Nat → Int32) : yy_T := fun j => if j = a then f else τ j
abbrev yy_M (α : Type) : Type := yy_T → Option (α × yy_T)
def yy_in (i : Int32) (n : Nat) : Bool := decide (¬ (i < 0 ∨ n ≤ i.toNatClampNeg))
theorem yy_in_vp {i : Int32} {n : Nat} (h : yy_in i n = true) : vp_in i n := of_decide_eq_true (p := ¬ (i < 0 ∨ n ≤ i.toNatClampNeg)) h
theorem yy_in_lt {i : Int32} {n : Nat} (h : yy_in i n = true) : i.toNatClampNeg < n := Nat.not_le.mp fun q => (yy_in_vp h) (Or.inr q)
def yy_rt {α : Type} (r : α) : yy_M α := fun τ => some (r, τ)
def yy_rF {α : Type} (a k : Nat) (K : Int32 → yy_M α) : yy_M α := fun τ => K (τ a k) τ
def yy_wF {α : Type} (a k : Nat) (v : Int32) (K : yy_M α) : yy_M α := fun τ => K (yy_up τ a k v)
def yy_rA {α : Type} (a n : Nat) (i : Int32) (K : Int32 → yy_M α) : yy_M α := fun τ => if yy_in i n = true then K (τ a i.toNatClampNeg) τ else none
def yy_wA {α : Type} (a n : Nat) (i v : Int32) (K : yy_M α) : yy_M α := fun τ => if yy_in i n = true then K (yy_up τ a i.toNatClampNeg v) else none
def yy_rL {α : Type} (f : Nat → Int32) (n : Nat) (i : Int32) (K : Int32 → yy_M α) : yy_M α := fun τ => if yy_in i n = true then K (f i.toNatClampNeg) τ else none
def yy_ck {α : Type} (c : Prop) [Decidable c] (K : yy_M α) : yy_M α := fun τ => if c then K τ else none
def yy_br {α : Type} (c : Prop) [Decidable c] (K1 K2 : yy_M α) : yy_M α := fun τ => if c then K1 τ else K2 τ
def yy_cl {α β : Type} (f : yy_M β) (K : β → yy_M α) : yy_M α := fun τ => match f τ with
  | none => none
  | some x => K x.1 x.2
def yy_cpok (sp dp n : Int32) (n0 n1 : Nat) : Bool := decide (¬ sp < 0) && decide (¬ dp < 0) && decide (¬ n < 0) && decide (sp.toNatClampNeg + n.toNatClampNeg ≤ n0) && decide (dp.toNatClampNeg + n.toNatClampNeg ≤ n1)
def yy_cp {α : Type} (a n0 : Nat) (sp : Int32) (b n1 : Nat) (dp n : Int32) (K : yy_M α) : yy_M α := fun τ => if yy_cpok sp dp n n0 n1 = true then K (yy_ro τ b (va_cpy (τ a) (τ b) sp.toNatClampNeg dp.toNatClampNeg n.toNatClampNeg)) else none
def yy_it {S R : Type} (b : S → yy_M (S ⊕ R)) : Nat → S → yy_T → Option (R × yy_T)
  | 0, _, _ => none
  | n + 1, s, τ => match b s τ with
    | none => none
    | some (.inl s', τ') => yy_it b n s' τ'
    | some (.inr r, τ') => some (r, τ')
noncomputable def yy_lp {S R : Type} (b : S → yy_M (S ⊕ R)) (s : S) : yy_M R := fun τ => @dite _ (∃ x, ∃ n, yy_it b n s τ = some x) (Classical.propDecidable _) (fun h => some (Classical.choose h)) (fun _ => none)
theorem yy_it_mono {S R : Type} {b : S → yy_M (S ⊕ R)} : ∀ (n : Nat) (s : S) (τ : yy_T) (x : R × yy_T), yy_it b n s τ = some x → ∀ k, yy_it b (n + k) s τ = some x
  | 0, s, τ, x, h, k => by cases h
  | n + 1, s, τ, x, h, k => by
    rw [show n + 1 + k = (n + k) + 1 by omega]
    rw [yy_it] at h ⊢
    cases hb : b s τ with
    | none => rw [hb] at h; cases h
    | some y =>
      rw [hb] at h
      obtain ⟨y1, τ'⟩ := y
      cases y1 with
      | inl s' => exact yy_it_mono n s' τ' x h k
      | inr r => exact h
theorem yy_lp_of {S R : Type} {b : S → yy_M (S ⊕ R)} {s : S} {τ : yy_T} {x : R × yy_T} {n : Nat} (h : yy_it b n s τ = some x) : yy_lp b s τ = some x := by
  have hx : ∃ x, ∃ n, yy_it b n s τ = some x := ⟨x, n, h⟩
  unfold yy_lp
  rw [dif_pos hx]
  obtain ⟨k, hk⟩ := Classical.choose_spec hx
  have h1 := yy_it_mono _ _ _ _ h k
  have h2 := yy_it_mono _ _ _ _ hk n
  rw [Nat.add_comm k n] at h2
  exact congrArg some (Option.some.inj (h2.symm.trans h1))
theorem yy_lp_to {S R : Type} {b : S → yy_M (S ⊕ R)} {s : S} {τ : yy_T} {x : R × yy_T} (h : yy_lp b s τ = some x) : ∃ n, yy_it b n s τ = some x := by
  unfold yy_lp at h
  by_cases hx : ∃ x, ∃ n, yy_it b n s τ = some x
  · rw [dif_pos hx] at h
    have h2 := Classical.choose_spec hx
    rw [Option.some.inj h] at h2
    exact h2
  · rw [dif_neg hx] at h
    cases h
theorem yy_lp_eq {S R : Type} (b : S → yy_M (S ⊕ R)) (s : S) (τ : yy_T) : yy_lp b s τ = match b s τ with
    | none => none
    | some (.inl s', τ') => yy_lp b s' τ'
    | some (.inr r, τ') => some (r, τ') := by
  cases hb : b s τ with
  | none =>
    cases hl : yy_lp b s τ with
    | none => rfl
    | some x =>
      obtain ⟨n, hn⟩ := yy_lp_to hl
      cases n with
      | zero => cases hn
      | succ n => rw [yy_it, hb] at hn; cases hn
  | some y =>
    obtain ⟨y1, τ'⟩ := y
    cases y1 with
    | inl s' =>
      show yy_lp b s τ = yy_lp b s' τ'
      cases hl : yy_lp b s' τ' with
      | none =>
        cases hl2 : yy_lp b s τ with
        | none => rfl
        | some x =>
          obtain ⟨n, hn⟩ := yy_lp_to hl2
          cases n with
          | zero => cases hn
          | succ n =>
            rw [yy_it, hb] at hn
            rw [yy_lp_of hn] at hl
            cases hl
      | some x =>
        obtain ⟨n, hn⟩ := yy_lp_to hl
        exact yy_lp_of (n := n + 1) (by rw [yy_it, hb]; exact hn)
    | inr r => exact yy_lp_of (n := 1) (by rw [yy_it, hb])
/-- a loop, by its rounds: what holds of a state where a round goes on, or ends and what follows goes on -/
theorem yy_loop {S R α : Type} {b : S → yy_M (S ⊕ R)} {K : R → yy_M α} {res : α × yy_T} {s0 : S} {τ0 : yy_T} (h : yy_cl (yy_lp b s0) K τ0 = some res) (P : S → yy_T → Prop)
    (step : ∀ (s : S) (τ : yy_T) (y : (S ⊕ R) × yy_T), b s τ = some y → (∀ s' τ', y = (.inl s', τ') → P s' τ') → (∀ r τ', y = (.inr r, τ') → K r τ' = some res) → P s τ) : P s0 τ0 := by
  have key : ∀ (n : Nat) (s : S) (τ : yy_T) (x : R × yy_T), yy_it b n s τ = some x → K x.1 x.2 = some res → P s τ := by
    intro n
    induction n with
    | zero => intro s τ x hx _; cases hx
    | succ n ih =>
      intro s τ x hx hK
      rw [yy_it] at hx
      cases hb : b s τ with
      | none => rw [hb] at hx; cases hx
      | some y =>
        rw [hb] at hx
        obtain ⟨y1, τ'⟩ := y
        refine step s τ (y1, τ') hb (fun s' τ2 he => ?_) (fun r τ2 he => ?_)
        · cases he
          exact ih s' τ' x hx hK
        · cases he
          cases hx
          exact hK
  unfold yy_cl at h
  cases hl : yy_lp b s0 τ0 with
  | none => rw [hl] at h; cases h
  | some x =>
    rw [hl] at h
    obtain ⟨n, hn⟩ := yy_lp_to hl
    exact key n s0 τ0 x hn h
theorem yy_cl_of {α β : Type} {f : yy_M β} {K : β → yy_M α} {τ : yy_T} {res : α × yy_T} (h : yy_cl f K τ = some res) : ∃ (r : β) (τ1 : yy_T), f τ = some (r, τ1) ∧ K r τ1 = some res := by
  unfold yy_cl at h
  cases hf : f τ with
  | none => rw [hf] at h; cases h
  | some x => rw [hf] at h; exact ⟨x.1, x.2, rfl, h⟩
theorem yy_up_at {τ : yy_T} {a k : Nat} {v : Int32} : yy_up τ a k v a = upd (τ a) k v := if_pos rfl
theorem yy_up_ne {τ : yy_T} {a k j : Nat} {v : Int32} (h : j ≠ a) : yy_up τ a k v j = τ j := if_neg h
theorem yy_ro_at {τ : yy_T} {a : Nat} {f : Nat → Int32} : yy_ro τ a f a = f := if_pos rfl
theorem yy_ro_ne {τ : yy_T} {a j : Nat} {f : Nat → Int32} (h : j ≠ a) : yy_ro τ a f j = τ j := if_neg h
theorem yy_up_ro {τ : yy_T} {a k : Nat} {v : Int32} : yy_up τ a k v = yy_ro τ a (upd (τ a) k v) := rfl
