/-! WORDS, LINES, EDITIONS: a word is the list of its letters (1 .. 26), a line the list of its words; an edition: how many lines, and which. The class writes a word with 32, the first letter lowest; the reference with 27, the first letter highest. -/
abbrev pp_L : Type := List (List Nat)
abbrev pp_Ed : Type := Nat × (Nat → pp_L)
def pp_eB (B : Nat) : List Nat → Nat
  | [] => 0
  | x :: r => x + B * pp_eB B r
def pp_e5 (w : List Nat) : Nat := pp_eB 32 w
def pp_e27 (w : List Nat) : Nat := pp_eB 27 w.reverse
def pp_wfW (w : List Nat) : Prop := 1 ≤ w.length ∧ w.length ≤ 6 ∧ ∀ x ∈ w, 1 ≤ x ∧ x ≤ 26
def pp_wfL (l : pp_L) : Prop := 1 ≤ l.length ∧ l.length ≤ 8 ∧ ∀ w ∈ l, pp_wfW w
def pp_wfE (e : pp_Ed) : Prop := e.1 ≤ 14 ∧ ∀ i, i < e.1 → pp_wfL (e.2 i)
theorem pp_eB_lt {B : Nat} (hB : 27 ≤ B) : ∀ (w : List Nat), (∀ x ∈ w, x ≤ 26) → pp_eB B w < B ^ w.length
  | [], _ => by simp [pp_eB]
  | x :: r, h => by
    have h1 := pp_eB_lt hB r (fun y hy => h y (List.mem_cons_of_mem _ hy))
    have h2 := h x List.mem_cons_self
    simp only [pp_eB, List.length_cons, Nat.pow_succ]
    have h3 : B * (pp_eB B r + 1) ≤ B * B ^ r.length := Nat.mul_le_mul_left B h1
    have h4 : B ^ r.length * B = B * B ^ r.length := Nat.mul_comm _ _
    have h5 : B * (pp_eB B r + 1) = B * pp_eB B r + B := by rw [Nat.mul_add, Nat.mul_one]
    omega
theorem pp_eB_inj {B : Nat} (hB : 27 ≤ B) : ∀ (w v : List Nat), (∀ x ∈ w, 1 ≤ x ∧ x ≤ 26) → (∀ x ∈ v, 1 ≤ x ∧ x ≤ 26) → pp_eB B w = pp_eB B v → w = v
  | [], [], _, _, _ => rfl
  | [], y :: s, _, hv, h => by
    have := (hv y List.mem_cons_self).1
    simp only [pp_eB] at h
    omega
  | x :: r, [], hw, _, h => by
    have := (hw x List.mem_cons_self).1
    simp only [pp_eB] at h
    omega
  | x :: r, y :: s, hw, hv, h => by
    have hx := (hw x List.mem_cons_self)
    have hy := (hv y List.mem_cons_self)
    simp only [pp_eB] at h
    have e1 : x = y := by
      have h1 := congrArg (· % B) h
      simp only [Nat.add_mul_mod_self_left] at h1
      rw [Nat.mod_eq_of_lt (by omega), Nat.mod_eq_of_lt (by omega)] at h1
      exact h1
    subst e1
    have e2 : pp_eB B r = pp_eB B s := Nat.eq_of_mul_eq_mul_left (by omega : 0 < B) (by omega)
    rw [pp_eB_inj hB r s (fun z hz => hw z (List.mem_cons_of_mem _ hz)) (fun z hz => hv z (List.mem_cons_of_mem _ hz)) e2]
theorem pp_eB_snoc {B : Nat} : ∀ (w : List Nat) (x : Nat), pp_eB B (w ++ [x]) = pp_eB B w + x * B ^ w.length
  | [], x => by simp [pp_eB]
  | y :: r, x => by
    simp only [List.cons_append, pp_eB, pp_eB_snoc r x, List.length_cons, Nat.pow_succ, Nat.mul_add]
    have : B * (x * B ^ r.length) = x * (B ^ r.length * B) := by rw [← Nat.mul_assoc, Nat.mul_comm B x, Nat.mul_assoc, Nat.mul_comm B]
    omega
theorem pp_e5_snoc (w : List Nat) (x : Nat) : pp_e5 (w ++ [x]) = pp_e5 w + x * 32 ^ w.length := pp_eB_snoc w x
theorem pp_e27_snoc (w : List Nat) (x : Nat) : pp_e27 (w ++ [x]) = x + 27 * pp_e27 w := by
  unfold pp_e27
  rw [List.reverse_append]
  rfl
theorem pp_e5_lt {w : List Nat} (h : pp_wfW w) : pp_e5 w < 2 ^ 30 := by
  have h1 := pp_eB_lt (B := 32) (by decide) w (fun x hx => (h.2.2 x hx).2)
  have h2 : 32 ^ w.length ≤ 32 ^ 6 := Nat.pow_le_pow_right (by decide) h.2.1
  have h3 : (32 : Nat) ^ 6 = 2 ^ 30 := by decide
  unfold pp_e5
  omega
theorem pp_e27_lt {w : List Nat} (h : pp_wfW w) : pp_e27 w < 27 ^ 6 := by
  have h1 := pp_eB_lt (B := 27) (by decide) w.reverse (fun x hx => (h.2.2 x (List.mem_reverse.mp hx)).2)
  rw [List.length_reverse] at h1
  have h2 : 27 ^ w.length ≤ 27 ^ 6 := Nat.pow_le_pow_right (by decide) h.2.1
  unfold pp_e27
  omega
theorem pp_e5_inj {w v : List Nat} (hw : pp_wfW w) (hv : pp_wfW v) (h : pp_e5 w = pp_e5 v) : w = v := pp_eB_inj (by decide) w v hw.2.2 hv.2.2 h
theorem pp_e27_inj {w v : List Nat} (hw : pp_wfW w) (hv : pp_wfW v) (h : pp_e27 w = pp_e27 v) : w = v := by
  have := pp_eB_inj (B := 27) (by decide) w.reverse v.reverse (fun x hx => hw.2.2 x (List.mem_reverse.mp hx)) (fun x hx => hv.2.2 x (List.mem_reverse.mp hx)) h
  exact List.reverse_inj.mp this
theorem pp_wfL.word {l : pp_L} (h : pp_wfL l) {k : Nat} (hk : k < l.length) : pp_wfW (l.getD k []) := by
  rw [List.getD_eq_getElem?_getD, List.getElem?_eq_getElem hk]
  exact h.2.2 _ (List.getElem_mem hk)
theorem pp_L_ext {l m : pp_L} (hl : l.length = m.length) (h : ∀ k, k < l.length → l.getD k [] = m.getD k []) : l = m := by
  apply List.ext_getElem hl
  intro k h1 h2
  have := h k h1
  rw [List.getD_eq_getElem?_getD, List.getElem?_eq_getElem h1, List.getD_eq_getElem?_getD, List.getElem?_eq_getElem h2] at this
  exact this
/-- a line in the class's edition c, and in the reference's row c at p -/
def pp_CL (τ : yy_T) (c i : Nat) (l : pp_L) : Prop := τ (c + 1) i = nI l.length ∧ ∀ k, k < l.length → τ (c + 2) (8 * i + k) = nI (pp_e5 (l.getD k []))
def pp_ML (τ : yy_T) (c p : Nat) (l : pp_L) : Prop := τ c p = nI l.length ∧ ∀ k, k < l.length → τ c (p + 1 + k) = nI (pp_e27 (l.getD k []))
def pp_RC (τ : yy_T) (c : Nat) (e : pp_Ed) : Prop := τ c 2 = nI e.1 ∧ ∀ i, i < e.1 → pp_CL τ c i (e.2 i)
def pp_RM (τ : yy_T) (c b : Nat) (e : pp_Ed) : Prop := τ c b = nI e.1 ∧ ∀ i, i < e.1 → pp_ML τ c (b + 1 + 9 * i) (e.2 i)
theorem pp_CL.of {τ τ1 : yy_T} {c i : Nat} {l : pp_L} (h : pp_CL τ c i l) (h1 : τ1 (c + 1) = τ (c + 1)) (h2 : τ1 (c + 2) = τ (c + 2)) : pp_CL τ1 c i l := by
  unfold pp_CL
  rw [h1, h2]
  exact h
theorem pp_RC.of {τ τ1 : yy_T} {c : Nat} {e : pp_Ed} (h : pp_RC τ c e) (h0 : τ1 c = τ c) (h1 : τ1 (c + 1) = τ (c + 1)) (h2 : τ1 (c + 2) = τ (c + 2)) : pp_RC τ1 c e := by
  unfold pp_RC
  rw [h0]
  exact ⟨h.1, fun i hi => (h.2 i hi).of h1 h2⟩
theorem pp_RM.of {τ τ1 : yy_T} {c b : Nat} {e : pp_Ed} (h : pp_RM τ c b e) (h0 : τ1 c = τ c) : pp_RM τ1 c b e := by
  unfold pp_RM pp_ML
  rw [h0]
  exact h
/-! asking -/
theorem pp_in {a n : Nat} (h : a < n) (hn : n ≤ 2 ^ 31) : yy_in (nI a) n = true := (yy_in_nI (by omega)).mpr h
def pp_b (p : Prop) [Decidable p] : Int32 := if p then 1 else 0
theorem pp_b_t {p : Prop} [Decidable p] (h : p) : pp_b p = 1 := if_pos h
theorem pp_b_f {p : Prop} [Decidable p] (h : ¬ p) : pp_b p = 0 := if_neg h
theorem pp_b_0 {p : Prop} [Decidable p] : pp_b p = 0 ↔ ¬ p := by
  by_cases h : p
  · rw [pp_b_t h]
    exact ⟨fun e => absurd e (by decide), fun e => absurd h e⟩
  · rw [pp_b_f h]
    exact ⟨fun _ => h, fun _ => rfl⟩
theorem pp_has {τ : yy_T} {c : Nat} {e : pp_Ed} (h : pp_RC τ c e) (he : e.1 ≤ 14) (i : Nat) (hi : i < 2 ^ 31) : mm_X2_has c (nI i) τ = some (pp_b (i < e.1), τ) := by
  apply tt_of
  simp only [mm_X2_has, tt_rF, tt_br, tt_wA, tt_rA, tt_wF, tt_rt, tt_ck, tt_cl, tt_rL, tt_wL, tt_cp, yy_upx, yy_rox, if_true, if_false, reduceIte, Nat.reduceEqDiff, and_true, true_and, h.1]
  simp (disch := omega) only [nI_lit, nI_add, nI_mul, nI_ltI, nI_leI, nI_eq, yy_in_nI, nI_clamp]
  refine ⟨fun h => by omega, fun _ => ⟨fun h => (pp_b_f (by omega)).symm, fun h => (pp_b_t (by omega)).symm⟩⟩
theorem pp_hasn {τ : yy_T} {c : Nat} {x : Int32} (hx : x < 0) : mm_X2_has c x τ = some (0, τ) := by
  apply tt_of
  simp only [mm_X2_has, tt_rF, tt_br, tt_wA, tt_rA, tt_wF, tt_rt, tt_ck, tt_cl, tt_rL, tt_wL, tt_cp, yy_upx, yy_rox, if_true, if_false, reduceIte, Nat.reduceEqDiff, and_true, true_and]
  exact ⟨fun _ => trivial, fun h => absurd hx h⟩
theorem pp_sizeOf {τ : yy_T} {c : Nat} {e : pp_Ed} (h : pp_RC τ c e) (he : pp_wfE e) (i : Nat) (hi : i < e.1) : mm_X2_sizeOf c (nI i) τ = some (nI (e.2 i).length, τ) := by
  have h14 := he.1
  apply tt_of
  simp only [mm_X2_sizeOf, tt_cl, tt_eq (pp_has h he.1 i (by omega)), tt_rF, tt_br, tt_wA, tt_rA, tt_wF, tt_rt, tt_ck, tt_cl, tt_rL, tt_wL, tt_cp, yy_upx, yy_rox, if_true, if_false, reduceIte, Nat.reduceEqDiff, and_true, true_and, pp_b_0]
  refine ⟨fun h => absurd hi h, fun _ => ?_⟩
  rw [yy_in_nI (by omega), nI_clamp (by omega)]
  exact ⟨by omega, (h.2 i hi).1⟩
theorem pp_wordAt {τ : yy_T} {c : Nat} {e : pp_Ed} (h : pp_RC τ c e) (he : pp_wfE e) (i : Nat) (hi : i < e.1) (k : Nat) (hk : k < 2 ^ 31) : mm_X2_wordAt c (nI i) (nI k) τ = some (if k < (e.2 i).length then nI (pp_e5 ((e.2 i).getD k [])) else 0, τ) := by
  have hw := he.2 i hi
  have h14 := he.1
  have h8 := hw.2.1
  apply tt_of
  simp only [mm_X2_wordAt, tt_cl, tt_eq (pp_sizeOf h he i hi), tt_rF, tt_br, tt_wA, tt_rA, tt_wF, tt_rt, tt_ck, tt_cl, tt_rL, tt_wL, tt_cp, yy_upx, yy_rox, if_true, if_false, reduceIte, Nat.reduceEqDiff, and_true, true_and]
  simp (disch := omega) only [nI_lit, nI_add, nI_mul, nI_ltI, nI_leI, yy_in_nI, nI_clamp]
  refine ⟨fun h => by omega, fun _ => ⟨fun h => by rw [if_neg (by omega)], fun h1 => ?_⟩⟩
  have hl : k < (e.2 i).length := by omega
  rw [if_pos hl]
  have h2 := (h.2 i hi).2 k hl
  rw [Nat.mul_comm 8 i] at h2
  exact ⟨pp_in (by omega) (by decide), by rw [nI_clamp (by omega)]; exact h2⟩
/-- the class tells alike lines -/
theorem pp_isLike {τ : yy_T} {c d : Nat} {e f : pp_Ed} (h : pp_RC τ c e) (he : pp_wfE e) (g : pp_RC τ d f) (hf : pp_wfE f) (i j : Nat) (hi : i < e.1) (hj : j < f.1) : mm_X2_isLike c (nI i) d (nI j) τ = some (pp_b (e.2 i = f.2 j), τ) := by
  have h14 := he.1
  have g14 := hf.1
  have hw := he.2 i hi
  have hv := hf.2 j hj
  have h8 := hw.2.1
  have g8 := hv.2.1
  apply tt_of
  simp only [mm_X2_isLike, tt_cl, tt_eq (pp_has h he.1 i (by omega)), tt_eq (pp_has g hf.1 j (by omega)), tt_rF, tt_br, tt_wA, tt_rA, tt_wF, tt_rt, tt_ck, tt_cl, tt_rL, tt_wL, tt_cp, yy_upx, yy_rox, if_true, if_false, reduceIte, Nat.reduceEqDiff, and_true, true_and, pp_b_0]
  refine ⟨fun q => absurd hi q, fun _ => ⟨fun q => absurd hj q, fun _ => ⟨pp_in (by omega) (by decide), pp_in (by omega) (by decide), ?_⟩⟩⟩
  rw [nI_clamp (by omega), nI_clamp (by omega), (h.2 i hi).1, (g.2 j hj).1, nI_eq (by omega) (by omega)]
  refine ⟨fun hl => ?_, fun hl => (pp_b_f (fun q => hl (by rw [q]))).symm⟩
  simp only [mm_X2_isLike_48, tt_cl]
  refine tt_up (e.2 i).length (fun k τ1 => τ1 = τ ∧ ∀ q, q < k → (e.2 i).getD q [] = (f.2 j).getD q []) (fun k τ1 hk hI => ?_) 0 τ (Nat.zero_le _) ⟨rfl, fun q hq => by omega⟩
  obtain ⟨rfl, hq⟩ := hI
  simp only [mm_X2_isLike_48b, tt_rF, tt_br, tt_wA, tt_rA, tt_wF, tt_rt, tt_ck, tt_cl, tt_rL, tt_wL, tt_cp, yy_upx, yy_rox, if_true, if_false, reduceIte, Nat.reduceEqDiff, and_true, true_and]
  refine ⟨pp_in (by omega) (by decide), ?_⟩
  rw [nI_clamp (by omega), (h.2 i hi).1]
  simp only [nI_lit, nI_mul, nI_add]
  rw [nI_leI (by omega) (by omega)]
  refine ⟨fun hk2 => Or.inr ⟨_, rfl, ?_⟩, fun hk2 => ?_⟩
  · simp only [Sum.elim, mm_X2_isLike_90, tt_rt, and_true]
    exact (pp_b_t (pp_L_ext hl (fun q h9 => hq q (by omega)))).symm
  · refine ⟨pp_in (by omega) (by decide), pp_in (by omega) (by decide), ?_⟩
    have e1 := (h.2 i hi).2 k (by omega)
    have e2 := (g.2 j hj).2 k (by omega)
    rw [nI_clamp (by omega), nI_clamp (by omega), Nat.mul_comm i 8, Nat.mul_comm j 8, e1, e2]
    have w1 := hw.word (k := k) (by omega)
    have w2 := hv.word (k := k) (by omega)
    have b1 := pp_e5_lt w1
    have b2 := pp_e5_lt w2
    rw [nI_eq (by omega) (by omega)]
    refine ⟨fun h5 => Or.inl ⟨by omega, trivial, fun q h9 => ?_⟩, fun h5 => Or.inr ⟨_, rfl, ?_⟩⟩
    · by_cases hqk : q = k
      · subst hqk
        exact pp_e5_inj w1 w2 h5
      · exact hq q (by omega)
    · simp only [Sum.elim, mm_X2_isLike_82, tt_rt, and_true]
      exact (pp_b_f (fun q => h5 (by rw [q]))).symm
