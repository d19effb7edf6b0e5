section
variable {T : yy_T → pp_Ed → pp_Ed → Prop} {τ : yy_T}
/-- move -/
theorem pp_op17 (hT : pp_TL T) (hI : pp_I T τ) (y1 y2 y3 y4 : Int32) : ∃ τ1, mm_L_17 y1 y2 y3 y4 τ = some ((), τ1) ∧ pp_I T τ1 := by
  have hI0 := hI
  obtain ⟨t, bt, o, n, f, h, hs, ⟨wo, wn, wh, wb⟩, ⟨c1, c2, c3⟩, m1, m2, m3⟩ := hI
  obtain ⟨u1, u2, u3, u4⟩ := pp_pre (τ1 := τ) (fun a _ => rfl) m1 m2 m3
  rcases pp_hasLine c3.1 wo c3.2.1 wn y1 y2 with ⟨ok, e1⟩ | ⟨ok, e1⟩
  · obtain ⟨w, i, hw, rfl, rfl, hi⟩ := pp_OK_of ok
    have e2 : ∀ τ1, pp_RM τ1 114 0 o → pp_RM τ1 114 127 n → mm_X10_isLine (nI w) (nI i) τ1 = some (1, τ1) := by
      intro τ1 ho hn
      rcases pp_isLine ho wo hn wn (nI w) (nI i) with ⟨-, e2⟩ | ⟨no, -⟩
      · exact e2
      · exact absurd ok no
    have ws := pp_sel_w (w := w) wo wn
    have l14 := ws.1
    have hC := pp_sel_C (w := w) c3.1 c3.2.1
    have hM := pp_sel_M hw u3.1 u3.2.1
    have es : nI (pp_sel w o n).1 - nI i = nI ((pp_sel w o n).1 - i) := nI_sub (by omega)
    by_cases y31 : y3 < 1
    · refine pp_refuse (r := 0) hT hI0 (tt_of ?_) (tt_of ?_)
      · simp only [mm_X9_move, tt_cle e1, tt_cle (pp_editionOf hw), tt_br, tt_rF, tt_rt]
        exact ⟨fun q => absurd q (by decide), fun _ => ⟨fun _ => ⟨by trivial, by trivial⟩, fun q => absurd y31 q⟩⟩
      · simp only [mm_X10_move, tt_wF, tt_cle (e2 _ u3.1 u3.2.1), tt_br, tt_rt]
        exact ⟨fun q => absurd q (by decide), fun _ => ⟨fun _ => ⟨by trivial, by trivial⟩, fun q => absurd y31 q⟩⟩
    · obtain ⟨m, hm, rfl⟩ := nI_of (show ¬ y3 < 0 from fun q => y31 (Int32.lt_trans q (by decide)))
      have hm1 : 1 ≤ m := by
        rw [show (1 : Int32) = nI 1 by rfl, nI_ltI (by omega) (by omega)] at y31
        omega
      have em : nI ((pp_sel w o n).1 - i) < nI m ↔ (pp_sel w o n).1 - i < m := nI_ltI (by omega) (by omega)
      by_cases hml : (pp_sel w o n).1 - i < m
      · refine pp_refuse (r := 0) hT hI0 (tt_of ?_) (tt_of ?_)
        · simp only [mm_X9_move, tt_cle e1, tt_cle (pp_editionOf hw), tt_br, tt_rF, tt_rt, hC.1, es, em]
          exact ⟨fun q => absurd q (by decide), fun _ => ⟨fun q => absurd q y31, fun _ => ⟨fun _ => ⟨by trivial, by trivial⟩, fun q => absurd hml q⟩⟩⟩
        · simp only [mm_X10_move, tt_wF, tt_cle (e2 _ u3.1 u3.2.1), tt_br, tt_rt, tt_cle (pp_many hw hM), es, em]
          exact ⟨fun q => absurd q (by decide), fun _ => ⟨fun q => absurd q y31, fun _ => ⟨fun _ => ⟨by trivial, by trivial⟩, fun q => absurd hml q⟩⟩⟩
      · have es2 : nI (pp_sel w o n).1 - nI m = nI ((pp_sel w o n).1 - m) := nI_sub (by omega)
        by_cases y40 : y4 < 0
        · refine pp_refuse (r := 0) hT hI0 (tt_of ?_) (tt_of ?_)
          · simp only [mm_X9_move, tt_cle e1, tt_cle (pp_editionOf hw), tt_br, tt_rF, tt_rt, hC.1, es, em]
            exact ⟨fun q => absurd q (by decide), fun _ => ⟨fun q => absurd q y31, fun _ => ⟨fun q => absurd q hml, fun _ => ⟨fun _ => ⟨by trivial, by trivial⟩, fun q => absurd y40 q⟩⟩⟩⟩
          · simp only [mm_X10_move, tt_wF, tt_cle (e2 _ u3.1 u3.2.1), tt_br, tt_rt, tt_cle (pp_many hw hM), es, em, tt_cle (pp_isIn _ _ _), if_pos y40]
            exact ⟨fun q => absurd q (by decide), fun _ => ⟨fun q => absurd q y31, fun _ => ⟨fun q => absurd q hml, fun _ => ⟨fun _ => ⟨by trivial, by trivial⟩, fun q => absurd (by trivial) q⟩⟩⟩⟩
        · obtain ⟨p, hp, rfl⟩ := nI_of y40
          have ep : nI p ≤ nI ((pp_sel w o n).1 - m) ↔ p ≤ (pp_sel w o n).1 - m := nI_leI (by omega) (by omega)
          have ep2 : nI ((pp_sel w o n).1 - m) < nI p ↔ (pp_sel w o n).1 - m < p := nI_ltI (by omega) (by omega)
          by_cases hpl : p ≤ (pp_sel w o n).1 - m
          · have hisIn : ∀ τ1, mm_X10_isIn (nI p) 0 (nI ((pp_sel w o n).1 - m)) τ1 = some (1, τ1) := by
              intro τ1
              rw [pp_isIn, if_neg y40, if_neg (by rw [ep2]; omega)]
            refine pp_twoSteps (w := w) (r := 1) (e := pp_arr (pp_sel w o n) i m p) (t1 := t) (f1 := f) (bt1 := bt) hT wo wn wh hw (pp_arr_w ws (by omega) (by omega)) wb ?_ ?_
            · simp only [mm_X9_move, tt_cle e1, tt_cle (pp_editionOf hw), tt_br, tt_rF, tt_rt, hC.1, es, em, es2, ep]
              refine ⟨fun q => absurd q (by decide), fun _ => ⟨fun q => absurd q y31, fun _ => ⟨fun q => absurd q hml, fun _ => ⟨fun q => absurd q y40, fun _ => ⟨fun _ => ?_, fun q => absurd hpl q⟩⟩⟩⟩⟩
              refine tt_mono (pp_cStep (w := w) (r := 1) (e := pp_arr (pp_sel w o n) i m p) c3 wo wn wh hw (fun τ1 q1 q2 q3 => ?_)) (fun r τ1 k => ⟨k.1, ⟨c1.of (k.2.2 1 (by decide) (by decide)) (k.2.2 2 (by decide) (by decide)), by rw [k.2.2 3 (by decide) (by decide)]; exact c2⟩, k.2.1, fun a ha => k.2.2 a (by omega) (by omega)⟩)
              have s7 := pp_sel7 (w := w)
              have hC1 := pp_sel_C (w := w) q1 q2
              rw [tt_cl]
              refine tt_mono (pp_copyAll (c := 13) hC1 ws (by omega)) (fun _ τ2 k => ?_)
              rw [tt_cl]
              refine tt_mono (pp_arrange (c := pp_sel w 7 10) (by rw [k.2 _ (by omega) (by omega) (by omega)]; exact hC1.1) k.1 ws (show i + m ≤ _ by omega) (show p + m ≤ _ by omega) (by omega)) (fun _ τ3 k2 => ?_)
              rw [tt_rt]
              exact ⟨rfl, k2.1, fun a a1 a2 a3 a4 a5 a6 => by rw [k2.2 a a1 a2 a3, k.2 a a4 a5 a6]⟩
            · intro τ1 q
              obtain ⟨p1, p2, p3, p4⟩ := pp_pre q m1 m2 m3
              simp only [mm_X10_move, tt_wF, tt_cle (e2 _ p3.1 p3.2.1), tt_br, tt_rt, tt_cle (pp_many hw (pp_sel_M hw p3.1 p3.2.1)), es, em, es2, tt_cle (hisIn _)]
              refine ⟨fun q => absurd q (by decide), fun _ => ⟨fun q => absurd q y31, fun _ => ⟨fun q => absurd q hml, fun _ => ⟨fun q => absurd q (by decide), fun _ => ?_⟩⟩⟩⟩
              refine tt_mono (pp_mStep (w := w) (r := 1) (e := pp_arr (pp_sel w o n) i m p) p3 wo wn wh hw (fun τ3 q1 q2 q3 => ?_)) (fun r τ3 k => ⟨k.1, ⟨p1.of (k.2.2.1 2 (by decide)) (k.2.2.2 113 (by decide) (by decide) (by decide)), by rw [k.2.2.1 7 (by decide)]; exact p2⟩, k.2.1, fun a ha => by rw [k.2.2.2 a (by omega) (by omega) (by omega), p4 a (by omega)]⟩)
              exact pp_mMove hw (pp_sel_M hw q1 q2) ws (by omega) (by omega)
          · refine pp_refuse (r := 0) hT hI0 (tt_of ?_) (tt_of ?_)
            · simp only [mm_X9_move, tt_cle e1, tt_cle (pp_editionOf hw), tt_br, tt_rF, tt_rt, hC.1, es, em, es2, ep]
              exact ⟨fun q => absurd q (by decide), fun _ => ⟨fun q => absurd q y31, fun _ => ⟨fun q => absurd q hml, fun _ => ⟨fun q => absurd q y40, fun _ => ⟨fun q => absurd q hpl, fun _ => ⟨by trivial, by trivial⟩⟩⟩⟩⟩⟩
            · have hisIn : ∀ τ1, mm_X10_isIn (nI p) 0 (nI ((pp_sel w o n).1 - m)) τ1 = some (0, τ1) := by
                intro τ1
                rw [pp_isIn, if_neg y40, if_pos (by rw [ep2]; omega)]
              simp only [mm_X10_move, tt_wF, tt_cle (e2 _ u3.1 u3.2.1), tt_br, tt_rt, tt_cle (pp_many hw hM), es, em, es2, tt_cle (hisIn _)]
              exact ⟨fun q => absurd q (by decide), fun _ => ⟨fun q => absurd q y31, fun _ => ⟨fun q => absurd q hml, fun _ => ⟨fun _ => ⟨by trivial, by trivial⟩, fun q => absurd (by trivial) q⟩⟩⟩⟩
  · refine pp_refuse (r := 0) hT hI0 (tt_of ?_) (tt_of ?_)
    · simp only [mm_X9_move, tt_cle e1, tt_br, tt_rt]
      exact ⟨fun _ => ⟨by trivial, by trivial⟩, fun q => absurd (by trivial) q⟩
    · have e2 : mm_X10_isLine y1 y2 (yy_up τ 112 0 0) = some (0, yy_up τ 112 0 0) := by
        rcases pp_isLine u3.1 wo u3.2.1 wn y1 y2 with ⟨no, -⟩ | ⟨-, e2⟩
        · exact absurd no ok
        · exact e2
      simp only [mm_X10_move, tt_wF, tt_cle e2, tt_br, tt_rt]
      exact ⟨fun _ => ⟨by trivial, by trivial⟩, fun q => absurd (by trivial) q⟩
/-! letters -/
theorem pp_eB_dig {B : Nat} (hB : 27 ≤ B) : ∀ (w : List Nat) (k : Nat), (∀ x ∈ w, 1 ≤ x ∧ x ≤ 26) → pp_eB B w / B ^ k % B = w.getD k 0
  | [], k, _ => by simp [pp_eB]
  | x :: r, 0, h => by
    have := h x List.mem_cons_self
    simp only [pp_eB, Nat.pow_zero, Nat.div_one, Nat.add_mul_mod_self_left, List.getD_cons_zero]
    exact Nat.mod_eq_of_lt (by omega)
  | x :: r, k + 1, h => by
    have h1 := h x List.mem_cons_self
    simp only [pp_eB, List.getD_cons_succ]
    rw [Nat.pow_succ, Nat.mul_comm (B ^ k) B, ← Nat.div_div_eq_div_mul, Nat.add_mul_div_left _ _ (by omega), Nat.div_eq_of_lt (show x < B by omega), Nat.zero_add]
    exact pp_eB_dig hB r k (fun y hy => h y (List.mem_cons_of_mem _ hy))
theorem pp_getD_mem {w : List Nat} {k : Nat} (h : k < w.length) : w.getD k 0 ∈ w := by
  rw [List.getD_eq_getElem?_getD, List.getElem?_eq_getElem h]
  exact List.getElem_mem h
theorem pp_letterIn {w : List Nat} (hw : pp_wfW w) {k : Nat} (hk : k ≤ 5) : mm_X9_letterIn (nI (pp_e5 w)) (nI k) τ = some (nI (w.getD k 0), τ) := by
  have h30 := pp_e5_lt hw
  apply tt_of
  simp only [mm_X9_letterIn, tt_rt]
  rw [show (5 : Int32) = nI 5 by rfl, nI_mul]
  have e : ((nI (pp_e5 w)).toUInt32 >>> ((nI (5 * k)).toUInt32 &&& Int32.toUInt32 31)).toInt32 = nI (pp_e5 w / 2 ^ (5 * k)) := by
    refine pk_ushrN (by omega) _ _ ?_
    rcases (show k = 0 ∨ k = 1 ∨ k = 2 ∨ k = 3 ∨ k = 4 ∨ k = 5 by omega) with rfl | rfl | rfl | rfl | rfl | rfl <;> decide
  have h2 : pp_e5 w / 2 ^ (5 * k) ≤ pp_e5 w := Nat.div_le_self _ _
  rw [e, pk_andN (by omega) 5 (by decide)]
  have h32 : (2 : Nat) ^ (5 * k) = 32 ^ k := by rw [show (32 : Nat) = 2 ^ 5 by rfl, ← Nat.pow_mul]
  rw [h32, show (2 : Nat) ^ 5 = 32 by rfl]
  exact ⟨congrArg nI (pp_eB_dig (by decide) w k hw.2.2), trivial⟩
theorem pp_cLettersOf {w : List Nat} (hw : pp_wfW w) : mm_X2_lettersOf_10 (nI (pp_e5 w)) 0 τ = some (nI w.length, τ) := by
  have h6 := hw.2.1
  apply tt_of
  simp only [mm_X2_lettersOf_10, mm_X2_lettersOf_32, tt_cl, tt_rt]
  refine tt_up w.length (fun k τ1 => τ1 = τ) (fun k τ1 hk hI => ?_) 0 τ (Nat.zero_le _) rfl
  subst hI
  simp only [mm_X2_lettersOf_10b, tt_br, tt_rt]
  rw [show (6 : Int32) = nI 6 by rfl, nI_leI (by omega) (by omega)]
  refine ⟨fun hle => Or.inr ⟨_, (by trivial), by rw [show k = w.length by omega], (by trivial)⟩, fun hle => ?_⟩
  rw [tt_cle (pp_letterIn hw (by omega)), tt_br, tt_rt, tt_rt]
  by_cases hkl : k < w.length
  · have := hw.2.2 _ (pp_getD_mem hkl)
    refine ⟨fun q => ?_, fun _ => Or.inl ⟨hkl, by rw [nI_1], rfl⟩⟩
    rw [show (0 : Int32) = nI 0 by rfl, nI_eq (by omega) (by omega)] at q
    omega
  · have : k = w.length := by omega
    subst this
    refine ⟨fun _ => Or.inr ⟨_, rfl, rfl, rfl⟩, fun q => absurd ?_ q⟩
    rw [List.getD_eq_getElem?_getD, List.getElem?_eq_none (by omega)]
    rfl
theorem pp_cLettersOf0 : mm_X2_lettersOf_10 0 0 τ = some (0, τ) := by
  apply tt_of
  simp only [mm_X2_lettersOf_10, mm_X2_lettersOf_32, tt_cl, tt_rt]
  refine tt_up 0 (fun k τ1 => τ1 = τ) (fun k τ1 hk hI => ?_) 0 τ (Nat.zero_le _) rfl
  subst hI
  have : k = 0 := by omega
  subst this
  simp only [mm_X2_lettersOf_10b, tt_br, tt_rt, mm_X9_letterIn, tt_cl]
  exact ⟨fun q => absurd q (by decide), fun _ => ⟨fun _ => Or.inr ⟨_, (by trivial), (by trivial), (by trivial)⟩, fun q => absurd (by decide) q⟩⟩
theorem pp_revD {w : List Nat} {i : Nat} (h : i < w.length) : w.reverse.getD (w.length - 1 - i) 0 = w.getD i 0 := by
  rw [List.getD_eq_getElem?_getD, List.getElem?_reverse (by omega), List.getD_eq_getElem?_getD]
  congr 2
  omega
theorem pp_mDiv {x : Nat} (hx : x < 2 ^ 31) (j k : Nat) : nI (x / 27 ^ k) / 27 = nI (x / 27 ^ (k + 1)) := by
  have : x / 27 ^ k ≤ x := Nat.div_le_self _ _
  rw [show (27 : Int32) = nI 27 by rfl, pk_div (by omega) (by omega) (by omega), Nat.div_div_eq_div_mul, Nat.pow_succ]
theorem pp_mLettersOf {w : List Nat} (hw : pp_wfW w) : mm_X10_lettersOf (nI (pp_e27 w)) τ = some (nI w.length, τ) := by
  have hlt := pp_e27_lt hw
  have h31 : pp_e27 w < 2 ^ 31 := by omega
  have hrev : ∀ x ∈ w.reverse, 1 ≤ x ∧ x ≤ 26 := fun x hx => hw.2.2 x (List.mem_reverse.mp hx)
  have pos : ∀ k, pp_e27 w / 27 ^ k = 0 ↔ w.length ≤ k := by
    intro k
    have hd := fun j => pp_eB_dig (B := 27) (by decide) w.reverse j hrev
    constructor
    · intro h0
      refine Nat.not_lt.mp fun hk => ?_
      have := hd k
      unfold pp_e27 at h0
      rw [h0] at this
      have hm := hrev _ (pp_getD_mem (w := w.reverse) (k := k) (by rw [List.length_reverse]; exact hk))
      omega
    · intro hk
      have h1 := pp_eB_lt (B := 27) (by decide) w.reverse (fun x hx => (hrev x hx).2)
      rw [List.length_reverse] at h1
      have h2 : 27 ^ w.length ≤ 27 ^ k := Nat.pow_le_pow_right (by decide) hk
      unfold pp_e27
      exact Nat.div_eq_of_lt (by omega)
  apply tt_of
  simp only [mm_X10_lettersOf, mm_X10_lettersOf_4, mm_X10_lettersOf_19, tt_cl, tt_rt]
  refine tt_lp (fun s τ1 => τ1 = τ ∧ ∃ k, k ≤ w.length ∧ s = (nI k, nI (pp_e27 w / 27 ^ k))) (fun s _ => w.length - s.1.toNatClampNeg) (fun s τ1 hI => ?_) (0, nI (pp_e27 w)) τ ⟨rfl, 0, by omega, by simp; rfl⟩
  obtain ⟨rfl, k, hk, rfl⟩ := hI
  have h6 := hw.2.1
  have hdl : pp_e27 w / 27 ^ k ≤ pp_e27 w := Nat.div_le_self _ _
  simp only [mm_X10_lettersOf_4b, tt_br, tt_rt]
  rw [show (0 : Int32) = nI 0 by rfl, nI_leI (by omega) (by omega), Nat.le_zero, pos k, pp_mDiv h31 0, nI_1]
  refine ⟨fun q => Or.inr ⟨_, (by trivial), by rw [show k = w.length by omega], (by trivial)⟩, fun q => Or.inl ⟨_, (by trivial), ⟨(by trivial), k + 1, by omega, (by trivial)⟩, ?_⟩⟩
  simp only
  rw [nI_clamp (by omega), nI_clamp (by omega)]
  omega
theorem pp_mLetterAt {w : List Nat} (hw : pp_wfW w) {i : Nat} (hi : i < w.length) : mm_X10_letter_81 (nI (pp_e27 w)) (nI (w.length - 1 - i)) τ = some (nI (w.getD i 0), τ) := by
  have hlt := pp_e27_lt hw
  have h31 : pp_e27 w < 2 ^ 31 := by omega
  have h6 := hw.2.1
  have hrev : ∀ x ∈ w.reverse, 1 ≤ x ∧ x ≤ 26 := fun x hx => hw.2.2 x (List.mem_reverse.mp hx)
  apply tt_of
  simp only [mm_X10_letter_81, tt_cl]
  refine tt_lp (fun s τ1 => τ1 = τ ∧ ∃ k, k ≤ w.length - 1 - i ∧ s = (nI (pp_e27 w / 27 ^ k), nI (w.length - 1 - i - k))) (fun s _ => s.2.toNatClampNeg) (fun s τ1 hI => ?_) (nI (pp_e27 w), nI (w.length - 1 - i)) τ ⟨rfl, 0, by omega, by simp⟩
  obtain ⟨rfl, k, hk, rfl⟩ := hI
  have hdl : pp_e27 w / 27 ^ k ≤ pp_e27 w := Nat.div_le_self _ _
  simp only [mm_X10_letter_81b, tt_br, tt_rt]
  rw [show (0 : Int32) = nI 0 by rfl, nI_leI (by omega) (by omega), pp_mDiv h31 0]
  refine ⟨fun q => Or.inr ⟨_, (by trivial), ?_⟩, fun q => Or.inl ⟨_, (by trivial), ⟨(by trivial), k + 1, by omega, ?_⟩, ?_⟩⟩
  · have hke : k = w.length - 1 - i := by omega
    simp only [mm_X10_letter_99, tt_rt]
    rw [show (27 : Int32) = nI 27 by rfl, pk_rem (by omega) (by omega) (by omega), hke]
    refine ⟨congrArg nI ?_, (by trivial)⟩
    rw [← pp_revD hi]
    exact pp_eB_dig (B := 27) (by decide) w.reverse _ hrev
  · rw [show w.length - 1 - i - k = (w.length - 1 - i - (k + 1)) + 1 by omega, show (-1 : Int32) = -nI 1 by rfl, nI_neg1]
  · simp only
    rw [show w.length - 1 - i - k = (w.length - 1 - i - (k + 1)) + 1 by omega, show (-1 : Int32) = -nI 1 by rfl, nI_neg1, nI_clamp (by omega), nI_clamp (by omega)]
    omega
theorem pp_wordAtn {c : Nat} {e : pp_Ed} (h : pp_RC τ c e) (he : pp_wfE e) (i : Nat) (hi : i < e.1) {x : Int32} (hx : ¬ pp_ln x (e.2 i).length) : mm_X2_wordAt c (nI i) x τ = some (0, τ) := by
  by_cases hn : x < 0
  · apply tt_of
    simp only [mm_X2_wordAt, tt_br, tt_rt]
    exact ⟨fun _ => ⟨by trivial, by trivial⟩, fun q => absurd hn q⟩
  · obtain ⟨j, hj, rfl⟩ := nI_of hn
    rw [pp_wordAt h he i hi j hj, if_neg (fun q => hx ((pp_ln_nI hj).mpr q))]
theorem pp_neg1 {j : Nat} (hj : j < 2 ^ 31) : ¬ nI j = -1 := by
  intro q
  have := nI_pos hj
  rw [q] at this
  exact this (by decide)
/-- letter -/
theorem pp_op6 (hT : pp_TL T) (hI : pp_I T τ) (y1 y2 y3 y4 : Int32) : ∃ τ1, mm_L_6 y1 y2 y3 y4 τ = some ((), τ1) ∧ pp_I T τ1 := by
  have hI0 := hI
  obtain ⟨t, bt, o, n, f, h, hs, ⟨wo, wn, wh, wb⟩, ⟨c1, c2, c3⟩, m1, m2, m3⟩ := hI
  obtain ⟨u1, u2, u3, u4⟩ := pp_pre (τ1 := τ) (fun a _ => rfl) m1 m2 m3
  rcases pp_hasLine c3.1 wo c3.2.1 wn y1 y2 with ⟨ok, e1⟩ | ⟨ok, e1⟩
  · obtain ⟨w, i, hw, rfl, rfl, hi⟩ := pp_OK_of ok
    have e2 : mm_X10_isLine (nI w) (nI i) (yy_up τ 112 0 0) = some (1, yy_up τ 112 0 0) := by
      rcases pp_isLine u3.1 wo u3.2.1 wn (nI w) (nI i) with ⟨-, e2⟩ | ⟨no, -⟩
      · exact e2
      · exact absurd ok no
    have ws := pp_sel_w (w := w) wo wn
    have l14 := ws.1
    have wl := ws.2 i hi
    have hC := pp_sel_C (w := w) c3.1 c3.2.1
    have hM := pp_sel_M hw u3.1 u3.2.1
    have eW := pp_wordsOf (i := i) hw hM l14 hi
    have l8 := wl.2.1
    by_cases hk : pp_ln y3 ((pp_sel w o n).2 i).length
    · have eK : mm_X10_isIn y3 0 (nI ((pp_sel w o n).2 i).length - 1) (yy_up τ 112 0 0) = some (1, yy_up τ 112 0 0) := by
        rcases pp_isIn0 (τ := yy_up τ 112 0 0) (n := ((pp_sel w o n).2 i).length) (by omega) y3 with ⟨-, e⟩ | ⟨no, -⟩
        · exact e
        · exact absurd hk no
      obtain ⟨k, hk31, rfl⟩ := nI_of hk.1
      have hkl := (pp_ln_nI hk31).mp hk
      have wf := wl.word hkl
      have h6 := wf.2.1
      have h1 := wf.1
      have eA := pp_wordAt hC ws i hi k hk31
      rw [if_pos hkl] at eA
      have eB := pp_word hw hM ws hi hkl
      have eL := pp_cLettersOf (τ := τ) wf
      have eM := pp_mLettersOf (τ := yy_up τ 112 0 0) wf
      have ne0 : ¬ nI (((pp_sel w o n).2 i).getD k []).length = 0 := by
        rw [show (0 : Int32) = nI 0 by rfl, nI_eq (by omega) (by omega)]
        omega
      by_cases y4n : y4 = -1
      · refine pp_refuse (r := nI (((pp_sel w o n).2 i).getD k []).length) hT hI0 (tt_of ?_) (tt_of ?_)
        · simp only [mm_X9_letter, tt_cle e1, tt_cle (pp_editionOf hw), mm_X2_lettersOf, tt_br, tt_rt]
          refine ⟨fun q => absurd q (by decide), fun _ => ?_⟩
          rw [tt_cl, tt_cle eA, tt_eq eL, tt_br, tt_br, tt_rt, tt_rt]
          exact ⟨fun q => absurd q ne0, fun _ => ⟨fun _ => ⟨rfl, rfl⟩, fun q => absurd y4n q⟩⟩
        · simp only [mm_X10_letter, tt_wF, tt_cle e2, tt_br, tt_cle eW, tt_cle eK, tt_cle eB, tt_cle eM, tt_rt]
          exact ⟨fun q => absurd q (by decide), fun _ => ⟨fun q => absurd q (by decide), fun _ => ⟨fun _ => ⟨by trivial, by trivial⟩, fun q => absurd y4n q⟩⟩⟩
      · by_cases hj : pp_ln y4 (((pp_sel w o n).2 i).getD k []).length
        · have eJ : mm_X10_isIn y4 0 (nI (((pp_sel w o n).2 i).getD k []).length - 1) (yy_up τ 112 0 0) = some (1, yy_up τ 112 0 0) := by
            rcases pp_isIn0 (τ := yy_up τ 112 0 0) (n := (((pp_sel w o n).2 i).getD k []).length) (by omega) y4 with ⟨-, e⟩ | ⟨no, -⟩
            · exact e
            · exact absurd hj no
          have y40 := hj.1
          obtain ⟨j, hj31, rfl⟩ := nI_of hj.1
          have hjl := (pp_ln_nI hj31).mp hj
          refine pp_refuse (r := nI ((((pp_sel w o n).2 i).getD k []).getD j 0)) hT hI0 (tt_of ?_) (tt_of ?_)
          · simp only [mm_X9_letter, tt_cle e1, tt_cle (pp_editionOf hw), mm_X2_lettersOf, tt_br, tt_rt]
            refine ⟨fun q => absurd q (by decide), fun _ => ?_⟩
            rw [tt_cl, tt_cle eA, tt_eq eL, tt_br, tt_br, tt_br, tt_br, nI_leI (by omega) (by omega)]
            refine ⟨fun q => absurd q ne0, fun _ => ⟨fun q => absurd q y4n, fun _ => ⟨fun q => absurd q y40, fun _ => ⟨fun q => by omega, fun _ => ?_⟩⟩⟩⟩
            rw [tt_cle (pp_editionOf hw), tt_cle eA, tt_cle (pp_letterIn wf (by omega)), tt_rt]
            exact ⟨rfl, rfl⟩
          · simp only [mm_X10_letter, tt_wF, tt_cle e2, tt_br, tt_cle eW, tt_cle eK, tt_cle eB, tt_cle eM, tt_cle eJ, tt_rt]
            refine ⟨fun q => absurd q (by decide), fun _ => ⟨fun q => absurd q (by decide), fun _ => ⟨fun q => absurd q y4n, fun _ => ⟨fun q => absurd q (by decide), fun _ => ?_⟩⟩⟩⟩
            rw [show nI (((pp_sel w o n).2 i).getD k []).length - 1 - nI j = nI ((((pp_sel w o n).2 i).getD k []).length - 1 - j) by rw [show (1 : Int32) = nI 1 by rfl, nI_sub (by omega), nI_sub (by omega)], tt_eq (pp_mLetterAt wf hjl)]
            exact ⟨rfl, rfl⟩
        · have eJ : mm_X10_isIn y4 0 (nI (((pp_sel w o n).2 i).getD k []).length - 1) (yy_up τ 112 0 0) = some (0, yy_up τ 112 0 0) := by
            rcases pp_isIn0 (τ := yy_up τ 112 0 0) (n := (((pp_sel w o n).2 i).getD k []).length) (by omega) y4 with ⟨no, -⟩ | ⟨-, e⟩
            · exact absurd no hj
            · exact e
          refine pp_refuse (r := -1) hT hI0 (tt_of ?_) (tt_of ?_)
          · simp only [mm_X9_letter, tt_cle e1, tt_cle (pp_editionOf hw), mm_X2_lettersOf, tt_br, tt_rt]
            refine ⟨fun q => absurd q (by decide), fun _ => ?_⟩
            rw [tt_cl, tt_cle eA, tt_eq eL, tt_br, tt_br, tt_br, tt_br, tt_rt]
            refine ⟨fun q => absurd q ne0, fun _ => ⟨fun q => absurd q y4n, fun _ => ⟨fun q => ⟨rfl, rfl⟩, fun q => ⟨fun _ => ⟨rfl, rfl⟩, fun q2 => ?_⟩⟩⟩⟩
            exfalso
            obtain ⟨j, hj31, rfl⟩ := nI_of q
            rw [nI_leI (by omega) (by omega)] at q2
            exact hj ((pp_ln_nI hj31).mpr (by omega))
          · simp only [mm_X10_letter, tt_wF, tt_cle e2, tt_br, tt_cle eW, tt_cle eK, tt_cle eB, tt_cle eM, tt_cle eJ, tt_rt]
            exact ⟨fun q => absurd q (by decide), fun _ => ⟨fun q => absurd q (by decide), fun _ => ⟨fun q => absurd q y4n, fun _ => ⟨fun _ => ⟨by trivial, by trivial⟩, fun q => absurd (by trivial) q⟩⟩⟩⟩
    · have eK : mm_X10_isIn y3 0 (nI ((pp_sel w o n).2 i).length - 1) (yy_up τ 112 0 0) = some (0, yy_up τ 112 0 0) := by
        rcases pp_isIn0 (τ := yy_up τ 112 0 0) (n := ((pp_sel w o n).2 i).length) (by omega) y3 with ⟨no, -⟩ | ⟨-, e⟩
        · exact absurd no hk
        · exact e
      have eA := pp_wordAtn hC ws i hi hk
      refine pp_refuse (r := -1) hT hI0 (tt_of ?_) (tt_of ?_)
      · simp only [mm_X9_letter, tt_cle e1, tt_cle (pp_editionOf hw), mm_X2_lettersOf, tt_br, tt_rt]
        refine ⟨fun q => absurd q (by decide), fun _ => ?_⟩
        rw [tt_cl, tt_cle eA, tt_eq pp_cLettersOf0, tt_br, tt_rt]
        exact ⟨fun _ => ⟨rfl, rfl⟩, fun q => absurd rfl q⟩
      · simp only [mm_X10_letter, tt_wF, tt_cle e2, tt_br, tt_cle eW, tt_cle eK, tt_rt]
        exact ⟨fun q => absurd q (by decide), fun _ => ⟨fun _ => ⟨by trivial, by trivial⟩, fun q => absurd (by trivial) q⟩⟩
  · refine pp_refuse (r := -1) hT hI0 (tt_of ?_) (tt_of ?_)
    · simp only [mm_X9_letter, tt_cle e1, tt_br, tt_rt]
      exact ⟨fun _ => ⟨by trivial, by trivial⟩, fun q => absurd (by trivial) q⟩
    · have e2 : mm_X10_isLine y1 y2 (yy_up τ 112 0 0) = some (0, yy_up τ 112 0 0) := by
        rcases pp_isLine u3.1 wo u3.2.1 wn y1 y2 with ⟨no, -⟩ | ⟨-, e2⟩
        · exact absurd no ok
        · exact e2
      simp only [mm_X10_letter, tt_wF, tt_cle e2, tt_br, tt_rt]
      exact ⟨fun _ => ⟨by trivial, by trivial⟩, fun q => absurd (by trivial) q⟩
end
