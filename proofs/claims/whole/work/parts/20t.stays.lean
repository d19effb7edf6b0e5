/-! WORDS THAT STAY -/
def pp_nx (E : Nat → Nat → Bool) (m i f : Nat) : Nat := if f < m ∧ ¬ E i f = true then pp_nx E m i (f + 1) else f
termination_by m - f
decreasing_by all_goals omega
section
variable {E : Nat → Nat → Bool} {n m : Nat}
theorem pp_nx_s {i f : Nat} (h : f < m) (hE : ¬ E i f = true) : pp_nx E m i f = pp_nx E m i (f + 1) := by
  conv => lhs; rw [pp_nx]
  rw [if_pos ⟨h, hE⟩]
theorem pp_nx_0 {i f : Nat} (h : ¬ (f < m ∧ ¬ E i f = true)) : pp_nx E m i f = f := by
  rw [pp_nx, if_neg h]
theorem pp_nx_p {i : Nat} : ∀ (d f : Nat), m - f ≤ d → f ≤ m → f ≤ pp_nx E m i f ∧ pp_nx E m i f ≤ m ∧ (∀ c, f ≤ c → c < pp_nx E m i f → ¬ E i c = true) ∧ (pp_nx E m i f < m → E i (pp_nx E m i f) = true) ∧ pp_lc E n m i f ≤ max (pp_lc E n m (i + 1) f) (pp_lc E n m i (pp_nx E m i f))
  | 0, f, h, hf => by
    rw [pp_nx_0 (by omega)]
    exact ⟨by omega, by omega, fun c _ _ => by omega, fun q => by omega, by omega⟩
  | d + 1, f, h, hf => by
    by_cases hc : f < m ∧ ¬ E i f = true
    · obtain ⟨a1, a2, a3, a4, a5⟩ := pp_nx_p (i := i) d (f + 1) (by omega) (by omega)
      rw [pp_nx_s hc.1 hc.2]
      refine ⟨by omega, a2, fun c c1 c2 => ?_, a4, ?_⟩
      · by_cases e : c = f
        · subst e; exact hc.2
        · exact a3 c (by omega) c2
      · have b1 := pp_lc_j (E := E) (n := n) (m := m) (i := i + 1) (j := f)
        by_cases hi : i < n
        · rw [pp_lc_N ⟨hi, hc.1⟩ hc.2]
          omega
        · rw [pp_lc_out (by omega)]
          omega
    · rw [pp_nx_0 hc]
      refine ⟨by omega, hf, fun c _ _ => by omega, fun q => ?_, by omega⟩
      by_cases hE : E i f = true
      · exact hE
      · exact absurd ⟨q, hE⟩ hc
theorem pp_lc_mono {i : Nat} : ∀ (d f : Nat), pp_lc E n m i (f + d) ≤ pp_lc E n m i f
  | 0, f => Nat.le_refl _
  | d + 1, f => by
    have h1 := pp_lc_mono (i := i) d f
    have h2 := pp_lc_j (E := E) (n := n) (m := m) (i := i) (j := f + d)
    rw [show f + (d + 1) = f + d + 1 by omega]
    omega
theorem pp_lc_mn {i f c : Nat} (h : f ≤ c) : pp_lc E n m i c ≤ pp_lc E n m i f := by
  have := pp_lc_mono (E := E) (n := n) (m := m) (i := i) (c - f) f
  rw [show f + (c - f) = c by omega] at this
  exact this
end
abbrev pp_q (E : Nat → Nat → Bool) (n m i : Nat) (s : Nat × Nat) : Prop := 0 < s.1 ∧ pp_nx E m i s.2 < m ∧ pp_lc E n m (i + 1) (pp_nx E m i s.2 + 1) + 1 = s.1
def pp_ss (E : Nat → Nat → Bool) (n m : Nat) : Nat → Nat × Nat
  | 0 => (pp_lc E n m 0 0, 0)
  | i + 1 => if pp_q E n m i (pp_ss E n m i) then ((pp_ss E n m i).1 - 1, pp_nx E m i (pp_ss E n m i).2 + 1) else pp_ss E n m i
def pp_pa (E : Nat → Nat → Bool) (n m k : Nat) : Int32 := if pp_q E n m k (pp_ss E n m k) then nI (pp_nx E m k (pp_ss E n m k).2) else -1
theorem pp_ss_inv {E : Nat → Nat → Bool} {n m : Nat} : ∀ i, i ≤ n → (pp_ss E n m i).2 ≤ m ∧ pp_lc E n m i (pp_ss E n m i).2 = (pp_ss E n m i).1
  | 0, _ => ⟨Nat.zero_le _, rfl⟩
  | i + 1, hi => by
    obtain ⟨h1, h2⟩ := pp_ss_inv (E := E) (n := n) (m := m) i (by omega)
    obtain ⟨a1, a2, a3, a4, a5⟩ := pp_nx_p (E := E) (n := n) (m := m) (i := i) _ (pp_ss E n m i).2 (Nat.le_refl _) h1
    show (if pp_q E n m i (pp_ss E n m i) then ((pp_ss E n m i).1 - 1, pp_nx E m i (pp_ss E n m i).2 + 1) else pp_ss E n m i).2 ≤ m ∧ pp_lc E n m (i + 1) (if pp_q E n m i (pp_ss E n m i) then ((pp_ss E n m i).1 - 1, pp_nx E m i (pp_ss E n m i).2 + 1) else pp_ss E n m i).2 = (if pp_q E n m i (pp_ss E n m i) then ((pp_ss E n m i).1 - 1, pp_nx E m i (pp_ss E n m i).2 + 1) else pp_ss E n m i).1
    by_cases hq : pp_q E n m i (pp_ss E n m i)
    · rw [if_pos hq]
      obtain ⟨q1, q2, q3⟩ := hq
      exact ⟨by show _ + 1 ≤ m; omega, by show pp_lc E n m (i + 1) (_ + 1) = _ - 1; omega⟩
    · rw [if_neg hq]
      refine ⟨h1, ?_⟩
      have b1 := pp_lc_i (E := E) (n := n) (m := m) (i := i) (j := (pp_ss E n m i).2)
      by_cases hj : pp_nx E m i (pp_ss E n m i).2 < m
      · have e1 := pp_lc_E (E := E) (n := n) (m := m) (i := i) (j := pp_nx E m i (pp_ss E n m i).2) ⟨by omega, hj⟩ (a4 hj)
        have e2 := pp_lc_mn (E := E) (n := n) (m := m) (i := i) a1
        by_cases ht : 0 < (pp_ss E n m i).1
        · have : ¬ pp_lc E n m (i + 1) (pp_nx E m i (pp_ss E n m i).2 + 1) + 1 = (pp_ss E n m i).1 := fun q => hq ⟨ht, hj, q⟩
          omega
        · omega
      · rw [pp_lc_out (i := i) (j := pp_nx E m i (pp_ss E n m i).2) (by omega)] at a5
        omega
theorem pp_ss_le {E : Nat → Nat → Bool} {n m : Nat} {i : Nat} (hi : i ≤ n) : (pp_ss E n m i).1 ≤ n ∧ (pp_ss E n m i).2 ≤ m := by
  obtain ⟨h1, h2⟩ := pp_ss_inv (E := E) (m := m) i hi
  have := pp_lc_n (E := E) (n := n) (m := m) (i := i) (j := (pp_ss E n m i).2)
  omega
/-- the class: the next word that is like -/
theorem pp_nextLike {τ : yy_T} {k0 n m i f : Nat} {E : Nat → Nat → Bool} (h2 : τ k0 4 = nI m) (hm : m ≤ 14) (hi : i < n) (hE : ∀ i j, i < n → j < m → (τ (k0 + 1) i = τ (k0 + 2) j ↔ E i j = true)) (hf : f ≤ m) : mm_X0_nextLike k0 (τ (k0 + 1) i) (nI f) τ = some (nI (pp_nx E m i f), τ) := by
  apply tt_of
  simp only [mm_X0_nextLike, mm_X0_nextLike_2, mm_X0_nextLike_26, tt_cl, tt_rt]
  refine tt_up m (fun c τ1 => τ1 = τ ∧ pp_nx E m i c = pp_nx E m i f) (fun c τ1 hc hI => ?_) f τ hf ⟨rfl, rfl⟩
  obtain ⟨rfl, e⟩ := hI
  simp only [mm_X0_nextLike_2b, tt_rF, tt_br, tt_rt, tt_rA, h2]
  rw [nI_leI (by omega) (by omega), nI_clamp (by omega)]
  refine ⟨fun hle => Or.inr ⟨_, by trivial, by rw [← e, pp_nx_0 (by omega)], by trivial⟩, fun hle => ⟨pp_in (by omega) (by decide), ?_⟩⟩
  have he := hE i c hi (by omega)
  refine ⟨fun q => Or.inr ⟨_, by trivial, by rw [← e, pp_nx_0 (fun z => z.2 (he.mp q.symm))], by trivial⟩, fun q => Or.inl ⟨by omega, by rw [nI_1], by trivial, ?_⟩⟩
  rw [← e, pp_nx_s (by omega) (fun z => q (he.mpr z).symm)]
/-- the class: partnerOf, at any number -/
theorem pp_partnerOf {τ : yy_T} {k0 n m : Nat} {E : Nat → Nat → Bool} (h1 : τ k0 3 = nI n) (h2 : τ k0 4 = nI m) (hn : n ≤ 14) (hm : m ≤ 14) (hE : ∀ i j, i < n → j < m → (τ (k0 + 1) i = τ (k0 + 2) j ↔ E i j = true)) (hL : pp_LT τ k0 n m E) (x : Int32) : (∃ k, k < n ∧ x = nI k ∧ mm_X0_partnerOf k0 x τ = some (pp_pa E n m k, τ)) ∨ (¬ pp_ln x n ∧ mm_X0_partnerOf k0 x τ = some (-1, τ)) := by
  have e00 : τ (k0 + 3) 0 = nI (pp_lc E n m 0 0) := hL 0 0 (by omega) (by omega)
  have main : ∀ (r : Int32), (∀ k, k < n → x = nI k → r = pp_pa E n m k) → (¬ pp_ln x n → r = -1) → mm_X0_partnerOf k0 x τ = some (r, τ) := by
    intro r hr1 hr2
    apply tt_of
    simp only [mm_X0_partnerOf, mm_X0_partnerOf_12, tt_rA, tt_cl]
    refine ⟨by decide, ?_⟩
    show tt (yy_lp _ (τ (k0 + 3) 0, 0, 0)) τ _
    rw [e00]
    refine tt_upx n (fun i (s : Nat × Nat) => (nI s.1, nI s.2, nI i)) (fun i s τ1 => τ1 = τ ∧ s = pp_ss E n m i ∧ ((r = -1 ∧ ∀ k, i ≤ k → k < n → x ≠ nI k) ∨ ∃ k, i ≤ k ∧ k < n ∧ x = nI k)) (fun i s τ1 hi hI => ?_) 0 (pp_lc E n m 0 0, 0) τ (Nat.zero_le _) ⟨rfl, rfl, ?_⟩
    · obtain ⟨rfl, rfl, hx⟩ := hI
      obtain ⟨l1, l2⟩ := pp_ss_le (E := E) (n := n) (m := m) (i := i) hi
      simp only [mm_X0_partnerOf_12b, tt_rF, tt_br, tt_rt, tt_rA, h1]
      rw [nI_leI (by omega) (by omega)]
      refine ⟨fun hle => Or.inr ⟨.inl (), by trivial, ?_⟩, fun hle => ⟨fun hlt => Or.inr ⟨.inl (), by trivial, ?_⟩, fun hlt => ⟨fun h0 => Or.inr ⟨.inl (), by trivial, ?_⟩, fun h0 => ⟨pp_in (by omega) (by decide), ?_⟩⟩⟩⟩
      · simp only [Sum.elim, mm_X0_partnerOf_100, tt_rt]
        refine ⟨?_, by trivial⟩
        rcases hx with ⟨q, -⟩ | ⟨k, k1, k2, k3⟩
        · exact q.symm
        · omega
      · simp only [Sum.elim, mm_X0_partnerOf_100, tt_rt]
        refine ⟨?_, by trivial⟩
        rcases hx with ⟨q, -⟩ | ⟨k, k1, k2, k3⟩
        · exact q.symm
        · subst k3
          rw [nI_ltI (by omega) (by omega)] at hlt
          omega
      · simp only [Sum.elim, mm_X0_partnerOf_100, tt_rt]
        refine ⟨?_, by trivial⟩
        rw [show (0 : Int32) = nI 0 by rfl, nI_leI (by omega) (by omega)] at h0
        rcases hx with ⟨q, -⟩ | ⟨k, k1, k2, k3⟩
        · exact q.symm
        · rw [hr1 k k2 k3]
          have z : ∀ d, (pp_ss E n m (i + d)).1 = 0 := by
            intro d
            induction d with
            | zero => show (pp_ss E n m i).1 = 0; omega
            | succ d ih =>
              show (if pp_q E n m (i + d) (pp_ss E n m (i + d)) then _ else pp_ss E n m (i + d)).1 = 0
              rw [if_neg (fun q => by have := q.1; omega)]
              exact ih
          unfold pp_pa
          have := z (k - i)
          rw [show i + (k - i) = k by omega] at this
          rw [if_neg (fun q => by have := q.1; omega)]
      · rw [show (0 : Int32) = nI 0 by rfl, nI_leI (by omega) (by omega)] at h0
        obtain ⟨a1, a2, a3, a4, a5⟩ := pp_nx_p (E := E) (n := n) (m := m) (i := i) _ (pp_ss E n m i).2 (Nat.le_refl _) l2
        rw [nI_clamp (by omega), tt_cle (pp_nextLike h2 hm (show i < n by omega) hE l2), tt_rF, h2, tt_br, nI_leI (by omega) (by omega)]
        have stay : ¬ pp_q E n m i (pp_ss E n m i) → tt (mm_X0_partnerOf_94 k0 x (nI (pp_ss E n m i).1) (nI (pp_ss E n m i).2) (nI i)) τ1 (fun y τ2 => (i < n ∧ ∃ x1 : Nat × Nat, y = .inl (nI x1.1, nI x1.2, nI (i + 1)) ∧ τ2 = τ1 ∧ x1 = pp_ss E n m (i + 1) ∧ ((r = -1 ∧ ∀ k, i + 1 ≤ k → k < n → x ≠ nI k) ∨ ∃ k, i + 1 ≤ k ∧ k < n ∧ x = nI k)) ∨ ∃ r2, y = .inr r2 ∧ tt (Sum.elim (fun w => mm_X0_partnerOf_100) (fun w => mm_X0_partnerOf_83 w) r2) τ2 (fun r3 τ3 => r3 = r ∧ τ3 = τ1)) := by
          intro hnq
          have es : pp_ss E n m (i + 1) = pp_ss E n m i := if_neg hnq
          simp only [mm_X0_partnerOf_94, tt_rt]
          refine Or.inl ⟨by omega, pp_ss E n m i, by rw [nI_1], by trivial, es.symm, ?_⟩
          rcases hx with ⟨q, q2⟩ | ⟨k, k1, k2, k3⟩
          · exact Or.inl ⟨q, fun k z1 z2 => q2 k (by omega) z2⟩
          · by_cases e : k = i
            · subst e
              refine Or.inl ⟨?_, fun k9 z1 z2 z3 => ?_⟩
              · rw [hr1 k k2 k3]
                unfold pp_pa
                rw [if_neg hnq]
              · rw [k3, nI_eq (by omega) (by omega)] at z3
                omega
            · exact Or.inr ⟨k, by omega, k2, k3⟩
        refine ⟨fun q => stay (fun z => by have := z.2.1; omega), fun q => ?_⟩
        have rl := hL (i + 1) (pp_nx E m i (pp_ss E n m i).2 + 1) (by omega) (by omega)
        have lb := pp_lc_n (E := E) (n := n) (m := m) (i := i + 1) (j := pp_nx E m i (pp_ss E n m i).2 + 1)
        rw [show 15 * (i + 1) + (pp_nx E m i (pp_ss E n m i).2 + 1) = (i + 1) * 15 + pp_nx E m i (pp_ss E n m i).2 + 1 by omega] at rl
        simp only [tt_rA, tt_br]
        rw [show (15 : Int32) = nI 15 by rfl, show (1 : Int32) = nI 1 by rfl, nI_add, nI_mul, nI_add, nI_add, nI_clamp (by omega), rl, nI_sub (by omega), nI_eq (by omega) (by omega)]
        refine ⟨pp_in (by omega) (by decide), fun q1 => ?_, fun q1 => stay (fun z => by have := z.2.2; omega)⟩
        have hq : pp_q E n m i (pp_ss E n m i) := ⟨by omega, by omega, by omega⟩
        refine ⟨fun q2 => ?_, fun q2 => ?_⟩
        · rw [tt_rt]
          refine Or.inr ⟨_, rfl, ?_⟩
          simp only [Sum.elim, mm_X0_partnerOf_83, tt_rt]
          refine ⟨?_, by trivial⟩
          rw [hr1 i (by omega) q2.symm]
          unfold pp_pa
          rw [if_pos hq]
        · simp only [mm_X0_partnerOf_94, tt_rt]
          have es : pp_ss E n m (i + 1) = ((pp_ss E n m i).1 - 1, pp_nx E m i (pp_ss E n m i).2 + 1) := if_pos hq
          refine Or.inl ⟨by omega, ((pp_ss E n m i).1 - 1, pp_nx E m i (pp_ss E n m i).2 + 1), ?_, by trivial, es.symm, ?_⟩
          · have e9 : nI (pp_ss E n m i).1 + -nI 1 = nI ((pp_ss E n m i).1 - 1) := by
              have := nI_neg1 ((pp_ss E n m i).1 - 1)
              rw [Nat.sub_add_cancel (by omega)] at this
              exact this
            rw [e9, nI_add, nI_1]
          · rcases hx with ⟨z, z2⟩ | ⟨k, k1, k2, k3⟩
            · exact Or.inl ⟨z, fun k w1 w2 => z2 k (by omega) w2⟩
            · refine Or.inr ⟨k, ?_, k2, k3⟩
              have : k ≠ i := fun e => q2 (by rw [k3, e])
              omega
    · by_cases hx : pp_ln x n
      · obtain ⟨k, hk, rfl⟩ := nI_of hx.1
        have := (pp_ln_nI hk).mp hx
        exact Or.inr ⟨k, by omega, this, rfl⟩
      · refine Or.inl ⟨hr2 hx, fun k _ k2 k3 => hx ?_⟩
        rw [k3]
        exact (pp_ln_nI (by omega)).mpr k2
  by_cases hx : pp_ln x n
  · obtain ⟨k, hk, rfl⟩ := nI_of hx.1
    have hkn := (pp_ln_nI hk).mp hx
    refine Or.inl ⟨k, hkn, rfl, main _ (fun k2 h2 h3 => ?_) (fun q => absurd hx q)⟩
    rw [(nI_eq (by omega) (by omega)).mp h3]
  · exact Or.inr ⟨hx, main _ (fun k2 k3 k4 => absurd (by rw [k4]; exact (pp_ln_nI (by omega)).mpr k3) hx) (fun _ => rfl)⟩
/-- the reference: stays, behind what it shares -/
theorem pp_mStays {τ : yy_T} {o n : pp_Ed} (ho : pp_RM τ 114 0 o) (wo : pp_wfE o) (hn : pp_RM τ 114 127 n) (wn : pp_wfE n) {i j k : Nat} (hi : i < o.1) (hj : j < n.1) (hk : k < (o.2 i).length) (hS : pp_ST τ (o.2 i) (n.2 j)) : mm_X10_stays_46 (nI i) (nI k) (nI j) (nI (pp_sh (o.2 i) (n.2 j))) 0 0 τ = some (pp_pa (pp_EW (o.2 i) (n.2 j)) (o.2 i).length (n.2 j).length k, τ) := by
  have w1 := wo.2 i hi
  have w2 := wn.2 j hj
  have l1 := w1.2.1
  have l2 := w2.2.1
  have e2 : mm_X10_wordsOf 1 (nI j) τ = some (nI (n.2 j).length, τ) := pp_wordsOf (w := 1) (by decide) hn wn.1 hj
  have x1 : ∀ a, a < (o.2 i).length → mm_X10_word 0 (nI i) (nI a) τ = some (nI (pp_e27 ((o.2 i).getD a [])), τ) := fun a ha => pp_word (w := 0) (by decide) ho wo hi ha
  have x2 : ∀ a, a < (n.2 j).length → mm_X10_word 1 (nI j) (nI a) τ = some (nI (pp_e27 ((n.2 j).getD a [])), τ) := fun a ha => pp_word (w := 1) (by decide) hn wn hj ha
  generalize hl1 : o.2 i = L1 at *
  generalize hl2 : n.2 j = L2 at *
  have key : ∀ a b, a < L1.length → b < L2.length → (nI (pp_e27 (L1.getD a [])) = nI (pp_e27 (L2.getD b [])) ↔ pp_EW L1 L2 a b = true) := by
    intro a b ha hb
    have v1 := w1.word ha
    have v2 := w2.word hb
    have c1 := pp_e27_lt v1
    have c2 := pp_e27_lt v2
    rw [nI_eq (by omega) (by omega), pp_EW_iff]
    exact ⟨fun q => pp_e27_inj v1 v2 q, fun q => by rw [q]⟩
  apply tt_of
  simp only [mm_X10_stays_46, tt_cl]
  refine tt_upx k (fun a (s : Nat × Nat) => (nI s.1, nI s.2, nI a)) (fun a s τ1 => τ1 = τ ∧ s = pp_ss (pp_EW L1 L2) L1.length L2.length a) (fun a s τ1 ha hI => ?_) 0 (pp_sh L1 L2, 0) τ (Nat.zero_le _) ⟨rfl, rfl⟩
  obtain ⟨rfl, rfl⟩ := hI
  obtain ⟨b1, b2⟩ := pp_ss_le (E := pp_EW L1 L2) (n := L1.length) (m := L2.length) (i := a) (by omega)
  obtain ⟨-, b3⟩ := pp_ss_inv (E := pp_EW L1 L2) (n := L1.length) (m := L2.length) a (by omega)
  obtain ⟨a1, a2, a3, a4, a5⟩ := pp_nx_p (E := pp_EW L1 L2) (n := L1.length) (m := L2.length) (i := a) _ (pp_ss (pp_EW L1 L2) L1.length L2.length a).2 (Nat.le_refl _) b2
  simp only [mm_X10_stays_46b, tt_br, tt_rt]
  rw [nI_ltI (by omega) (by omega)]
  refine ⟨fun q => by omega, fun _ => ⟨fun h0 => Or.inr ⟨.inl (), by trivial, ?_⟩, fun h0 => ?_⟩⟩
  · simp only [Sum.elim, mm_X10_stays_166, tt_rt]
    refine ⟨?_, by trivial⟩
    rw [show (0 : Int32) = nI 0 by rfl, nI_leI (by omega) (by omega)] at h0
    have z : ∀ d, (pp_ss (pp_EW L1 L2) L1.length L2.length (a + d)).1 = 0 := by
      intro d
      induction d with
      | zero => show (pp_ss (pp_EW L1 L2) L1.length L2.length a).1 = 0; omega
      | succ d ih =>
        show (if pp_q (pp_EW L1 L2) L1.length L2.length (a + d) (pp_ss (pp_EW L1 L2) L1.length L2.length (a + d)) then _ else pp_ss (pp_EW L1 L2) L1.length L2.length (a + d)).1 = 0
        rw [if_neg (fun q => by have := q.1; omega)]
        exact ih
    unfold pp_pa
    have := z (k - a)
    rw [show a + (k - a) = k by omega] at this
    rw [if_neg (fun q => by have := q.1; omega)]
  · rw [show (0 : Int32) = nI 0 by rfl, nI_leI (by omega) (by omega)] at h0
    generalize hE : pp_EW L1 L2 = E at *
    generalize hs : pp_ss E L1.length L2.length a = s at *
    -- what the inner loop finds
    have inner : ∀ (Q : (Int32 × Int32 × Int32) ⊕ (Unit ⊕ Int32) → yy_T → Prop), tt (mm_X10_stays_133 (nI i) (nI k) (nI j) (nI s.1) (nI s.2) (nI a) (if pp_q E L1.length L2.length a s then nI (pp_nx E L2.length a s.2) else -1)) τ1 Q → tt (mm_X10_stays_64 (nI i) (nI k) (nI j) (nI s.1) (nI s.2) (nI a) (-1) (nI s.2)) τ1 Q := by
      intro Q hQ
      simp only [mm_X10_stays_64, tt_cl]
      refine tt_upx (L2.length + 1) (fun c (x : Int32) => (x, nI c)) (fun c x τ2 => τ2 = τ1 ∧ ((x = -1 ∧ s.2 ≤ c ∧ c ≤ L2.length ∧ (pp_q E L1.length L2.length a s → c ≤ pp_nx E L2.length a s.2)) ∨ (pp_q E L1.length L2.length a s ∧ x = nI (pp_nx E L2.length a s.2)))) (fun c x τ2 hc hI => ?_) s.2 (-1) τ1 (by omega) ⟨rfl, Or.inl ⟨rfl, Nat.le_refl _, b2, fun _ => a1⟩⟩
      obtain ⟨rfl, hx⟩ := hI
      simp only [mm_X10_stays_64b, tt_cle e2, tt_br, tt_rt]
      rw [nI_leI (by omega) (by omega)]
      rcases hx with ⟨rfl, c1, c2, c3⟩ | ⟨hq, rfl⟩
      · refine ⟨fun hle => Or.inr ⟨-1, by trivial, ?_⟩, fun hle => ⟨fun _ => ?_, fun q => absurd (by trivial) q⟩⟩
        · rw [if_neg (fun z => by have := c3 z; have := z.2.1; omega)] at hQ
          exact hQ
        · have hke := key a c (by omega) (by omega)
          have rl := hS (a + 1) (c + 1) (by omega) (by omega)
          have lb := pp_lc_n (E := E) (n := L1.length) (m := L2.length) (i := a + 1) (j := c + 1)
          unfold pp_lw at rl
          rw [hE] at rl
          rw [show 9 * (a + 1) + (c + 1) = 9 * a + 10 + c by omega] at rl
          rw [tt_cle (x1 a (by omega)), tt_cle (x2 c (by omega)), tt_br, hke]
          have go : (pp_q E L1.length L2.length a s → c + 1 ≤ pp_nx E L2.length a s.2) → tt (mm_X10_stays_127 (nI i) (nI k) (nI j) (nI s.1) (nI s.2) (nI a) (-1) (nI c)) τ2 (fun y τ1 => (c < L2.length + 1 ∧ ∃ x1, y = .inl (x1, nI (c + 1)) ∧ τ1 = τ2 ∧ ((x1 = -1 ∧ s.2 ≤ c + 1 ∧ c + 1 ≤ L2.length ∧ (pp_q E L1.length L2.length a s → c + 1 ≤ pp_nx E L2.length a s.2)) ∨ (pp_q E L1.length L2.length a s ∧ x1 = nI (pp_nx E L2.length a s.2)))) ∨ ∃ r, y = .inr r ∧ tt (mm_X10_stays_133 (nI i) (nI k) (nI j) (nI s.1) (nI s.2) (nI a) r) τ1 Q) := by
            intro hn2
            simp only [mm_X10_stays_127, tt_rt]
            exact Or.inl ⟨by omega, -1, by rw [nI_1], by trivial, Or.inl ⟨rfl, by omega, by omega, hn2⟩⟩
          refine ⟨fun he => ?_, fun he => go (fun z => ?_)⟩
          · simp only [tt_rA, tt_br]
            rw [show (9 : Int32) = nI 9 by rfl, show (10 : Int32) = nI 10 by rfl, show (1 : Int32) = nI 1 by rfl, nI_mul, nI_add, nI_add, nI_clamp (by omega), rl, nI_sub (by omega), nI_eq (by omega) (by omega)]
            have nxle : pp_nx E L2.length a s.2 ≤ c := by
              refine Nat.not_lt.mp fun z => ?_
              exact a3 c c1 z he
            have mon := pp_lc_mn (E := E) (n := L1.length) (m := L2.length) (i := a + 1) (show pp_nx E L2.length a s.2 + 1 ≤ c + 1 by omega)
            have hnm : pp_nx E L2.length a s.2 < L2.length := by omega
            have e1 := pp_lc_E (E := E) (n := L1.length) (m := L2.length) (i := a) (j := pp_nx E L2.length a s.2) ⟨by omega, hnm⟩ (a4 hnm)
            have e3 := pp_lc_mn (E := E) (n := L1.length) (m := L2.length) (i := a) a1
            refine ⟨pp_in (by omega) (by decide), fun q => ?_, fun q => go (fun z => ?_)⟩
            · have hq : pp_q E L1.length L2.length a s := ⟨by omega, hnm, by omega⟩
              have hcn : c = pp_nx E L2.length a s.2 := by have := c3 hq; omega
              simp only [mm_X10_stays_127, tt_rt]
              exact Or.inl ⟨by omega, nI c, by rw [nI_1], by trivial, Or.inr ⟨hq, by rw [hcn]⟩⟩
            · have z1 := c3 z
              have z2 := z.2.2
              have : c = pp_nx E L2.length a s.2 := by omega
              subst this
              omega
          · have z1 := c3 z
            have : c ≠ pp_nx E L2.length a s.2 := fun w => he (by rw [w]; exact a4 z.2.1)
            omega
      · refine ⟨fun hle => Or.inr ⟨_, by trivial, ?_⟩, fun hle => ⟨fun q => absurd q (pp_neg1 (by omega)), fun q => Or.inr ⟨_, by trivial, ?_⟩⟩⟩
        · rw [if_pos hq] at hQ
          exact hQ
        · rw [if_pos hq] at hQ
          exact hQ
    refine inner _ ?_
    simp only [mm_X10_stays_133, tt_br, tt_rt]
    rw [nI_eq (by omega) (by omega)]
    refine ⟨fun q => Or.inr ⟨_, by trivial, ?_⟩, fun q => ⟨fun q2 => ?_, fun q2 => ?_⟩⟩
    · subst q
      simp only [Sum.elim, mm_X10_stays_139, tt_rt]
      refine ⟨?_, by trivial⟩
      unfold pp_pa
      rw [hs]
    · have hnq : ¬ pp_q E L1.length L2.length a s := fun z => by
        rw [if_pos z] at q2
        exact pp_neg1 (by omega) q2
      simp only [mm_X10_stays_160, tt_rt]
      refine Or.inl ⟨by omega, s, by rw [nI_1], by trivial, ?_⟩
      show s = if pp_q E L1.length L2.length a (pp_ss E L1.length L2.length a) then _ else pp_ss E L1.length L2.length a
      rw [hs, if_neg hnq]
    · have hq : pp_q E L1.length L2.length a s := by
        by_cases z : pp_q E L1.length L2.length a s
        · exact z
        · rw [if_neg z] at q2
          exact absurd rfl q2
      simp only [mm_X10_stays_160, tt_rt]
      rw [if_pos hq]
      refine Or.inl ⟨by omega, (s.1 - 1, pp_nx E L2.length a s.2 + 1), ?_, by trivial, ?_⟩
      · rw [show s.1 = (s.1 - 1) + 1 by omega, show (-1 : Int32) = -nI 1 by rfl, nI_neg1, nI_1, nI_1]
        simp only [Nat.add_sub_cancel]
      · show _ = if pp_q E L1.length L2.length a (pp_ss E L1.length L2.length a) then ((pp_ss E L1.length L2.length a).1 - 1, pp_nx E L2.length a (pp_ss E L1.length L2.length a).2 + 1) else pp_ss E L1.length L2.length a
        rw [hs, if_pos hq]
