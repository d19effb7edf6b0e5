/-! THE LAW'S CASES, one by one -/
def yl_no : yy_M Unit := fun _ => none
theorem room_ok : room_1 = { frames := 2048, cells := 601024, slots := 7293034, locals := 84000 } := rfl
section
variable {p : Program} {l : Launch} {e : Env} {s : State} {m : MethodId} {args : Array Value} {below : List Frame} {meth : Method} {c : Code} {H : Heap} {locs : List Loc} {ls : Array Slot} {Q : State → Prop} {D : va_G} {κ : Nat → Nat} {τ : yy_T} {b L j qo c0 s0 cells slots pc : Nat} {xs : Nat → Int32} {u : Nat → Int64} {rest : List Value} {R : Room} {ext : va_W}
theorem yl_scr {cc : ByteArray} {own : String} {nL k : Nat} {i : Int32} (C : yy_C D κ p m c cc nL s args own) (Z : yy_Z D κ ext (fun q : Nat => s.heap.size ≤ q) s.heap τ H locs) (hX : va_X b L xs s s.heap) (hbl : b < s.heap.size) (hL : L ≤ 3072) (hi : i = nI (6 * j + k)) (hk : 6 * j + k < L) (hdg : decode cc pc = .ok (.iaload, 1))
    (kk : W p l e R s m args below meth c H locs cells slots Q (F0 m (pc + 1) ls (.int (xs (6 * j + k)) :: rest))) : W p l e R s m args below meth c H locs cells slots Q (F0 m pc ls (.int i :: .ref b :: rest)) := by
  refine va_sld C.1.1 C.1.2.1 hX hbl (Nat.not_le.mpr hbl) Z.2.2.1 (by rw [hi]; exact vp_in_nI hk (by omega)) hdg ?_
  rw [hi, nI_clamp (by omega)]
  exact kk

noncomputable def mm_L_0 (y1 : Int32) (y2 : Int32) (y3 : Int32) (y4 : Int32) (y5 : Int32) : yy_M Unit :=
  yy_cl (mm_X9_feed y1 y2 y3 y4 y5) (fun r1 => yy_cl (mm_X10_feed y1 y2 y3 y4 y5) (fun r2 => yy_br (r1 = r2) (yy_rt ()) yl_no))
set_option maxHeartbeats 4000000 in
set_option maxRecDepth 100000 in
theorem wl_0 (hX : va_X b L xs s s.heap) (hbl : b < s.heap.size) (hL : L ≤ 3072) (hj : 6 * j + 6 ≤ L) (hc0 : c0 + 120 ≤ 601024) (hs0 : s0 + 1680 ≤ 7293034) {res : Unit × yy_T} (C : yy_C D κ p m c cL_law 7 s args RL) (Z : yy_Z D κ [yl_o κ qo u] (fun q : Nat => s.heap.size ≤ q) s.heap τ H locs) (hl : lv_has ls 7 [(0, .ref b), (1, .ref (κ 4 + 0)), (2, .ref (κ 4 + 112)), (3, .ref qo), (4, .int (nI (6 * j)))]) (h : mm_L_0 (xs (6 * j + 1)) (xs (6 * j + 2)) (xs (6 * j + 3)) (xs (6 * j + 4)) (xs (6 * j + 5)) τ = some res) (kE : ∀ (u : Nat → Int64) (τ1 : yy_T) (H1 : Heap) (locs1 : List Loc) (ls1 : Array Slot), res = ((), τ1) → yy_Z D κ [yl_o κ qo u] (fun q : Nat => s.heap.size ≤ q) s.heap τ1 H1 locs1 → lv_has ls1 7 [(0, .ref b), (1, .ref (κ 4 + 0)), (2, .ref (κ 4 + 112)), (3, .ref qo), (4, .int (nI (6 * j)))] → W p l e room_1 s m args below meth c H1 locs1 (c0 + 120) (s0 + 1680) Q (F0 m 859 ls1 [])) : W p l e room_1 s m args below meth c H locs c0 s0 Q (F0 m 136 ls []) := by
  unfold mm_L_0 at h
  refine lv_aload_n C.1.1 C.1.2.1 dL_law_136 rfl (lv_at hl 1 rfl) ?_
  refine lv_aload_n C.1.1 C.1.2.1 dL_law_137 rfl (lv_at hl 0 rfl) ?_
  refine lv_iload C.1.1 C.1.2.1 dL_law_138 (lv_at hl 4 rfl) ?_
  refine lv_iconst (v := 1) C.1.1 C.1.2.1 dL_law_140 (by decide) ?_
  refine lv_iadd C.1.1 C.1.2.1 dL_law_141 ?_
  refine yl_scr (k := 1) C Z hX hbl hL (nI_add (6 * j) 1) (by omega) dL_law_142 ?_
  refine lv_aload_n C.1.1 C.1.2.1 dL_law_143 rfl (lv_at hl 0 rfl) ?_
  refine lv_iload C.1.1 C.1.2.1 dL_law_144 (lv_at hl 4 rfl) ?_
  refine lv_iconst (v := 2) C.1.1 C.1.2.1 dL_law_146 (by decide) ?_
  refine lv_iadd C.1.1 C.1.2.1 dL_law_147 ?_
  refine yl_scr (k := 2) C Z hX hbl hL (nI_add (6 * j) 2) (by omega) dL_law_148 ?_
  refine lv_aload_n C.1.1 C.1.2.1 dL_law_149 rfl (lv_at hl 0 rfl) ?_
  refine lv_iload C.1.1 C.1.2.1 dL_law_150 (lv_at hl 4 rfl) ?_
  refine lv_iconst (v := 3) C.1.1 C.1.2.1 dL_law_152 (by decide) ?_
  refine lv_iadd C.1.1 C.1.2.1 dL_law_153 ?_
  refine yl_scr (k := 3) C Z hX hbl hL (nI_add (6 * j) 3) (by omega) dL_law_154 ?_
  refine lv_aload_n C.1.1 C.1.2.1 dL_law_155 rfl (lv_at hl 0 rfl) ?_
  refine lv_iload C.1.1 C.1.2.1 dL_law_156 (lv_at hl 4 rfl) ?_
  refine lv_iconst (v := 4) C.1.1 C.1.2.1 dL_law_158 (by decide) ?_
  refine lv_iadd C.1.1 C.1.2.1 dL_law_159 ?_
  refine yl_scr (k := 4) C Z hX hbl hL (nI_add (6 * j) 4) (by omega) dL_law_160 ?_
  refine lv_aload_n C.1.1 C.1.2.1 dL_law_161 rfl (lv_at hl 0 rfl) ?_
  refine lv_iload C.1.1 C.1.2.1 dL_law_162 (lv_at hl 4 rfl) ?_
  refine lv_iconst (v := 5) C.1.1 C.1.2.1 dL_law_164 (by decide) ?_
  refine lv_iadd C.1.1 C.1.2.1 dL_law_165 ?_
  refine yl_scr (k := 5) C Z hX hbl hL (nI_add (6 * j) 5) (by omega) dL_law_166 ?_
  refine yy_cVi0 (As := [.int (xs (6 * j + 1)), .int (xs (6 * j + 2)), .int (xs (6 * j + 3)), .int (xs (6 * j + 4)), .int (xs (6 * j + 5))]) (rest := []) (id := 0) (ci := 9) (q := (RX9, TX9, 11)) C Z (ss_X9_feed l D κ _ (xs (6 * j + 1)) (xs (6 * j + 2)) (xs (6 * j + 3)) (xs (6 * j + 4)) (xs (6 * j + 5))) (by decide) (yy_ent_0 _) rfl tw_365 kw_X9_feed ⟨⟨rfl, rfl⟩, ⟨Nat.le_of_ble_eq_true rfl, Nat.le_of_ble_eq_true rfl⟩, (show c0 + 0 ≤ 601024 by omega), (show s0 + 0 ≤ 7293034 by omega)⟩ hl.1 rfl (Nat.le_of_ble_eq_true rfl) dL_law_167 h (fun r1 τ H locs Z h => ?_)
  refine lv_aload_n C.1.1 C.1.2.1 dL_law_170 rfl (lv_at hl 2 rfl) ?_
  refine lv_aload_n C.1.1 C.1.2.1 dL_law_171 rfl (lv_at hl 0 rfl) ?_
  refine lv_iload C.1.1 C.1.2.1 dL_law_172 (lv_at hl 4 rfl) ?_
  refine lv_iconst (v := 1) C.1.1 C.1.2.1 dL_law_174 (by decide) ?_
  refine lv_iadd C.1.1 C.1.2.1 dL_law_175 ?_
  refine yl_scr (k := 1) C Z hX hbl hL (nI_add (6 * j) 1) (by omega) dL_law_176 ?_
  refine lv_aload_n C.1.1 C.1.2.1 dL_law_177 rfl (lv_at hl 0 rfl) ?_
  refine lv_iload C.1.1 C.1.2.1 dL_law_178 (lv_at hl 4 rfl) ?_
  refine lv_iconst (v := 2) C.1.1 C.1.2.1 dL_law_180 (by decide) ?_
  refine lv_iadd C.1.1 C.1.2.1 dL_law_181 ?_
  refine yl_scr (k := 2) C Z hX hbl hL (nI_add (6 * j) 2) (by omega) dL_law_182 ?_
  refine lv_aload_n C.1.1 C.1.2.1 dL_law_183 rfl (lv_at hl 0 rfl) ?_
  refine lv_iload C.1.1 C.1.2.1 dL_law_184 (lv_at hl 4 rfl) ?_
  refine lv_iconst (v := 3) C.1.1 C.1.2.1 dL_law_186 (by decide) ?_
  refine lv_iadd C.1.1 C.1.2.1 dL_law_187 ?_
  refine yl_scr (k := 3) C Z hX hbl hL (nI_add (6 * j) 3) (by omega) dL_law_188 ?_
  refine lv_aload_n C.1.1 C.1.2.1 dL_law_189 rfl (lv_at hl 0 rfl) ?_
  refine lv_iload C.1.1 C.1.2.1 dL_law_190 (lv_at hl 4 rfl) ?_
  refine lv_iconst (v := 4) C.1.1 C.1.2.1 dL_law_192 (by decide) ?_
  refine lv_iadd C.1.1 C.1.2.1 dL_law_193 ?_
  refine yl_scr (k := 4) C Z hX hbl hL (nI_add (6 * j) 4) (by omega) dL_law_194 ?_
  refine lv_aload_n C.1.1 C.1.2.1 dL_law_195 rfl (lv_at hl 0 rfl) ?_
  refine lv_iload C.1.1 C.1.2.1 dL_law_196 (lv_at hl 4 rfl) ?_
  refine lv_iconst (v := 5) C.1.1 C.1.2.1 dL_law_198 (by decide) ?_
  refine lv_iadd C.1.1 C.1.2.1 dL_law_199 ?_
  refine yl_scr (k := 5) C Z hX hbl hL (nI_add (6 * j) 5) (by omega) dL_law_200 ?_
  refine yy_cVi0 (As := [.int (xs (6 * j + 1)), .int (xs (6 * j + 2)), .int (xs (6 * j + 3)), .int (xs (6 * j + 4)), .int (xs (6 * j + 5))]) (rest := [.int r1]) (id := 112) (ci := 10) (q := (RX10, TX10, 20)) C Z (ss_X10_feed l D κ _ (xs (6 * j + 1)) (xs (6 * j + 2)) (xs (6 * j + 3)) (xs (6 * j + 4)) (xs (6 * j + 5))) (by decide) (yy_ent_112 _) rfl tw_774 kw_X10_feed ⟨⟨rfl, rfl⟩, ⟨Nat.le_of_ble_eq_true rfl, Nat.le_of_ble_eq_true rfl⟩, (show c0 + 0 ≤ 601024 by omega), (show s0 + 0 ≤ 7293034 by omega)⟩ hl.1 rfl (Nat.le_of_ble_eq_true rfl) dL_law_201 h (fun r2 τ H locs Z h => ?_)
  refine yy_icmp_eq (tgt := 859) C dL_law_204 (by decide) h (fun h => ?_) (fun h => by unfold yl_no at h; cases h)
  refine W.widen (k := c0 + 120) (n := s0 + 1680) (by omega) (by omega) ?_
  exact kE _ _ _ _ _ (yy_rt_of h) Z hl
noncomputable def mm_L_1 (y1 : Int32) : yy_M Unit :=
  yy_cl (mm_X9_end y1) (fun r1 => yy_cl (mm_X10_end y1) (fun r2 => yy_br (r1 = r2) (yy_rt ()) yl_no))
set_option maxHeartbeats 4000000 in
set_option maxRecDepth 100000 in
theorem wl_1 (hX : va_X b L xs s s.heap) (hbl : b < s.heap.size) (hL : L ≤ 3072) (hj : 6 * j + 6 ≤ L) (hc0 : c0 + 120 ≤ 601024) (hs0 : s0 + 1680 ≤ 7293034) {res : Unit × yy_T} (C : yy_C D κ p m c cL_law 7 s args RL) (Z : yy_Z D κ [yl_o κ qo u] (fun q : Nat => s.heap.size ≤ q) s.heap τ H locs) (hl : lv_has ls 7 [(0, .ref b), (1, .ref (κ 4 + 0)), (2, .ref (κ 4 + 112)), (3, .ref qo), (4, .int (nI (6 * j)))]) (h : mm_L_1 (xs (6 * j + 1)) τ = some res) (kE : ∀ (u : Nat → Int64) (τ1 : yy_T) (H1 : Heap) (locs1 : List Loc) (ls1 : Array Slot), res = ((), τ1) → yy_Z D κ [yl_o κ qo u] (fun q : Nat => s.heap.size ≤ q) s.heap τ1 H1 locs1 → lv_has ls1 7 [(0, .ref b), (1, .ref (κ 4 + 0)), (2, .ref (κ 4 + 112)), (3, .ref qo), (4, .int (nI (6 * j)))] → W p l e room_1 s m args below meth c H1 locs1 (c0 + 120) (s0 + 1680) Q (F0 m 859 ls1 [])) : W p l e room_1 s m args below meth c H locs c0 s0 Q (F0 m 209 ls []) := by
  unfold mm_L_1 at h
  refine lv_aload_n C.1.1 C.1.2.1 dL_law_209 rfl (lv_at hl 1 rfl) ?_
  refine lv_aload_n C.1.1 C.1.2.1 dL_law_210 rfl (lv_at hl 0 rfl) ?_
  refine lv_iload C.1.1 C.1.2.1 dL_law_211 (lv_at hl 4 rfl) ?_
  refine lv_iconst (v := 1) C.1.1 C.1.2.1 dL_law_213 (by decide) ?_
  refine lv_iadd C.1.1 C.1.2.1 dL_law_214 ?_
  refine yl_scr (k := 1) C Z hX hbl hL (nI_add (6 * j) 1) (by omega) dL_law_215 ?_
  refine yy_cVi0 (As := [.int (xs (6 * j + 1))]) (rest := []) (id := 0) (ci := 9) (q := (RX9, TX9, 11)) C Z (ss_X9_end l D κ _ (xs (6 * j + 1))) (by decide) (yy_ent_0 _) rfl tw_373 kw_X9_end ⟨⟨rfl, rfl⟩, ⟨Nat.le_of_ble_eq_true rfl, Nat.le_of_ble_eq_true rfl⟩, (show c0 + 0 ≤ 601024 by omega), (show s0 + 0 ≤ 7293034 by omega)⟩ hl.1 rfl (Nat.le_of_ble_eq_true rfl) dL_law_216 h (fun r1 τ H locs Z h => ?_)
  refine lv_aload_n C.1.1 C.1.2.1 dL_law_219 rfl (lv_at hl 2 rfl) ?_
  refine lv_aload_n C.1.1 C.1.2.1 dL_law_220 rfl (lv_at hl 0 rfl) ?_
  refine lv_iload C.1.1 C.1.2.1 dL_law_221 (lv_at hl 4 rfl) ?_
  refine lv_iconst (v := 1) C.1.1 C.1.2.1 dL_law_223 (by decide) ?_
  refine lv_iadd C.1.1 C.1.2.1 dL_law_224 ?_
  refine yl_scr (k := 1) C Z hX hbl hL (nI_add (6 * j) 1) (by omega) dL_law_225 ?_
  refine yy_cVi0 (As := [.int (xs (6 * j + 1))]) (rest := [.int r1]) (id := 112) (ci := 10) (q := (RX10, TX10, 20)) C Z (ss_X10_end l D κ _ (xs (6 * j + 1))) (by decide) (yy_ent_112 _) rfl tw_783 kw_X10_end ⟨⟨rfl, rfl⟩, ⟨Nat.le_of_ble_eq_true rfl, Nat.le_of_ble_eq_true rfl⟩, (show c0 + 0 ≤ 601024 by omega), (show s0 + 0 ≤ 7293034 by omega)⟩ hl.1 rfl (Nat.le_of_ble_eq_true rfl) dL_law_226 h (fun r2 τ H locs Z h => ?_)
  refine yy_icmp_eq (tgt := 859) C dL_law_229 (by decide) h (fun h => ?_) (fun h => by unfold yl_no at h; cases h)
  refine W.widen (k := c0 + 120) (n := s0 + 1680) (by omega) (by omega) ?_
  exact kE _ _ _ _ _ (yy_rt_of h) Z hl
noncomputable def mm_L_2 (y1 : Int32) : yy_M Unit :=
  yy_cl (mm_X9_edition y1) (fun r1 => yy_cl (mm_X10_edition y1) (fun r2 => yy_br (r1 = r2) (yy_rt ()) yl_no))
set_option maxHeartbeats 4000000 in
set_option maxRecDepth 100000 in
theorem wl_2 (hX : va_X b L xs s s.heap) (hbl : b < s.heap.size) (hL : L ≤ 3072) (hj : 6 * j + 6 ≤ L) (hc0 : c0 + 120 ≤ 601024) (hs0 : s0 + 1680 ≤ 7293034) {res : Unit × yy_T} (C : yy_C D κ p m c cL_law 7 s args RL) (Z : yy_Z D κ [yl_o κ qo u] (fun q : Nat => s.heap.size ≤ q) s.heap τ H locs) (hl : lv_has ls 7 [(0, .ref b), (1, .ref (κ 4 + 0)), (2, .ref (κ 4 + 112)), (3, .ref qo), (4, .int (nI (6 * j)))]) (h : mm_L_2 (xs (6 * j + 1)) τ = some res) (kE : ∀ (u : Nat → Int64) (τ1 : yy_T) (H1 : Heap) (locs1 : List Loc) (ls1 : Array Slot), res = ((), τ1) → yy_Z D κ [yl_o κ qo u] (fun q : Nat => s.heap.size ≤ q) s.heap τ1 H1 locs1 → lv_has ls1 7 [(0, .ref b), (1, .ref (κ 4 + 0)), (2, .ref (κ 4 + 112)), (3, .ref qo), (4, .int (nI (6 * j)))] → W p l e room_1 s m args below meth c H1 locs1 (c0 + 120) (s0 + 1680) Q (F0 m 859 ls1 [])) : W p l e room_1 s m args below meth c H locs c0 s0 Q (F0 m 234 ls []) := by
  unfold mm_L_2 at h
  refine lv_aload_n C.1.1 C.1.2.1 dL_law_234 rfl (lv_at hl 1 rfl) ?_
  refine lv_aload_n C.1.1 C.1.2.1 dL_law_235 rfl (lv_at hl 0 rfl) ?_
  refine lv_iload C.1.1 C.1.2.1 dL_law_236 (lv_at hl 4 rfl) ?_
  refine lv_iconst (v := 1) C.1.1 C.1.2.1 dL_law_238 (by decide) ?_
  refine lv_iadd C.1.1 C.1.2.1 dL_law_239 ?_
  refine yl_scr (k := 1) C Z hX hbl hL (nI_add (6 * j) 1) (by omega) dL_law_240 ?_
  refine yy_cVi0 (As := [.int (xs (6 * j + 1))]) (rest := []) (id := 0) (ci := 9) (q := (RX9, TX9, 11)) C Z (ss_X9_edition l D κ _ (xs (6 * j + 1))) (by decide) (yy_ent_0 _) rfl tw_377 kw_X9_edition ⟨⟨rfl, rfl⟩, ⟨Nat.le_of_ble_eq_true rfl, Nat.le_of_ble_eq_true rfl⟩, (show c0 + 0 ≤ 601024 by omega), (show s0 + 0 ≤ 7293034 by omega)⟩ hl.1 rfl (Nat.le_of_ble_eq_true rfl) dL_law_241 h (fun r1 τ H locs Z h => ?_)
  refine lv_aload_n C.1.1 C.1.2.1 dL_law_244 rfl (lv_at hl 2 rfl) ?_
  refine lv_aload_n C.1.1 C.1.2.1 dL_law_245 rfl (lv_at hl 0 rfl) ?_
  refine lv_iload C.1.1 C.1.2.1 dL_law_246 (lv_at hl 4 rfl) ?_
  refine lv_iconst (v := 1) C.1.1 C.1.2.1 dL_law_248 (by decide) ?_
  refine lv_iadd C.1.1 C.1.2.1 dL_law_249 ?_
  refine yl_scr (k := 1) C Z hX hbl hL (nI_add (6 * j) 1) (by omega) dL_law_250 ?_
  refine yy_cVi0 (As := [.int (xs (6 * j + 1))]) (rest := [.int r1]) (id := 112) (ci := 10) (q := (RX10, TX10, 20)) C Z (ss_X10_edition l D κ _ (xs (6 * j + 1))) (by decide) (yy_ent_112 _) rfl tw_853 kw_X10_edition ⟨⟨rfl, rfl⟩, ⟨Nat.le_of_ble_eq_true rfl, Nat.le_of_ble_eq_true rfl⟩, (show c0 + 0 ≤ 601024 by omega), (show s0 + 0 ≤ 7293034 by omega)⟩ hl.1 rfl (Nat.le_of_ble_eq_true rfl) dL_law_251 h (fun r2 τ H locs Z h => ?_)
  refine yy_icmp_eq (tgt := 859) C dL_law_254 (by decide) h (fun h => ?_) (fun h => by unfold yl_no at h; cases h)
  refine W.widen (k := c0 + 120) (n := s0 + 1680) (by omega) (by omega) ?_
  exact kE _ _ _ _ _ (yy_rt_of h) Z hl
noncomputable def mm_L_3 : yy_M Unit :=
  yy_cl (mm_X9_fault ) (fun r1 => yy_cl (mm_X10_fault ) (fun r2 => yy_br (r1 = r2) (yy_rt ()) yl_no))
set_option maxHeartbeats 4000000 in
set_option maxRecDepth 100000 in
theorem wl_3 (hX : va_X b L xs s s.heap) (hbl : b < s.heap.size) (hL : L ≤ 3072) (hj : 6 * j + 6 ≤ L) (hc0 : c0 + 120 ≤ 601024) (hs0 : s0 + 1680 ≤ 7293034) {res : Unit × yy_T} (C : yy_C D κ p m c cL_law 7 s args RL) (Z : yy_Z D κ [yl_o κ qo u] (fun q : Nat => s.heap.size ≤ q) s.heap τ H locs) (hl : lv_has ls 7 [(0, .ref b), (1, .ref (κ 4 + 0)), (2, .ref (κ 4 + 112)), (3, .ref qo), (4, .int (nI (6 * j)))]) (h : mm_L_3 τ = some res) (kE : ∀ (u : Nat → Int64) (τ1 : yy_T) (H1 : Heap) (locs1 : List Loc) (ls1 : Array Slot), res = ((), τ1) → yy_Z D κ [yl_o κ qo u] (fun q : Nat => s.heap.size ≤ q) s.heap τ1 H1 locs1 → lv_has ls1 7 [(0, .ref b), (1, .ref (κ 4 + 0)), (2, .ref (κ 4 + 112)), (3, .ref qo), (4, .int (nI (6 * j)))] → W p l e room_1 s m args below meth c H1 locs1 (c0 + 120) (s0 + 1680) Q (F0 m 859 ls1 [])) : W p l e room_1 s m args below meth c H locs c0 s0 Q (F0 m 259 ls []) := by
  unfold mm_L_3 at h
  refine lv_aload_n C.1.1 C.1.2.1 dL_law_259 rfl (lv_at hl 1 rfl) ?_
  refine yy_cVi0 (As := []) (rest := []) (id := 0) (ci := 9) (q := (RX9, TX9, 11)) C Z (ss_X9_fault l D κ _ ) (by decide) (yy_ent_0 _) rfl tw_431 kw_X9_fault ⟨⟨rfl, rfl⟩, ⟨Nat.le_of_ble_eq_true rfl, Nat.le_of_ble_eq_true rfl⟩, (show c0 + 0 ≤ 601024 by omega), (show s0 + 0 ≤ 7293034 by omega)⟩ hl.1 rfl (Nat.le_of_ble_eq_true rfl) dL_law_260 h (fun r1 τ H locs Z h => ?_)
  refine lv_aload_n C.1.1 C.1.2.1 dL_law_263 rfl (lv_at hl 2 rfl) ?_
  refine yy_cVi0 (As := []) (rest := [.int r1]) (id := 112) (ci := 10) (q := (RX10, TX10, 20)) C Z (ss_X10_fault l D κ _ ) (by decide) (yy_ent_112 _) rfl tw_886 kw_X10_fault ⟨⟨rfl, rfl⟩, ⟨Nat.le_of_ble_eq_true rfl, Nat.le_of_ble_eq_true rfl⟩, (show c0 + 0 ≤ 601024 by omega), (show s0 + 0 ≤ 7293034 by omega)⟩ hl.1 rfl (Nat.le_of_ble_eq_true rfl) dL_law_264 h (fun r2 τ H locs Z h => ?_)
  refine yy_icmp_eq (tgt := 859) C dL_law_267 (by decide) h (fun h => ?_) (fun h => by unfold yl_no at h; cases h)
  refine W.widen (k := c0 + 120) (n := s0 + 1680) (by omega) (by omega) ?_
  exact kE _ _ _ _ _ (yy_rt_of h) Z hl
noncomputable def mm_L_4 (y1 : Int32) : yy_M Unit :=
  yy_cl (mm_X9_now y1) (fun r1 => yy_cl (mm_X10_now y1) (fun r2 => yy_br (r1 = r2) (yy_rt ()) yl_no))
set_option maxHeartbeats 4000000 in
set_option maxRecDepth 100000 in
theorem wl_4 (hX : va_X b L xs s s.heap) (hbl : b < s.heap.size) (hL : L ≤ 3072) (hj : 6 * j + 6 ≤ L) (hc0 : c0 + 120 ≤ 601024) (hs0 : s0 + 1680 ≤ 7293034) {res : Unit × yy_T} (C : yy_C D κ p m c cL_law 7 s args RL) (Z : yy_Z D κ [yl_o κ qo u] (fun q : Nat => s.heap.size ≤ q) s.heap τ H locs) (hl : lv_has ls 7 [(0, .ref b), (1, .ref (κ 4 + 0)), (2, .ref (κ 4 + 112)), (3, .ref qo), (4, .int (nI (6 * j)))]) (h : mm_L_4 (xs (6 * j + 1)) τ = some res) (kE : ∀ (u : Nat → Int64) (τ1 : yy_T) (H1 : Heap) (locs1 : List Loc) (ls1 : Array Slot), res = ((), τ1) → yy_Z D κ [yl_o κ qo u] (fun q : Nat => s.heap.size ≤ q) s.heap τ1 H1 locs1 → lv_has ls1 7 [(0, .ref b), (1, .ref (κ 4 + 0)), (2, .ref (κ 4 + 112)), (3, .ref qo), (4, .int (nI (6 * j)))] → W p l e room_1 s m args below meth c H1 locs1 (c0 + 120) (s0 + 1680) Q (F0 m 859 ls1 [])) : W p l e room_1 s m args below meth c H locs c0 s0 Q (F0 m 272 ls []) := by
  unfold mm_L_4 at h
  refine lv_aload_n C.1.1 C.1.2.1 dL_law_272 rfl (lv_at hl 1 rfl) ?_
  refine lv_aload_n C.1.1 C.1.2.1 dL_law_273 rfl (lv_at hl 0 rfl) ?_
  refine lv_iload C.1.1 C.1.2.1 dL_law_274 (lv_at hl 4 rfl) ?_
  refine lv_iconst (v := 1) C.1.1 C.1.2.1 dL_law_276 (by decide) ?_
  refine lv_iadd C.1.1 C.1.2.1 dL_law_277 ?_
  refine yl_scr (k := 1) C Z hX hbl hL (nI_add (6 * j) 1) (by omega) dL_law_278 ?_
  refine yy_cVi0 (As := [.int (xs (6 * j + 1))]) (rest := []) (id := 0) (ci := 9) (q := (RX9, TX9, 11)) C Z (ss_X9_now l D κ _ (xs (6 * j + 1))) (by decide) (yy_ent_0 _) rfl tw_435 kw_X9_now ⟨⟨rfl, rfl⟩, ⟨Nat.le_of_ble_eq_true rfl, Nat.le_of_ble_eq_true rfl⟩, (show c0 + 0 ≤ 601024 by omega), (show s0 + 0 ≤ 7293034 by omega)⟩ hl.1 rfl (Nat.le_of_ble_eq_true rfl) dL_law_279 h (fun r1 τ H locs Z h => ?_)
  refine lv_aload_n C.1.1 C.1.2.1 dL_law_282 rfl (lv_at hl 2 rfl) ?_
  refine lv_aload_n C.1.1 C.1.2.1 dL_law_283 rfl (lv_at hl 0 rfl) ?_
  refine lv_iload C.1.1 C.1.2.1 dL_law_284 (lv_at hl 4 rfl) ?_
  refine lv_iconst (v := 1) C.1.1 C.1.2.1 dL_law_286 (by decide) ?_
  refine lv_iadd C.1.1 C.1.2.1 dL_law_287 ?_
  refine yl_scr (k := 1) C Z hX hbl hL (nI_add (6 * j) 1) (by omega) dL_law_288 ?_
  refine yy_cVi (As := [.int (xs (6 * j + 1))]) (rest := [.int r1]) (id := 112) (ci := 10) (q := (RX10, TX10, 20)) C Z (ss_X10_now l D κ _ (xs (6 * j + 1))) (by decide) (yy_ent_112 _) rfl tw_890 kw_X10_now ⟨⟨rfl, rfl⟩, ⟨Nat.le_of_ble_eq_true rfl, Nat.le_of_ble_eq_true rfl⟩, (show c0 + 58 ≤ 601024 by omega), (show s0 + 812 ≤ 7293034 by omega)⟩ hl.1 rfl (Nat.le_of_ble_eq_true rfl) dL_law_289 h (fun r2 τ H locs Z h => ?_)
  refine yy_icmp_eq (tgt := 859) C dL_law_292 (by decide) h (fun h => ?_) (fun h => by unfold yl_no at h; cases h)
  refine W.widen (k := c0 + 120) (n := s0 + 1680) (by omega) (by omega) ?_
  exact kE _ _ _ _ _ (yy_rt_of h) Z hl
noncomputable def mm_L_6 (y1 : Int32) (y2 : Int32) (y3 : Int32) (y4 : Int32) : yy_M Unit :=
  yy_cl (mm_X9_letter y1 y2 y3 y4) (fun r1 => yy_cl (mm_X10_letter y1 y2 y3 y4) (fun r2 => yy_br (r1 = r2) (yy_rt ()) yl_no))
set_option maxHeartbeats 4000000 in
set_option maxRecDepth 100000 in
theorem wl_6 (hX : va_X b L xs s s.heap) (hbl : b < s.heap.size) (hL : L ≤ 3072) (hj : 6 * j + 6 ≤ L) (hc0 : c0 + 120 ≤ 601024) (hs0 : s0 + 1680 ≤ 7293034) {res : Unit × yy_T} (C : yy_C D κ p m c cL_law 7 s args RL) (Z : yy_Z D κ [yl_o κ qo u] (fun q : Nat => s.heap.size ≤ q) s.heap τ H locs) (hl : lv_has ls 7 [(0, .ref b), (1, .ref (κ 4 + 0)), (2, .ref (κ 4 + 112)), (3, .ref qo), (4, .int (nI (6 * j)))]) (h : mm_L_6 (xs (6 * j + 1)) (xs (6 * j + 2)) (xs (6 * j + 3)) (xs (6 * j + 4)) τ = some res) (kE : ∀ (u : Nat → Int64) (τ1 : yy_T) (H1 : Heap) (locs1 : List Loc) (ls1 : Array Slot), res = ((), τ1) → yy_Z D κ [yl_o κ qo u] (fun q : Nat => s.heap.size ≤ q) s.heap τ1 H1 locs1 → lv_has ls1 7 [(0, .ref b), (1, .ref (κ 4 + 0)), (2, .ref (κ 4 + 112)), (3, .ref qo), (4, .int (nI (6 * j)))] → W p l e room_1 s m args below meth c H1 locs1 (c0 + 120) (s0 + 1680) Q (F0 m 859 ls1 [])) : W p l e room_1 s m args below meth c H locs c0 s0 Q (F0 m 377 ls []) := by
  unfold mm_L_6 at h
  refine lv_aload_n C.1.1 C.1.2.1 dL_law_377 rfl (lv_at hl 1 rfl) ?_
  refine lv_aload_n C.1.1 C.1.2.1 dL_law_378 rfl (lv_at hl 0 rfl) ?_
  refine lv_iload C.1.1 C.1.2.1 dL_law_379 (lv_at hl 4 rfl) ?_
  refine lv_iconst (v := 1) C.1.1 C.1.2.1 dL_law_381 (by decide) ?_
  refine lv_iadd C.1.1 C.1.2.1 dL_law_382 ?_
  refine yl_scr (k := 1) C Z hX hbl hL (nI_add (6 * j) 1) (by omega) dL_law_383 ?_
  refine lv_aload_n C.1.1 C.1.2.1 dL_law_384 rfl (lv_at hl 0 rfl) ?_
  refine lv_iload C.1.1 C.1.2.1 dL_law_385 (lv_at hl 4 rfl) ?_
  refine lv_iconst (v := 2) C.1.1 C.1.2.1 dL_law_387 (by decide) ?_
  refine lv_iadd C.1.1 C.1.2.1 dL_law_388 ?_
  refine yl_scr (k := 2) C Z hX hbl hL (nI_add (6 * j) 2) (by omega) dL_law_389 ?_
  refine lv_aload_n C.1.1 C.1.2.1 dL_law_390 rfl (lv_at hl 0 rfl) ?_
  refine lv_iload C.1.1 C.1.2.1 dL_law_391 (lv_at hl 4 rfl) ?_
  refine lv_iconst (v := 3) C.1.1 C.1.2.1 dL_law_393 (by decide) ?_
  refine lv_iadd C.1.1 C.1.2.1 dL_law_394 ?_
  refine yl_scr (k := 3) C Z hX hbl hL (nI_add (6 * j) 3) (by omega) dL_law_395 ?_
  refine lv_aload_n C.1.1 C.1.2.1 dL_law_396 rfl (lv_at hl 0 rfl) ?_
  refine lv_iload C.1.1 C.1.2.1 dL_law_397 (lv_at hl 4 rfl) ?_
  refine lv_iconst (v := 4) C.1.1 C.1.2.1 dL_law_399 (by decide) ?_
  refine lv_iadd C.1.1 C.1.2.1 dL_law_400 ?_
  refine yl_scr (k := 4) C Z hX hbl hL (nI_add (6 * j) 4) (by omega) dL_law_401 ?_
  refine yy_cVi0 (As := [.int (xs (6 * j + 1)), .int (xs (6 * j + 2)), .int (xs (6 * j + 3)), .int (xs (6 * j + 4))]) (rest := []) (id := 0) (ci := 9) (q := (RX9, TX9, 11)) C Z (ss_X9_letter l D κ _ (xs (6 * j + 1)) (xs (6 * j + 2)) (xs (6 * j + 3)) (xs (6 * j + 4))) (by decide) (yy_ent_0 _) rfl tw_563 kw_X9_letter ⟨⟨rfl, rfl⟩, ⟨Nat.le_of_ble_eq_true rfl, Nat.le_of_ble_eq_true rfl⟩, (show c0 + 0 ≤ 601024 by omega), (show s0 + 0 ≤ 7293034 by omega)⟩ hl.1 rfl (Nat.le_of_ble_eq_true rfl) dL_law_402 h (fun r1 τ H locs Z h => ?_)
  refine lv_aload_n C.1.1 C.1.2.1 dL_law_405 rfl (lv_at hl 2 rfl) ?_
  refine lv_aload_n C.1.1 C.1.2.1 dL_law_406 rfl (lv_at hl 0 rfl) ?_
  refine lv_iload C.1.1 C.1.2.1 dL_law_407 (lv_at hl 4 rfl) ?_
  refine lv_iconst (v := 1) C.1.1 C.1.2.1 dL_law_409 (by decide) ?_
  refine lv_iadd C.1.1 C.1.2.1 dL_law_410 ?_
  refine yl_scr (k := 1) C Z hX hbl hL (nI_add (6 * j) 1) (by omega) dL_law_411 ?_
  refine lv_aload_n C.1.1 C.1.2.1 dL_law_412 rfl (lv_at hl 0 rfl) ?_
  refine lv_iload C.1.1 C.1.2.1 dL_law_413 (lv_at hl 4 rfl) ?_
  refine lv_iconst (v := 2) C.1.1 C.1.2.1 dL_law_415 (by decide) ?_
  refine lv_iadd C.1.1 C.1.2.1 dL_law_416 ?_
  refine yl_scr (k := 2) C Z hX hbl hL (nI_add (6 * j) 2) (by omega) dL_law_417 ?_
  refine lv_aload_n C.1.1 C.1.2.1 dL_law_418 rfl (lv_at hl 0 rfl) ?_
  refine lv_iload C.1.1 C.1.2.1 dL_law_419 (lv_at hl 4 rfl) ?_
  refine lv_iconst (v := 3) C.1.1 C.1.2.1 dL_law_421 (by decide) ?_
  refine lv_iadd C.1.1 C.1.2.1 dL_law_422 ?_
  refine yl_scr (k := 3) C Z hX hbl hL (nI_add (6 * j) 3) (by omega) dL_law_423 ?_
  refine lv_aload_n C.1.1 C.1.2.1 dL_law_424 rfl (lv_at hl 0 rfl) ?_
  refine lv_iload C.1.1 C.1.2.1 dL_law_425 (lv_at hl 4 rfl) ?_
  refine lv_iconst (v := 4) C.1.1 C.1.2.1 dL_law_427 (by decide) ?_
  refine lv_iadd C.1.1 C.1.2.1 dL_law_428 ?_
  refine yl_scr (k := 4) C Z hX hbl hL (nI_add (6 * j) 4) (by omega) dL_law_429 ?_
  refine yy_cVi0 (As := [.int (xs (6 * j + 1)), .int (xs (6 * j + 2)), .int (xs (6 * j + 3)), .int (xs (6 * j + 4))]) (rest := [.int r1]) (id := 112) (ci := 10) (q := (RX10, TX10, 20)) C Z (ss_X10_letter l D κ _ (xs (6 * j + 1)) (xs (6 * j + 2)) (xs (6 * j + 3)) (xs (6 * j + 4))) (by decide) (yy_ent_112 _) rfl tw_965 kw_X10_letter ⟨⟨rfl, rfl⟩, ⟨Nat.le_of_ble_eq_true rfl, Nat.le_of_ble_eq_true rfl⟩, (show c0 + 0 ≤ 601024 by omega), (show s0 + 0 ≤ 7293034 by omega)⟩ hl.1 rfl (Nat.le_of_ble_eq_true rfl) dL_law_430 h (fun r2 τ H locs Z h => ?_)
  refine yy_icmp_eq (tgt := 859) C dL_law_433 (by decide) h (fun h => ?_) (fun h => by unfold yl_no at h; cases h)
  refine W.widen (k := c0 + 120) (n := s0 + 1680) (by omega) (by omega) ?_
  exact kE _ _ _ _ _ (yy_rt_of h) Z hl
noncomputable def mm_L_7 (y1 : Int32) (y2 : Int32) : yy_M Unit :=
  yy_cl (mm_X9_block y1 y2) (fun r1 => yy_cl (mm_X10_block y1 y2) (fun r2 => yy_br (r1 = r2) (yy_rt ()) yl_no))
set_option maxHeartbeats 4000000 in
set_option maxRecDepth 100000 in
theorem wl_7 (hX : va_X b L xs s s.heap) (hbl : b < s.heap.size) (hL : L ≤ 3072) (hj : 6 * j + 6 ≤ L) (hc0 : c0 + 120 ≤ 601024) (hs0 : s0 + 1680 ≤ 7293034) {res : Unit × yy_T} (C : yy_C D κ p m c cL_law 7 s args RL) (Z : yy_Z D κ [yl_o κ qo u] (fun q : Nat => s.heap.size ≤ q) s.heap τ H locs) (hl : lv_has ls 7 [(0, .ref b), (1, .ref (κ 4 + 0)), (2, .ref (κ 4 + 112)), (3, .ref qo), (4, .int (nI (6 * j)))]) (h : mm_L_7 (xs (6 * j + 1)) (xs (6 * j + 2)) τ = some res) (kE : ∀ (u : Nat → Int64) (τ1 : yy_T) (H1 : Heap) (locs1 : List Loc) (ls1 : Array Slot), res = ((), τ1) → yy_Z D κ [yl_o κ qo u] (fun q : Nat => s.heap.size ≤ q) s.heap τ1 H1 locs1 → lv_has ls1 7 [(0, .ref b), (1, .ref (κ 4 + 0)), (2, .ref (κ 4 + 112)), (3, .ref qo), (4, .int (nI (6 * j)))] → W p l e room_1 s m args below meth c H1 locs1 (c0 + 120) (s0 + 1680) Q (F0 m 859 ls1 [])) : W p l e room_1 s m args below meth c H locs c0 s0 Q (F0 m 438 ls []) := by
  unfold mm_L_7 at h
  refine lv_aload_n C.1.1 C.1.2.1 dL_law_438 rfl (lv_at hl 1 rfl) ?_
  refine lv_aload_n C.1.1 C.1.2.1 dL_law_439 rfl (lv_at hl 0 rfl) ?_
  refine lv_iload C.1.1 C.1.2.1 dL_law_440 (lv_at hl 4 rfl) ?_
  refine lv_iconst (v := 1) C.1.1 C.1.2.1 dL_law_442 (by decide) ?_
  refine lv_iadd C.1.1 C.1.2.1 dL_law_443 ?_
  refine yl_scr (k := 1) C Z hX hbl hL (nI_add (6 * j) 1) (by omega) dL_law_444 ?_
  refine lv_aload_n C.1.1 C.1.2.1 dL_law_445 rfl (lv_at hl 0 rfl) ?_
  refine lv_iload C.1.1 C.1.2.1 dL_law_446 (lv_at hl 4 rfl) ?_
  refine lv_iconst (v := 2) C.1.1 C.1.2.1 dL_law_448 (by decide) ?_
  refine lv_iadd C.1.1 C.1.2.1 dL_law_449 ?_
  refine yl_scr (k := 2) C Z hX hbl hL (nI_add (6 * j) 2) (by omega) dL_law_450 ?_
  refine yy_cVi0 (As := [.int (xs (6 * j + 1)), .int (xs (6 * j + 2))]) (rest := []) (id := 0) (ci := 9) (q := (RX9, TX9, 11)) C Z (ss_X9_block l D κ _ (xs (6 * j + 1)) (xs (6 * j + 2))) (by decide) (yy_ent_0 _) rfl tw_586 kw_X9_block ⟨⟨rfl, rfl⟩, ⟨Nat.le_of_ble_eq_true rfl, Nat.le_of_ble_eq_true rfl⟩, (show c0 + 0 ≤ 601024 by omega), (show s0 + 0 ≤ 7293034 by omega)⟩ hl.1 rfl (Nat.le_of_ble_eq_true rfl) dL_law_451 h (fun r1 τ H locs Z h => ?_)
  refine lv_aload_n C.1.1 C.1.2.1 dL_law_454 rfl (lv_at hl 2 rfl) ?_
  refine lv_aload_n C.1.1 C.1.2.1 dL_law_455 rfl (lv_at hl 0 rfl) ?_
  refine lv_iload C.1.1 C.1.2.1 dL_law_456 (lv_at hl 4 rfl) ?_
  refine lv_iconst (v := 1) C.1.1 C.1.2.1 dL_law_458 (by decide) ?_
  refine lv_iadd C.1.1 C.1.2.1 dL_law_459 ?_
  refine yl_scr (k := 1) C Z hX hbl hL (nI_add (6 * j) 1) (by omega) dL_law_460 ?_
  refine lv_aload_n C.1.1 C.1.2.1 dL_law_461 rfl (lv_at hl 0 rfl) ?_
  refine lv_iload C.1.1 C.1.2.1 dL_law_462 (lv_at hl 4 rfl) ?_
  refine lv_iconst (v := 2) C.1.1 C.1.2.1 dL_law_464 (by decide) ?_
  refine lv_iadd C.1.1 C.1.2.1 dL_law_465 ?_
  refine yl_scr (k := 2) C Z hX hbl hL (nI_add (6 * j) 2) (by omega) dL_law_466 ?_
  refine yy_cVi (As := [.int (xs (6 * j + 1)), .int (xs (6 * j + 2))]) (rest := [.int r1]) (id := 112) (ci := 10) (q := (RX10, TX10, 20)) C Z (ss_X10_block l D κ _ (xs (6 * j + 1)) (xs (6 * j + 2))) (by decide) (yy_ent_112 _) rfl tw_972 kw_X10_block ⟨⟨rfl, rfl⟩, ⟨Nat.le_of_ble_eq_true rfl, Nat.le_of_ble_eq_true rfl⟩, (show c0 + 58 ≤ 601024 by omega), (show s0 + 812 ≤ 7293034 by omega)⟩ hl.1 rfl (Nat.le_of_ble_eq_true rfl) dL_law_467 h (fun r2 τ H locs Z h => ?_)
  refine yy_icmp_eq (tgt := 859) C dL_law_470 (by decide) h (fun h => ?_) (fun h => by unfold yl_no at h; cases h)
  refine W.widen (k := c0 + 120) (n := s0 + 1680) (by omega) (by omega) ?_
  exact kE _ _ _ _ _ (yy_rt_of h) Z hl
noncomputable def mm_L_8 (y1 : Int32) (y2 : Int32) : yy_M Unit :=
  yy_cl (mm_X9_shared y1 y2) (fun r1 => yy_cl (mm_X10_shared y1 y2) (fun r2 => yy_br (r1 = r2) (yy_rt ()) yl_no))
set_option maxHeartbeats 4000000 in
set_option maxRecDepth 100000 in
theorem wl_8 (hX : va_X b L xs s s.heap) (hbl : b < s.heap.size) (hL : L ≤ 3072) (hj : 6 * j + 6 ≤ L) (hc0 : c0 + 120 ≤ 601024) (hs0 : s0 + 1680 ≤ 7293034) {res : Unit × yy_T} (C : yy_C D κ p m c cL_law 7 s args RL) (Z : yy_Z D κ [yl_o κ qo u] (fun q : Nat => s.heap.size ≤ q) s.heap τ H locs) (hl : lv_has ls 7 [(0, .ref b), (1, .ref (κ 4 + 0)), (2, .ref (κ 4 + 112)), (3, .ref qo), (4, .int (nI (6 * j)))]) (h : mm_L_8 (xs (6 * j + 1)) (xs (6 * j + 2)) τ = some res) (kE : ∀ (u : Nat → Int64) (τ1 : yy_T) (H1 : Heap) (locs1 : List Loc) (ls1 : Array Slot), res = ((), τ1) → yy_Z D κ [yl_o κ qo u] (fun q : Nat => s.heap.size ≤ q) s.heap τ1 H1 locs1 → lv_has ls1 7 [(0, .ref b), (1, .ref (κ 4 + 0)), (2, .ref (κ 4 + 112)), (3, .ref qo), (4, .int (nI (6 * j)))] → W p l e room_1 s m args below meth c H1 locs1 (c0 + 120) (s0 + 1680) Q (F0 m 859 ls1 [])) : W p l e room_1 s m args below meth c H locs c0 s0 Q (F0 m 475 ls []) := by
  unfold mm_L_8 at h
  refine lv_aload_n C.1.1 C.1.2.1 dL_law_475 rfl (lv_at hl 1 rfl) ?_
  refine lv_aload_n C.1.1 C.1.2.1 dL_law_476 rfl (lv_at hl 0 rfl) ?_
  refine lv_iload C.1.1 C.1.2.1 dL_law_477 (lv_at hl 4 rfl) ?_
  refine lv_iconst (v := 1) C.1.1 C.1.2.1 dL_law_479 (by decide) ?_
  refine lv_iadd C.1.1 C.1.2.1 dL_law_480 ?_
  refine yl_scr (k := 1) C Z hX hbl hL (nI_add (6 * j) 1) (by omega) dL_law_481 ?_
  refine lv_aload_n C.1.1 C.1.2.1 dL_law_482 rfl (lv_at hl 0 rfl) ?_
  refine lv_iload C.1.1 C.1.2.1 dL_law_483 (lv_at hl 4 rfl) ?_
  refine lv_iconst (v := 2) C.1.1 C.1.2.1 dL_law_485 (by decide) ?_
  refine lv_iadd C.1.1 C.1.2.1 dL_law_486 ?_
  refine yl_scr (k := 2) C Z hX hbl hL (nI_add (6 * j) 2) (by omega) dL_law_487 ?_
  refine yy_cVi0 (As := [.int (xs (6 * j + 1)), .int (xs (6 * j + 2))]) (rest := []) (id := 0) (ci := 9) (q := (RX9, TX9, 11)) C Z (ss_X9_shared l D κ _ (xs (6 * j + 1)) (xs (6 * j + 2))) (by decide) (yy_ent_0 _) rfl tw_590 kw_X9_shared ⟨⟨rfl, rfl⟩, ⟨Nat.le_of_ble_eq_true rfl, Nat.le_of_ble_eq_true rfl⟩, (show c0 + 0 ≤ 601024 by omega), (show s0 + 0 ≤ 7293034 by omega)⟩ hl.1 rfl (Nat.le_of_ble_eq_true rfl) dL_law_488 h (fun r1 τ H locs Z h => ?_)
  refine lv_aload_n C.1.1 C.1.2.1 dL_law_491 rfl (lv_at hl 2 rfl) ?_
  refine lv_aload_n C.1.1 C.1.2.1 dL_law_492 rfl (lv_at hl 0 rfl) ?_
  refine lv_iload C.1.1 C.1.2.1 dL_law_493 (lv_at hl 4 rfl) ?_
  refine lv_iconst (v := 1) C.1.1 C.1.2.1 dL_law_495 (by decide) ?_
  refine lv_iadd C.1.1 C.1.2.1 dL_law_496 ?_
  refine yl_scr (k := 1) C Z hX hbl hL (nI_add (6 * j) 1) (by omega) dL_law_497 ?_
  refine lv_aload_n C.1.1 C.1.2.1 dL_law_498 rfl (lv_at hl 0 rfl) ?_
  refine lv_iload C.1.1 C.1.2.1 dL_law_499 (lv_at hl 4 rfl) ?_
  refine lv_iconst (v := 2) C.1.1 C.1.2.1 dL_law_501 (by decide) ?_
  refine lv_iadd C.1.1 C.1.2.1 dL_law_502 ?_
  refine yl_scr (k := 2) C Z hX hbl hL (nI_add (6 * j) 2) (by omega) dL_law_503 ?_
  refine yy_cVi0 (As := [.int (xs (6 * j + 1)), .int (xs (6 * j + 2))]) (rest := [.int r1]) (id := 112) (ci := 10) (q := (RX10, TX10, 20)) C Z (ss_X10_shared l D κ _ (xs (6 * j + 1)) (xs (6 * j + 2))) (by decide) (yy_ent_112 _) rfl tw_976 kw_X10_shared ⟨⟨rfl, rfl⟩, ⟨Nat.le_of_ble_eq_true rfl, Nat.le_of_ble_eq_true rfl⟩, (show c0 + 0 ≤ 601024 by omega), (show s0 + 0 ≤ 7293034 by omega)⟩ hl.1 rfl (Nat.le_of_ble_eq_true rfl) dL_law_504 h (fun r2 τ H locs Z h => ?_)
  refine yy_icmp_eq (tgt := 859) C dL_law_507 (by decide) h (fun h => ?_) (fun h => by unfold yl_no at h; cases h)
  refine W.widen (k := c0 + 120) (n := s0 + 1680) (by omega) (by omega) ?_
  exact kE _ _ _ _ _ (yy_rt_of h) Z hl
noncomputable def mm_L_9 (y1 : Int32) (y2 : Int32) (y3 : Int32) : yy_M Unit :=
  yy_cl (mm_X9_stays y1 y2 y3) (fun r1 => yy_cl (mm_X10_stays y1 y2 y3) (fun r2 => yy_br (r1 = r2) (yy_rt ()) yl_no))
set_option maxHeartbeats 4000000 in
set_option maxRecDepth 100000 in
theorem wl_9 (hX : va_X b L xs s s.heap) (hbl : b < s.heap.size) (hL : L ≤ 3072) (hj : 6 * j + 6 ≤ L) (hc0 : c0 + 120 ≤ 601024) (hs0 : s0 + 1680 ≤ 7293034) {res : Unit × yy_T} (C : yy_C D κ p m c cL_law 7 s args RL) (Z : yy_Z D κ [yl_o κ qo u] (fun q : Nat => s.heap.size ≤ q) s.heap τ H locs) (hl : lv_has ls 7 [(0, .ref b), (1, .ref (κ 4 + 0)), (2, .ref (κ 4 + 112)), (3, .ref qo), (4, .int (nI (6 * j)))]) (h : mm_L_9 (xs (6 * j + 1)) (xs (6 * j + 2)) (xs (6 * j + 3)) τ = some res) (kE : ∀ (u : Nat → Int64) (τ1 : yy_T) (H1 : Heap) (locs1 : List Loc) (ls1 : Array Slot), res = ((), τ1) → yy_Z D κ [yl_o κ qo u] (fun q : Nat => s.heap.size ≤ q) s.heap τ1 H1 locs1 → lv_has ls1 7 [(0, .ref b), (1, .ref (κ 4 + 0)), (2, .ref (κ 4 + 112)), (3, .ref qo), (4, .int (nI (6 * j)))] → W p l e room_1 s m args below meth c H1 locs1 (c0 + 120) (s0 + 1680) Q (F0 m 859 ls1 [])) : W p l e room_1 s m args below meth c H locs c0 s0 Q (F0 m 512 ls []) := by
  unfold mm_L_9 at h
  refine lv_aload_n C.1.1 C.1.2.1 dL_law_512 rfl (lv_at hl 1 rfl) ?_
  refine lv_aload_n C.1.1 C.1.2.1 dL_law_513 rfl (lv_at hl 0 rfl) ?_
  refine lv_iload C.1.1 C.1.2.1 dL_law_514 (lv_at hl 4 rfl) ?_
  refine lv_iconst (v := 1) C.1.1 C.1.2.1 dL_law_516 (by decide) ?_
  refine lv_iadd C.1.1 C.1.2.1 dL_law_517 ?_
  refine yl_scr (k := 1) C Z hX hbl hL (nI_add (6 * j) 1) (by omega) dL_law_518 ?_
  refine lv_aload_n C.1.1 C.1.2.1 dL_law_519 rfl (lv_at hl 0 rfl) ?_
  refine lv_iload C.1.1 C.1.2.1 dL_law_520 (lv_at hl 4 rfl) ?_
  refine lv_iconst (v := 2) C.1.1 C.1.2.1 dL_law_522 (by decide) ?_
  refine lv_iadd C.1.1 C.1.2.1 dL_law_523 ?_
  refine yl_scr (k := 2) C Z hX hbl hL (nI_add (6 * j) 2) (by omega) dL_law_524 ?_
  refine lv_aload_n C.1.1 C.1.2.1 dL_law_525 rfl (lv_at hl 0 rfl) ?_
  refine lv_iload C.1.1 C.1.2.1 dL_law_526 (lv_at hl 4 rfl) ?_
  refine lv_iconst (v := 3) C.1.1 C.1.2.1 dL_law_528 (by decide) ?_
  refine lv_iadd C.1.1 C.1.2.1 dL_law_529 ?_
  refine yl_scr (k := 3) C Z hX hbl hL (nI_add (6 * j) 3) (by omega) dL_law_530 ?_
  refine yy_cVi0 (As := [.int (xs (6 * j + 1)), .int (xs (6 * j + 2)), .int (xs (6 * j + 3))]) (rest := []) (id := 0) (ci := 9) (q := (RX9, TX9, 11)) C Z (ss_X9_stays l D κ _ (xs (6 * j + 1)) (xs (6 * j + 2)) (xs (6 * j + 3))) (by decide) (yy_ent_0 _) rfl tw_602 kw_X9_stays ⟨⟨rfl, rfl⟩, ⟨Nat.le_of_ble_eq_true rfl, Nat.le_of_ble_eq_true rfl⟩, (show c0 + 0 ≤ 601024 by omega), (show s0 + 0 ≤ 7293034 by omega)⟩ hl.1 rfl (Nat.le_of_ble_eq_true rfl) dL_law_531 h (fun r1 τ H locs Z h => ?_)
  refine lv_aload_n C.1.1 C.1.2.1 dL_law_534 rfl (lv_at hl 2 rfl) ?_
  refine lv_aload_n C.1.1 C.1.2.1 dL_law_535 rfl (lv_at hl 0 rfl) ?_
  refine lv_iload C.1.1 C.1.2.1 dL_law_536 (lv_at hl 4 rfl) ?_
  refine lv_iconst (v := 1) C.1.1 C.1.2.1 dL_law_538 (by decide) ?_
  refine lv_iadd C.1.1 C.1.2.1 dL_law_539 ?_
  refine yl_scr (k := 1) C Z hX hbl hL (nI_add (6 * j) 1) (by omega) dL_law_540 ?_
  refine lv_aload_n C.1.1 C.1.2.1 dL_law_541 rfl (lv_at hl 0 rfl) ?_
  refine lv_iload C.1.1 C.1.2.1 dL_law_542 (lv_at hl 4 rfl) ?_
  refine lv_iconst (v := 2) C.1.1 C.1.2.1 dL_law_544 (by decide) ?_
  refine lv_iadd C.1.1 C.1.2.1 dL_law_545 ?_
  refine yl_scr (k := 2) C Z hX hbl hL (nI_add (6 * j) 2) (by omega) dL_law_546 ?_
  refine lv_aload_n C.1.1 C.1.2.1 dL_law_547 rfl (lv_at hl 0 rfl) ?_
  refine lv_iload C.1.1 C.1.2.1 dL_law_548 (lv_at hl 4 rfl) ?_
  refine lv_iconst (v := 3) C.1.1 C.1.2.1 dL_law_550 (by decide) ?_
  refine lv_iadd C.1.1 C.1.2.1 dL_law_551 ?_
  refine yl_scr (k := 3) C Z hX hbl hL (nI_add (6 * j) 3) (by omega) dL_law_552 ?_
  refine yy_cVi0 (As := [.int (xs (6 * j + 1)), .int (xs (6 * j + 2)), .int (xs (6 * j + 3))]) (rest := [.int r1]) (id := 112) (ci := 10) (q := (RX10, TX10, 20)) C Z (ss_X10_stays l D κ _ (xs (6 * j + 1)) (xs (6 * j + 2)) (xs (6 * j + 3))) (by decide) (yy_ent_112 _) rfl tw_984 kw_X10_stays ⟨⟨rfl, rfl⟩, ⟨Nat.le_of_ble_eq_true rfl, Nat.le_of_ble_eq_true rfl⟩, (show c0 + 0 ≤ 601024 by omega), (show s0 + 0 ≤ 7293034 by omega)⟩ hl.1 rfl (Nat.le_of_ble_eq_true rfl) dL_law_553 h (fun r2 τ H locs Z h => ?_)
  refine yy_icmp_eq (tgt := 859) C dL_law_556 (by decide) h (fun h => ?_) (fun h => by unfold yl_no at h; cases h)
  refine W.widen (k := c0 + 120) (n := s0 + 1680) (by omega) (by omega) ?_
  exact kE _ _ _ _ _ (yy_rt_of h) Z hl
noncomputable def mm_L_10 : yy_M Unit :=
  yy_cl (mm_X9_most ) (fun r1 => yy_cl (mm_X10_most ) (fun r2 => yy_br (r1 = r2) (yy_rt ()) yl_no))
set_option maxHeartbeats 4000000 in
set_option maxRecDepth 100000 in
theorem wl_10 (hX : va_X b L xs s s.heap) (hbl : b < s.heap.size) (hL : L ≤ 3072) (hj : 6 * j + 6 ≤ L) (hc0 : c0 + 120 ≤ 601024) (hs0 : s0 + 1680 ≤ 7293034) {res : Unit × yy_T} (C : yy_C D κ p m c cL_law 7 s args RL) (Z : yy_Z D κ [yl_o κ qo u] (fun q : Nat => s.heap.size ≤ q) s.heap τ H locs) (hl : lv_has ls 7 [(0, .ref b), (1, .ref (κ 4 + 0)), (2, .ref (κ 4 + 112)), (3, .ref qo), (4, .int (nI (6 * j)))]) (h : mm_L_10 τ = some res) (kE : ∀ (u : Nat → Int64) (τ1 : yy_T) (H1 : Heap) (locs1 : List Loc) (ls1 : Array Slot), res = ((), τ1) → yy_Z D κ [yl_o κ qo u] (fun q : Nat => s.heap.size ≤ q) s.heap τ1 H1 locs1 → lv_has ls1 7 [(0, .ref b), (1, .ref (κ 4 + 0)), (2, .ref (κ 4 + 112)), (3, .ref qo), (4, .int (nI (6 * j)))] → W p l e room_1 s m args below meth c H1 locs1 (c0 + 120) (s0 + 1680) Q (F0 m 859 ls1 [])) : W p l e room_1 s m args below meth c H locs c0 s0 Q (F0 m 561 ls []) := by
  unfold mm_L_10 at h
  refine lv_aload_n C.1.1 C.1.2.1 dL_law_561 rfl (lv_at hl 1 rfl) ?_
  refine yy_cVi0 (As := []) (rest := []) (id := 0) (ci := 9) (q := (RX9, TX9, 11)) C Z (ss_X9_most l D κ _ ) (by decide) (yy_ent_0 _) rfl tw_614 kw_X9_most ⟨⟨rfl, rfl⟩, ⟨Nat.le_of_ble_eq_true rfl, Nat.le_of_ble_eq_true rfl⟩, (show c0 + 0 ≤ 601024 by omega), (show s0 + 0 ≤ 7293034 by omega)⟩ hl.1 rfl (Nat.le_of_ble_eq_true rfl) dL_law_562 h (fun r1 τ H locs Z h => ?_)
  refine lv_aload_n C.1.1 C.1.2.1 dL_law_565 rfl (lv_at hl 2 rfl) ?_
  refine yy_cVi (As := []) (rest := [.int r1]) (id := 112) (ci := 10) (q := (RX10, TX10, 20)) C Z (ss_X10_most l D κ _ ) (by decide) (yy_ent_112 _) rfl tw_988 kw_X10_most ⟨⟨rfl, rfl⟩, ⟨Nat.le_of_ble_eq_true rfl, Nat.le_of_ble_eq_true rfl⟩, (show c0 + 1 ≤ 601024 by omega), (show s0 + 225 ≤ 7293034 by omega)⟩ hl.1 rfl (Nat.le_of_ble_eq_true rfl) dL_law_566 h (fun r2 τ H locs Z h => ?_)
  refine yy_icmp_eq (tgt := 859) C dL_law_569 (by decide) h (fun h => ?_) (fun h => by unfold yl_no at h; cases h)
  refine W.widen (k := c0 + 120) (n := s0 + 1680) (by omega) (by omega) ?_
  exact kE _ _ _ _ _ (yy_rt_of h) Z hl
noncomputable def mm_L_11 : yy_M Unit :=
  yy_cl (mm_X9_changes ) (fun r1 => yy_cl (mm_X10_changes ) (fun r2 => yy_br (r1 = r2) (yy_rt ()) yl_no))
set_option maxHeartbeats 4000000 in
set_option maxRecDepth 100000 in
theorem wl_11 (hX : va_X b L xs s s.heap) (hbl : b < s.heap.size) (hL : L ≤ 3072) (hj : 6 * j + 6 ≤ L) (hc0 : c0 + 120 ≤ 601024) (hs0 : s0 + 1680 ≤ 7293034) {res : Unit × yy_T} (C : yy_C D κ p m c cL_law 7 s args RL) (Z : yy_Z D κ [yl_o κ qo u] (fun q : Nat => s.heap.size ≤ q) s.heap τ H locs) (hl : lv_has ls 7 [(0, .ref b), (1, .ref (κ 4 + 0)), (2, .ref (κ 4 + 112)), (3, .ref qo), (4, .int (nI (6 * j)))]) (h : mm_L_11 τ = some res) (kE : ∀ (u : Nat → Int64) (τ1 : yy_T) (H1 : Heap) (locs1 : List Loc) (ls1 : Array Slot), res = ((), τ1) → yy_Z D κ [yl_o κ qo u] (fun q : Nat => s.heap.size ≤ q) s.heap τ1 H1 locs1 → lv_has ls1 7 [(0, .ref b), (1, .ref (κ 4 + 0)), (2, .ref (κ 4 + 112)), (3, .ref qo), (4, .int (nI (6 * j)))] → W p l e room_1 s m args below meth c H1 locs1 (c0 + 120) (s0 + 1680) Q (F0 m 859 ls1 [])) : W p l e room_1 s m args below meth c H locs c0 s0 Q (F0 m 574 ls []) := by
  unfold mm_L_11 at h
  refine lv_aload_n C.1.1 C.1.2.1 dL_law_574 rfl (lv_at hl 1 rfl) ?_
  refine yy_cVi0 (As := []) (rest := []) (id := 0) (ci := 9) (q := (RX9, TX9, 11)) C Z (ss_X9_changes l D κ _ ) (by decide) (yy_ent_0 _) rfl tw_622 kw_X9_changes ⟨⟨rfl, rfl⟩, ⟨Nat.le_of_ble_eq_true rfl, Nat.le_of_ble_eq_true rfl⟩, (show c0 + 0 ≤ 601024 by omega), (show s0 + 0 ≤ 7293034 by omega)⟩ hl.1 rfl (Nat.le_of_ble_eq_true rfl) dL_law_575 h (fun r1 τ H locs Z h => ?_)
  refine lv_aload_n C.1.1 C.1.2.1 dL_law_578 rfl (lv_at hl 2 rfl) ?_
  refine yy_cVi (As := []) (rest := [.int r1]) (id := 112) (ci := 10) (q := (RX10, TX10, 20)) C Z (ss_X10_changes l D κ _ ) (by decide) (yy_ent_112 _) rfl tw_992 kw_X10_changes ⟨⟨rfl, rfl⟩, ⟨Nat.le_of_ble_eq_true rfl, Nat.le_of_ble_eq_true rfl⟩, (show c0 + 58 ≤ 601024 by omega), (show s0 + 812 ≤ 7293034 by omega)⟩ hl.1 rfl (Nat.le_of_ble_eq_true rfl) dL_law_579 h (fun r2 τ H locs Z h => ?_)
  refine yy_icmp_eq (tgt := 859) C dL_law_582 (by decide) h (fun h => ?_) (fun h => by unfold yl_no at h; cases h)
  refine W.widen (k := c0 + 120) (n := s0 + 1680) (by omega) (by omega) ?_
  exact kE _ _ _ _ _ (yy_rt_of h) Z hl
noncomputable def mm_L_12 (y1 : Int32) : yy_M Unit :=
  yy_cl (mm_X9_anchors y1) (fun r1 => yy_cl (mm_X10_anchors y1) (fun r2 => yy_br (r1 = r2) (yy_rt ()) yl_no))
set_option maxHeartbeats 4000000 in
set_option maxRecDepth 100000 in
theorem wl_12 (hX : va_X b L xs s s.heap) (hbl : b < s.heap.size) (hL : L ≤ 3072) (hj : 6 * j + 6 ≤ L) (hc0 : c0 + 120 ≤ 601024) (hs0 : s0 + 1680 ≤ 7293034) {res : Unit × yy_T} (C : yy_C D κ p m c cL_law 7 s args RL) (Z : yy_Z D κ [yl_o κ qo u] (fun q : Nat => s.heap.size ≤ q) s.heap τ H locs) (hl : lv_has ls 7 [(0, .ref b), (1, .ref (κ 4 + 0)), (2, .ref (κ 4 + 112)), (3, .ref qo), (4, .int (nI (6 * j)))]) (h : mm_L_12 (xs (6 * j + 1)) τ = some res) (kE : ∀ (u : Nat → Int64) (τ1 : yy_T) (H1 : Heap) (locs1 : List Loc) (ls1 : Array Slot), res = ((), τ1) → yy_Z D κ [yl_o κ qo u] (fun q : Nat => s.heap.size ≤ q) s.heap τ1 H1 locs1 → lv_has ls1 7 [(0, .ref b), (1, .ref (κ 4 + 0)), (2, .ref (κ 4 + 112)), (3, .ref qo), (4, .int (nI (6 * j)))] → W p l e room_1 s m args below meth c H1 locs1 (c0 + 120) (s0 + 1680) Q (F0 m 859 ls1 [])) : W p l e room_1 s m args below meth c H locs c0 s0 Q (F0 m 587 ls []) := by
  unfold mm_L_12 at h
  refine lv_aload_n C.1.1 C.1.2.1 dL_law_587 rfl (lv_at hl 1 rfl) ?_
  refine lv_aload_n C.1.1 C.1.2.1 dL_law_588 rfl (lv_at hl 0 rfl) ?_
  refine lv_iload C.1.1 C.1.2.1 dL_law_589 (lv_at hl 4 rfl) ?_
  refine lv_iconst (v := 1) C.1.1 C.1.2.1 dL_law_591 (by decide) ?_
  refine lv_iadd C.1.1 C.1.2.1 dL_law_592 ?_
  refine yl_scr (k := 1) C Z hX hbl hL (nI_add (6 * j) 1) (by omega) dL_law_593 ?_
  refine yy_cVi0 (As := [.int (xs (6 * j + 1))]) (rest := []) (id := 0) (ci := 9) (q := (RX9, TX9, 11)) C Z (ss_X9_anchors l D κ _ (xs (6 * j + 1))) (by decide) (yy_ent_0 _) rfl tw_626 kw_X9_anchors ⟨⟨rfl, rfl⟩, ⟨Nat.le_of_ble_eq_true rfl, Nat.le_of_ble_eq_true rfl⟩, (show c0 + 0 ≤ 601024 by omega), (show s0 + 0 ≤ 7293034 by omega)⟩ hl.1 rfl (Nat.le_of_ble_eq_true rfl) dL_law_594 h (fun r1 τ H locs Z h => ?_)
  refine lv_aload_n C.1.1 C.1.2.1 dL_law_597 rfl (lv_at hl 2 rfl) ?_
  refine lv_aload_n C.1.1 C.1.2.1 dL_law_598 rfl (lv_at hl 0 rfl) ?_
  refine lv_iload C.1.1 C.1.2.1 dL_law_599 (lv_at hl 4 rfl) ?_
  refine lv_iconst (v := 1) C.1.1 C.1.2.1 dL_law_601 (by decide) ?_
  refine lv_iadd C.1.1 C.1.2.1 dL_law_602 ?_
  refine yl_scr (k := 1) C Z hX hbl hL (nI_add (6 * j) 1) (by omega) dL_law_603 ?_
  refine yy_cVi (As := [.int (xs (6 * j + 1))]) (rest := [.int r1]) (id := 112) (ci := 10) (q := (RX10, TX10, 20)) C Z (ss_X10_anchors l D κ _ (xs (6 * j + 1))) (by decide) (yy_ent_112 _) rfl tw_996 kw_X10_anchors ⟨⟨rfl, rfl⟩, ⟨Nat.le_of_ble_eq_true rfl, Nat.le_of_ble_eq_true rfl⟩, (show c0 + 58 ≤ 601024 by omega), (show s0 + 812 ≤ 7293034 by omega)⟩ hl.1 rfl (Nat.le_of_ble_eq_true rfl) dL_law_604 h (fun r2 τ H locs Z h => ?_)
  refine yy_icmp_eq (tgt := 859) C dL_law_607 (by decide) h (fun h => ?_) (fun h => by unfold yl_no at h; cases h)
  refine W.widen (k := c0 + 120) (n := s0 + 1680) (by omega) (by omega) ?_
  exact kE _ _ _ _ _ (yy_rt_of h) Z hl
noncomputable def mm_L_13 (y1 : Int32) (y2 : Int32) (y3 : Int32) : yy_M Unit :=
  yy_cl (mm_X9_would y1 y2 y3) (fun r1 => yy_cl (mm_X10_would y1 y2 y3) (fun r2 => yy_br (r1 = r2) (yy_rt ()) yl_no))
set_option maxHeartbeats 4000000 in
set_option maxRecDepth 100000 in
theorem wl_13 (hX : va_X b L xs s s.heap) (hbl : b < s.heap.size) (hL : L ≤ 3072) (hj : 6 * j + 6 ≤ L) (hc0 : c0 + 120 ≤ 601024) (hs0 : s0 + 1680 ≤ 7293034) {res : Unit × yy_T} (C : yy_C D κ p m c cL_law 7 s args RL) (Z : yy_Z D κ [yl_o κ qo u] (fun q : Nat => s.heap.size ≤ q) s.heap τ H locs) (hl : lv_has ls 7 [(0, .ref b), (1, .ref (κ 4 + 0)), (2, .ref (κ 4 + 112)), (3, .ref qo), (4, .int (nI (6 * j)))]) (h : mm_L_13 (xs (6 * j + 1)) (xs (6 * j + 2)) (xs (6 * j + 3)) τ = some res) (kE : ∀ (u : Nat → Int64) (τ1 : yy_T) (H1 : Heap) (locs1 : List Loc) (ls1 : Array Slot), res = ((), τ1) → yy_Z D κ [yl_o κ qo u] (fun q : Nat => s.heap.size ≤ q) s.heap τ1 H1 locs1 → lv_has ls1 7 [(0, .ref b), (1, .ref (κ 4 + 0)), (2, .ref (κ 4 + 112)), (3, .ref qo), (4, .int (nI (6 * j)))] → W p l e room_1 s m args below meth c H1 locs1 (c0 + 120) (s0 + 1680) Q (F0 m 859 ls1 [])) : W p l e room_1 s m args below meth c H locs c0 s0 Q (F0 m 612 ls []) := by
  unfold mm_L_13 at h
  refine lv_aload_n C.1.1 C.1.2.1 dL_law_612 rfl (lv_at hl 1 rfl) ?_
  refine lv_aload_n C.1.1 C.1.2.1 dL_law_613 rfl (lv_at hl 0 rfl) ?_
  refine lv_iload C.1.1 C.1.2.1 dL_law_614 (lv_at hl 4 rfl) ?_
  refine lv_iconst (v := 1) C.1.1 C.1.2.1 dL_law_616 (by decide) ?_
  refine lv_iadd C.1.1 C.1.2.1 dL_law_617 ?_
  refine yl_scr (k := 1) C Z hX hbl hL (nI_add (6 * j) 1) (by omega) dL_law_618 ?_
  refine lv_aload_n C.1.1 C.1.2.1 dL_law_619 rfl (lv_at hl 0 rfl) ?_
  refine lv_iload C.1.1 C.1.2.1 dL_law_620 (lv_at hl 4 rfl) ?_
  refine lv_iconst (v := 2) C.1.1 C.1.2.1 dL_law_622 (by decide) ?_
  refine lv_iadd C.1.1 C.1.2.1 dL_law_623 ?_
  refine yl_scr (k := 2) C Z hX hbl hL (nI_add (6 * j) 2) (by omega) dL_law_624 ?_
  refine lv_aload_n C.1.1 C.1.2.1 dL_law_625 rfl (lv_at hl 0 rfl) ?_
  refine lv_iload C.1.1 C.1.2.1 dL_law_626 (lv_at hl 4 rfl) ?_
  refine lv_iconst (v := 3) C.1.1 C.1.2.1 dL_law_628 (by decide) ?_
  refine lv_iadd C.1.1 C.1.2.1 dL_law_629 ?_
  refine yl_scr (k := 3) C Z hX hbl hL (nI_add (6 * j) 3) (by omega) dL_law_630 ?_
  refine yy_cVi0 (As := [.int (xs (6 * j + 1)), .int (xs (6 * j + 2)), .int (xs (6 * j + 3))]) (rest := []) (id := 0) (ci := 9) (q := (RX9, TX9, 11)) C Z (ss_X9_would l D κ _ (xs (6 * j + 1)) (xs (6 * j + 2)) (xs (6 * j + 3))) (by decide) (yy_ent_0 _) rfl tw_630 kw_X9_would ⟨⟨rfl, rfl⟩, ⟨Nat.le_of_ble_eq_true rfl, Nat.le_of_ble_eq_true rfl⟩, (show c0 + 0 ≤ 601024 by omega), (show s0 + 0 ≤ 7293034 by omega)⟩ hl.1 rfl (Nat.le_of_ble_eq_true rfl) dL_law_631 h (fun r1 τ H locs Z h => ?_)
  refine lv_aload_n C.1.1 C.1.2.1 dL_law_634 rfl (lv_at hl 2 rfl) ?_
  refine lv_aload_n C.1.1 C.1.2.1 dL_law_635 rfl (lv_at hl 0 rfl) ?_
  refine lv_iload C.1.1 C.1.2.1 dL_law_636 (lv_at hl 4 rfl) ?_
  refine lv_iconst (v := 1) C.1.1 C.1.2.1 dL_law_638 (by decide) ?_
  refine lv_iadd C.1.1 C.1.2.1 dL_law_639 ?_
  refine yl_scr (k := 1) C Z hX hbl hL (nI_add (6 * j) 1) (by omega) dL_law_640 ?_
  refine lv_aload_n C.1.1 C.1.2.1 dL_law_641 rfl (lv_at hl 0 rfl) ?_
  refine lv_iload C.1.1 C.1.2.1 dL_law_642 (lv_at hl 4 rfl) ?_
  refine lv_iconst (v := 2) C.1.1 C.1.2.1 dL_law_644 (by decide) ?_
  refine lv_iadd C.1.1 C.1.2.1 dL_law_645 ?_
  refine yl_scr (k := 2) C Z hX hbl hL (nI_add (6 * j) 2) (by omega) dL_law_646 ?_
  refine lv_aload_n C.1.1 C.1.2.1 dL_law_647 rfl (lv_at hl 0 rfl) ?_
  refine lv_iload C.1.1 C.1.2.1 dL_law_648 (lv_at hl 4 rfl) ?_
  refine lv_iconst (v := 3) C.1.1 C.1.2.1 dL_law_650 (by decide) ?_
  refine lv_iadd C.1.1 C.1.2.1 dL_law_651 ?_
  refine yl_scr (k := 3) C Z hX hbl hL (nI_add (6 * j) 3) (by omega) dL_law_652 ?_
  refine yy_cVi (As := [.int (xs (6 * j + 1)), .int (xs (6 * j + 2)), .int (xs (6 * j + 3))]) (rest := [.int r1]) (id := 112) (ci := 10) (q := (RX10, TX10, 20)) C Z (ss_X10_would l D κ _ (xs (6 * j + 1)) (xs (6 * j + 2)) (xs (6 * j + 3))) (by decide) (yy_ent_112 _) rfl tw_1000 kw_X10_would ⟨⟨rfl, rfl⟩, ⟨Nat.le_of_ble_eq_true rfl, Nat.le_of_ble_eq_true rfl⟩, (show c0 + 117 ≤ 601024 by omega), (show s0 + 1633 ≤ 7293034 by omega)⟩ hl.1 rfl (Nat.le_of_ble_eq_true rfl) dL_law_653 h (fun r2 τ H locs Z h => ?_)
  refine yy_icmp_eq (tgt := 859) C dL_law_656 (by decide) h (fun h => ?_) (fun h => by unfold yl_no at h; cases h)
  refine W.widen (k := c0 + 120) (n := s0 + 1680) (by omega) (by omega) ?_
  exact kE _ _ _ _ _ (yy_rt_of h) Z hl
noncomputable def mm_L_14 (y1 : Int32) (y2 : Int32) : yy_M Unit :=
  yy_cl (mm_X9_put y1 y2) (fun r1 => yy_cl (mm_X10_put y1 y2) (fun r2 => yy_br (r1 = r2) (yy_rt ()) yl_no))
set_option maxHeartbeats 4000000 in
set_option maxRecDepth 100000 in
theorem wl_14 (hX : va_X b L xs s s.heap) (hbl : b < s.heap.size) (hL : L ≤ 3072) (hj : 6 * j + 6 ≤ L) (hc0 : c0 + 120 ≤ 601024) (hs0 : s0 + 1680 ≤ 7293034) {res : Unit × yy_T} (C : yy_C D κ p m c cL_law 7 s args RL) (Z : yy_Z D κ [yl_o κ qo u] (fun q : Nat => s.heap.size ≤ q) s.heap τ H locs) (hl : lv_has ls 7 [(0, .ref b), (1, .ref (κ 4 + 0)), (2, .ref (κ 4 + 112)), (3, .ref qo), (4, .int (nI (6 * j)))]) (h : mm_L_14 (xs (6 * j + 1)) (xs (6 * j + 2)) τ = some res) (kE : ∀ (u : Nat → Int64) (τ1 : yy_T) (H1 : Heap) (locs1 : List Loc) (ls1 : Array Slot), res = ((), τ1) → yy_Z D κ [yl_o κ qo u] (fun q : Nat => s.heap.size ≤ q) s.heap τ1 H1 locs1 → lv_has ls1 7 [(0, .ref b), (1, .ref (κ 4 + 0)), (2, .ref (κ 4 + 112)), (3, .ref qo), (4, .int (nI (6 * j)))] → W p l e room_1 s m args below meth c H1 locs1 (c0 + 120) (s0 + 1680) Q (F0 m 859 ls1 [])) : W p l e room_1 s m args below meth c H locs c0 s0 Q (F0 m 661 ls []) := by
  unfold mm_L_14 at h
  refine lv_aload_n C.1.1 C.1.2.1 dL_law_661 rfl (lv_at hl 1 rfl) ?_
  refine lv_aload_n C.1.1 C.1.2.1 dL_law_662 rfl (lv_at hl 0 rfl) ?_
  refine lv_iload C.1.1 C.1.2.1 dL_law_663 (lv_at hl 4 rfl) ?_
  refine lv_iconst (v := 1) C.1.1 C.1.2.1 dL_law_665 (by decide) ?_
  refine lv_iadd C.1.1 C.1.2.1 dL_law_666 ?_
  refine yl_scr (k := 1) C Z hX hbl hL (nI_add (6 * j) 1) (by omega) dL_law_667 ?_
  refine lv_aload_n C.1.1 C.1.2.1 dL_law_668 rfl (lv_at hl 0 rfl) ?_
  refine lv_iload C.1.1 C.1.2.1 dL_law_669 (lv_at hl 4 rfl) ?_
  refine lv_iconst (v := 2) C.1.1 C.1.2.1 dL_law_671 (by decide) ?_
  refine lv_iadd C.1.1 C.1.2.1 dL_law_672 ?_
  refine yl_scr (k := 2) C Z hX hbl hL (nI_add (6 * j) 2) (by omega) dL_law_673 ?_
  refine yy_cVi0 (As := [.int (xs (6 * j + 1)), .int (xs (6 * j + 2))]) (rest := []) (id := 0) (ci := 9) (q := (RX9, TX9, 11)) C Z (ss_X9_put l D κ _ (xs (6 * j + 1)) (xs (6 * j + 2))) (by decide) (yy_ent_0 _) rfl tw_642 kw_X9_put ⟨⟨rfl, rfl⟩, ⟨Nat.le_of_ble_eq_true rfl, Nat.le_of_ble_eq_true rfl⟩, (show c0 + 0 ≤ 601024 by omega), (show s0 + 0 ≤ 7293034 by omega)⟩ hl.1 rfl (Nat.le_of_ble_eq_true rfl) dL_law_674 h (fun r1 τ H locs Z h => ?_)
  refine lv_aload_n C.1.1 C.1.2.1 dL_law_677 rfl (lv_at hl 2 rfl) ?_
  refine lv_aload_n C.1.1 C.1.2.1 dL_law_678 rfl (lv_at hl 0 rfl) ?_
  refine lv_iload C.1.1 C.1.2.1 dL_law_679 (lv_at hl 4 rfl) ?_
  refine lv_iconst (v := 1) C.1.1 C.1.2.1 dL_law_681 (by decide) ?_
  refine lv_iadd C.1.1 C.1.2.1 dL_law_682 ?_
  refine yl_scr (k := 1) C Z hX hbl hL (nI_add (6 * j) 1) (by omega) dL_law_683 ?_
  refine lv_aload_n C.1.1 C.1.2.1 dL_law_684 rfl (lv_at hl 0 rfl) ?_
  refine lv_iload C.1.1 C.1.2.1 dL_law_685 (lv_at hl 4 rfl) ?_
  refine lv_iconst (v := 2) C.1.1 C.1.2.1 dL_law_687 (by decide) ?_
  refine lv_iadd C.1.1 C.1.2.1 dL_law_688 ?_
  refine yl_scr (k := 2) C Z hX hbl hL (nI_add (6 * j) 2) (by omega) dL_law_689 ?_
  refine yy_cVi0 (As := [.int (xs (6 * j + 1)), .int (xs (6 * j + 2))]) (rest := [.int r1]) (id := 112) (ci := 10) (q := (RX10, TX10, 20)) C Z (ss_X10_put l D κ _ (xs (6 * j + 1)) (xs (6 * j + 2))) (by decide) (yy_ent_112 _) rfl tw_1008 kw_X10_put ⟨⟨rfl, rfl⟩, ⟨Nat.le_of_ble_eq_true rfl, Nat.le_of_ble_eq_true rfl⟩, (show c0 + 0 ≤ 601024 by omega), (show s0 + 0 ≤ 7293034 by omega)⟩ hl.1 rfl (Nat.le_of_ble_eq_true rfl) dL_law_690 h (fun r2 τ H locs Z h => ?_)
  refine yy_icmp_eq (tgt := 859) C dL_law_693 (by decide) h (fun h => ?_) (fun h => by unfold yl_no at h; cases h)
  refine W.widen (k := c0 + 120) (n := s0 + 1680) (by omega) (by omega) ?_
  exact kE _ _ _ _ _ (yy_rt_of h) Z hl
noncomputable def mm_L_15 (y1 : Int32) (y2 : Int32) : yy_M Unit :=
  yy_cl (mm_X9_change y1 y2) (fun r1 => yy_cl (mm_X10_change y1 y2) (fun r2 => yy_br (r1 = r2) (yy_rt ()) yl_no))
set_option maxHeartbeats 4000000 in
set_option maxRecDepth 100000 in
theorem wl_15 (hX : va_X b L xs s s.heap) (hbl : b < s.heap.size) (hL : L ≤ 3072) (hj : 6 * j + 6 ≤ L) (hc0 : c0 + 120 ≤ 601024) (hs0 : s0 + 1680 ≤ 7293034) {res : Unit × yy_T} (C : yy_C D κ p m c cL_law 7 s args RL) (Z : yy_Z D κ [yl_o κ qo u] (fun q : Nat => s.heap.size ≤ q) s.heap τ H locs) (hl : lv_has ls 7 [(0, .ref b), (1, .ref (κ 4 + 0)), (2, .ref (κ 4 + 112)), (3, .ref qo), (4, .int (nI (6 * j)))]) (h : mm_L_15 (xs (6 * j + 1)) (xs (6 * j + 2)) τ = some res) (kE : ∀ (u : Nat → Int64) (τ1 : yy_T) (H1 : Heap) (locs1 : List Loc) (ls1 : Array Slot), res = ((), τ1) → yy_Z D κ [yl_o κ qo u] (fun q : Nat => s.heap.size ≤ q) s.heap τ1 H1 locs1 → lv_has ls1 7 [(0, .ref b), (1, .ref (κ 4 + 0)), (2, .ref (κ 4 + 112)), (3, .ref qo), (4, .int (nI (6 * j)))] → W p l e room_1 s m args below meth c H1 locs1 (c0 + 120) (s0 + 1680) Q (F0 m 859 ls1 [])) : W p l e room_1 s m args below meth c H locs c0 s0 Q (F0 m 698 ls []) := by
  unfold mm_L_15 at h
  refine lv_aload_n C.1.1 C.1.2.1 dL_law_698 rfl (lv_at hl 1 rfl) ?_
  refine lv_aload_n C.1.1 C.1.2.1 dL_law_699 rfl (lv_at hl 0 rfl) ?_
  refine lv_iload C.1.1 C.1.2.1 dL_law_700 (lv_at hl 4 rfl) ?_
  refine lv_iconst (v := 1) C.1.1 C.1.2.1 dL_law_702 (by decide) ?_
  refine lv_iadd C.1.1 C.1.2.1 dL_law_703 ?_
  refine yl_scr (k := 1) C Z hX hbl hL (nI_add (6 * j) 1) (by omega) dL_law_704 ?_
  refine lv_aload_n C.1.1 C.1.2.1 dL_law_705 rfl (lv_at hl 0 rfl) ?_
  refine lv_iload C.1.1 C.1.2.1 dL_law_706 (lv_at hl 4 rfl) ?_
  refine lv_iconst (v := 2) C.1.1 C.1.2.1 dL_law_708 (by decide) ?_
  refine lv_iadd C.1.1 C.1.2.1 dL_law_709 ?_
  refine yl_scr (k := 2) C Z hX hbl hL (nI_add (6 * j) 2) (by omega) dL_law_710 ?_
  refine yy_cVi0 (As := [.int (xs (6 * j + 1)), .int (xs (6 * j + 2))]) (rest := []) (id := 0) (ci := 9) (q := (RX9, TX9, 11)) C Z (ss_X9_change l D κ _ (xs (6 * j + 1)) (xs (6 * j + 2))) (by decide) (yy_ent_0 _) rfl tw_660 kw_X9_change ⟨⟨rfl, rfl⟩, ⟨Nat.le_of_ble_eq_true rfl, Nat.le_of_ble_eq_true rfl⟩, (show c0 + 0 ≤ 601024 by omega), (show s0 + 0 ≤ 7293034 by omega)⟩ hl.1 rfl (Nat.le_of_ble_eq_true rfl) dL_law_711 h (fun r1 τ H locs Z h => ?_)
  refine lv_aload_n C.1.1 C.1.2.1 dL_law_714 rfl (lv_at hl 2 rfl) ?_
  refine lv_aload_n C.1.1 C.1.2.1 dL_law_715 rfl (lv_at hl 0 rfl) ?_
  refine lv_iload C.1.1 C.1.2.1 dL_law_716 (lv_at hl 4 rfl) ?_
  refine lv_iconst (v := 1) C.1.1 C.1.2.1 dL_law_718 (by decide) ?_
  refine lv_iadd C.1.1 C.1.2.1 dL_law_719 ?_
  refine yl_scr (k := 1) C Z hX hbl hL (nI_add (6 * j) 1) (by omega) dL_law_720 ?_
  refine lv_aload_n C.1.1 C.1.2.1 dL_law_721 rfl (lv_at hl 0 rfl) ?_
  refine lv_iload C.1.1 C.1.2.1 dL_law_722 (lv_at hl 4 rfl) ?_
  refine lv_iconst (v := 2) C.1.1 C.1.2.1 dL_law_724 (by decide) ?_
  refine lv_iadd C.1.1 C.1.2.1 dL_law_725 ?_
  refine yl_scr (k := 2) C Z hX hbl hL (nI_add (6 * j) 2) (by omega) dL_law_726 ?_
  refine yy_cVi0 (As := [.int (xs (6 * j + 1)), .int (xs (6 * j + 2))]) (rest := [.int r1]) (id := 112) (ci := 10) (q := (RX10, TX10, 20)) C Z (ss_X10_change l D κ _ (xs (6 * j + 1)) (xs (6 * j + 2))) (by decide) (yy_ent_112 _) rfl tw_1024 kw_X10_change ⟨⟨rfl, rfl⟩, ⟨Nat.le_of_ble_eq_true rfl, Nat.le_of_ble_eq_true rfl⟩, (show c0 + 0 ≤ 601024 by omega), (show s0 + 0 ≤ 7293034 by omega)⟩ hl.1 rfl (Nat.le_of_ble_eq_true rfl) dL_law_727 h (fun r2 τ H locs Z h => ?_)
  refine yy_icmp_eq (tgt := 859) C dL_law_730 (by decide) h (fun h => ?_) (fun h => by unfold yl_no at h; cases h)
  refine W.widen (k := c0 + 120) (n := s0 + 1680) (by omega) (by omega) ?_
  exact kE _ _ _ _ _ (yy_rt_of h) Z hl
noncomputable def mm_L_16 (y1 : Int32) (y2 : Int32) : yy_M Unit :=
  yy_cl (mm_X9_cut y1 y2) (fun r1 => yy_cl (mm_X10_cut y1 y2) (fun r2 => yy_br (r1 = r2) (yy_rt ()) yl_no))
set_option maxHeartbeats 4000000 in
set_option maxRecDepth 100000 in
theorem wl_16 (hX : va_X b L xs s s.heap) (hbl : b < s.heap.size) (hL : L ≤ 3072) (hj : 6 * j + 6 ≤ L) (hc0 : c0 + 120 ≤ 601024) (hs0 : s0 + 1680 ≤ 7293034) {res : Unit × yy_T} (C : yy_C D κ p m c cL_law 7 s args RL) (Z : yy_Z D κ [yl_o κ qo u] (fun q : Nat => s.heap.size ≤ q) s.heap τ H locs) (hl : lv_has ls 7 [(0, .ref b), (1, .ref (κ 4 + 0)), (2, .ref (κ 4 + 112)), (3, .ref qo), (4, .int (nI (6 * j)))]) (h : mm_L_16 (xs (6 * j + 1)) (xs (6 * j + 2)) τ = some res) (kE : ∀ (u : Nat → Int64) (τ1 : yy_T) (H1 : Heap) (locs1 : List Loc) (ls1 : Array Slot), res = ((), τ1) → yy_Z D κ [yl_o κ qo u] (fun q : Nat => s.heap.size ≤ q) s.heap τ1 H1 locs1 → lv_has ls1 7 [(0, .ref b), (1, .ref (κ 4 + 0)), (2, .ref (κ 4 + 112)), (3, .ref qo), (4, .int (nI (6 * j)))] → W p l e room_1 s m args below meth c H1 locs1 (c0 + 120) (s0 + 1680) Q (F0 m 859 ls1 [])) : W p l e room_1 s m args below meth c H locs c0 s0 Q (F0 m 735 ls []) := by
  unfold mm_L_16 at h
  refine lv_aload_n C.1.1 C.1.2.1 dL_law_735 rfl (lv_at hl 1 rfl) ?_
  refine lv_aload_n C.1.1 C.1.2.1 dL_law_736 rfl (lv_at hl 0 rfl) ?_
  refine lv_iload C.1.1 C.1.2.1 dL_law_737 (lv_at hl 4 rfl) ?_
  refine lv_iconst (v := 1) C.1.1 C.1.2.1 dL_law_739 (by decide) ?_
  refine lv_iadd C.1.1 C.1.2.1 dL_law_740 ?_
  refine yl_scr (k := 1) C Z hX hbl hL (nI_add (6 * j) 1) (by omega) dL_law_741 ?_
  refine lv_aload_n C.1.1 C.1.2.1 dL_law_742 rfl (lv_at hl 0 rfl) ?_
  refine lv_iload C.1.1 C.1.2.1 dL_law_743 (lv_at hl 4 rfl) ?_
  refine lv_iconst (v := 2) C.1.1 C.1.2.1 dL_law_745 (by decide) ?_
  refine lv_iadd C.1.1 C.1.2.1 dL_law_746 ?_
  refine yl_scr (k := 2) C Z hX hbl hL (nI_add (6 * j) 2) (by omega) dL_law_747 ?_
  refine yy_cVi0 (As := [.int (xs (6 * j + 1)), .int (xs (6 * j + 2))]) (rest := []) (id := 0) (ci := 9) (q := (RX9, TX9, 11)) C Z (ss_X9_cut l D κ _ (xs (6 * j + 1)) (xs (6 * j + 2))) (by decide) (yy_ent_0 _) rfl tw_664 kw_X9_cut ⟨⟨rfl, rfl⟩, ⟨Nat.le_of_ble_eq_true rfl, Nat.le_of_ble_eq_true rfl⟩, (show c0 + 0 ≤ 601024 by omega), (show s0 + 0 ≤ 7293034 by omega)⟩ hl.1 rfl (Nat.le_of_ble_eq_true rfl) dL_law_748 h (fun r1 τ H locs Z h => ?_)
  refine lv_aload_n C.1.1 C.1.2.1 dL_law_751 rfl (lv_at hl 2 rfl) ?_
  refine lv_aload_n C.1.1 C.1.2.1 dL_law_752 rfl (lv_at hl 0 rfl) ?_
  refine lv_iload C.1.1 C.1.2.1 dL_law_753 (lv_at hl 4 rfl) ?_
  refine lv_iconst (v := 1) C.1.1 C.1.2.1 dL_law_755 (by decide) ?_
  refine lv_iadd C.1.1 C.1.2.1 dL_law_756 ?_
  refine yl_scr (k := 1) C Z hX hbl hL (nI_add (6 * j) 1) (by omega) dL_law_757 ?_
  refine lv_aload_n C.1.1 C.1.2.1 dL_law_758 rfl (lv_at hl 0 rfl) ?_
  refine lv_iload C.1.1 C.1.2.1 dL_law_759 (lv_at hl 4 rfl) ?_
  refine lv_iconst (v := 2) C.1.1 C.1.2.1 dL_law_761 (by decide) ?_
  refine lv_iadd C.1.1 C.1.2.1 dL_law_762 ?_
  refine yl_scr (k := 2) C Z hX hbl hL (nI_add (6 * j) 2) (by omega) dL_law_763 ?_
  refine yy_cVi0 (As := [.int (xs (6 * j + 1)), .int (xs (6 * j + 2))]) (rest := [.int r1]) (id := 112) (ci := 10) (q := (RX10, TX10, 20)) C Z (ss_X10_cut l D κ _ (xs (6 * j + 1)) (xs (6 * j + 2))) (by decide) (yy_ent_112 _) rfl tw_1028 kw_X10_cut ⟨⟨rfl, rfl⟩, ⟨Nat.le_of_ble_eq_true rfl, Nat.le_of_ble_eq_true rfl⟩, (show c0 + 0 ≤ 601024 by omega), (show s0 + 0 ≤ 7293034 by omega)⟩ hl.1 rfl (Nat.le_of_ble_eq_true rfl) dL_law_764 h (fun r2 τ H locs Z h => ?_)
  refine yy_icmp_eq (tgt := 859) C dL_law_767 (by decide) h (fun h => ?_) (fun h => by unfold yl_no at h; cases h)
  refine W.widen (k := c0 + 120) (n := s0 + 1680) (by omega) (by omega) ?_
  exact kE _ _ _ _ _ (yy_rt_of h) Z hl
noncomputable def mm_L_17 (y1 : Int32) (y2 : Int32) (y3 : Int32) (y4 : Int32) : yy_M Unit :=
  yy_cl (mm_X9_move y1 y2 y3 y4) (fun r1 => yy_cl (mm_X10_move y1 y2 y3 y4) (fun r2 => yy_br (r1 = r2) (yy_rt ()) yl_no))
set_option maxHeartbeats 4000000 in
set_option maxRecDepth 100000 in
theorem wl_17 (hX : va_X b L xs s s.heap) (hbl : b < s.heap.size) (hL : L ≤ 3072) (hj : 6 * j + 6 ≤ L) (hc0 : c0 + 120 ≤ 601024) (hs0 : s0 + 1680 ≤ 7293034) {res : Unit × yy_T} (C : yy_C D κ p m c cL_law 7 s args RL) (Z : yy_Z D κ [yl_o κ qo u] (fun q : Nat => s.heap.size ≤ q) s.heap τ H locs) (hl : lv_has ls 7 [(0, .ref b), (1, .ref (κ 4 + 0)), (2, .ref (κ 4 + 112)), (3, .ref qo), (4, .int (nI (6 * j)))]) (h : mm_L_17 (xs (6 * j + 1)) (xs (6 * j + 2)) (xs (6 * j + 3)) (xs (6 * j + 4)) τ = some res) (kE : ∀ (u : Nat → Int64) (τ1 : yy_T) (H1 : Heap) (locs1 : List Loc) (ls1 : Array Slot), res = ((), τ1) → yy_Z D κ [yl_o κ qo u] (fun q : Nat => s.heap.size ≤ q) s.heap τ1 H1 locs1 → lv_has ls1 7 [(0, .ref b), (1, .ref (κ 4 + 0)), (2, .ref (κ 4 + 112)), (3, .ref qo), (4, .int (nI (6 * j)))] → W p l e room_1 s m args below meth c H1 locs1 (c0 + 120) (s0 + 1680) Q (F0 m 859 ls1 [])) : W p l e room_1 s m args below meth c H locs c0 s0 Q (F0 m 772 ls []) := by
  unfold mm_L_17 at h
  refine lv_aload_n C.1.1 C.1.2.1 dL_law_772 rfl (lv_at hl 1 rfl) ?_
  refine lv_aload_n C.1.1 C.1.2.1 dL_law_773 rfl (lv_at hl 0 rfl) ?_
  refine lv_iload C.1.1 C.1.2.1 dL_law_774 (lv_at hl 4 rfl) ?_
  refine lv_iconst (v := 1) C.1.1 C.1.2.1 dL_law_776 (by decide) ?_
  refine lv_iadd C.1.1 C.1.2.1 dL_law_777 ?_
  refine yl_scr (k := 1) C Z hX hbl hL (nI_add (6 * j) 1) (by omega) dL_law_778 ?_
  refine lv_aload_n C.1.1 C.1.2.1 dL_law_779 rfl (lv_at hl 0 rfl) ?_
  refine lv_iload C.1.1 C.1.2.1 dL_law_780 (lv_at hl 4 rfl) ?_
  refine lv_iconst (v := 2) C.1.1 C.1.2.1 dL_law_782 (by decide) ?_
  refine lv_iadd C.1.1 C.1.2.1 dL_law_783 ?_
  refine yl_scr (k := 2) C Z hX hbl hL (nI_add (6 * j) 2) (by omega) dL_law_784 ?_
  refine lv_aload_n C.1.1 C.1.2.1 dL_law_785 rfl (lv_at hl 0 rfl) ?_
  refine lv_iload C.1.1 C.1.2.1 dL_law_786 (lv_at hl 4 rfl) ?_
  refine lv_iconst (v := 3) C.1.1 C.1.2.1 dL_law_788 (by decide) ?_
  refine lv_iadd C.1.1 C.1.2.1 dL_law_789 ?_
  refine yl_scr (k := 3) C Z hX hbl hL (nI_add (6 * j) 3) (by omega) dL_law_790 ?_
  refine lv_aload_n C.1.1 C.1.2.1 dL_law_791 rfl (lv_at hl 0 rfl) ?_
  refine lv_iload C.1.1 C.1.2.1 dL_law_792 (lv_at hl 4 rfl) ?_
  refine lv_iconst (v := 4) C.1.1 C.1.2.1 dL_law_794 (by decide) ?_
  refine lv_iadd C.1.1 C.1.2.1 dL_law_795 ?_
  refine yl_scr (k := 4) C Z hX hbl hL (nI_add (6 * j) 4) (by omega) dL_law_796 ?_
  refine yy_cVi0 (As := [.int (xs (6 * j + 1)), .int (xs (6 * j + 2)), .int (xs (6 * j + 3)), .int (xs (6 * j + 4))]) (rest := []) (id := 0) (ci := 9) (q := (RX9, TX9, 11)) C Z (ss_X9_move l D κ _ (xs (6 * j + 1)) (xs (6 * j + 2)) (xs (6 * j + 3)) (xs (6 * j + 4))) (by decide) (yy_ent_0 _) rfl tw_672 kw_X9_move ⟨⟨rfl, rfl⟩, ⟨Nat.le_of_ble_eq_true rfl, Nat.le_of_ble_eq_true rfl⟩, (show c0 + 0 ≤ 601024 by omega), (show s0 + 0 ≤ 7293034 by omega)⟩ hl.1 rfl (Nat.le_of_ble_eq_true rfl) dL_law_797 h (fun r1 τ H locs Z h => ?_)
  refine lv_aload_n C.1.1 C.1.2.1 dL_law_800 rfl (lv_at hl 2 rfl) ?_
  refine lv_aload_n C.1.1 C.1.2.1 dL_law_801 rfl (lv_at hl 0 rfl) ?_
  refine lv_iload C.1.1 C.1.2.1 dL_law_802 (lv_at hl 4 rfl) ?_
  refine lv_iconst (v := 1) C.1.1 C.1.2.1 dL_law_804 (by decide) ?_
  refine lv_iadd C.1.1 C.1.2.1 dL_law_805 ?_
  refine yl_scr (k := 1) C Z hX hbl hL (nI_add (6 * j) 1) (by omega) dL_law_806 ?_
  refine lv_aload_n C.1.1 C.1.2.1 dL_law_807 rfl (lv_at hl 0 rfl) ?_
  refine lv_iload C.1.1 C.1.2.1 dL_law_808 (lv_at hl 4 rfl) ?_
  refine lv_iconst (v := 2) C.1.1 C.1.2.1 dL_law_810 (by decide) ?_
  refine lv_iadd C.1.1 C.1.2.1 dL_law_811 ?_
  refine yl_scr (k := 2) C Z hX hbl hL (nI_add (6 * j) 2) (by omega) dL_law_812 ?_
  refine lv_aload_n C.1.1 C.1.2.1 dL_law_813 rfl (lv_at hl 0 rfl) ?_
  refine lv_iload C.1.1 C.1.2.1 dL_law_814 (lv_at hl 4 rfl) ?_
  refine lv_iconst (v := 3) C.1.1 C.1.2.1 dL_law_816 (by decide) ?_
  refine lv_iadd C.1.1 C.1.2.1 dL_law_817 ?_
  refine yl_scr (k := 3) C Z hX hbl hL (nI_add (6 * j) 3) (by omega) dL_law_818 ?_
  refine lv_aload_n C.1.1 C.1.2.1 dL_law_819 rfl (lv_at hl 0 rfl) ?_
  refine lv_iload C.1.1 C.1.2.1 dL_law_820 (lv_at hl 4 rfl) ?_
  refine lv_iconst (v := 4) C.1.1 C.1.2.1 dL_law_822 (by decide) ?_
  refine lv_iadd C.1.1 C.1.2.1 dL_law_823 ?_
  refine yl_scr (k := 4) C Z hX hbl hL (nI_add (6 * j) 4) (by omega) dL_law_824 ?_
  refine yy_cVi (As := [.int (xs (6 * j + 1)), .int (xs (6 * j + 2)), .int (xs (6 * j + 3)), .int (xs (6 * j + 4))]) (rest := [.int r1]) (id := 112) (ci := 10) (q := (RX10, TX10, 20)) C Z (ss_X10_move l D κ _ (xs (6 * j + 1)) (xs (6 * j + 2)) (xs (6 * j + 3)) (xs (6 * j + 4))) (by decide) (yy_ent_112 _) rfl tw_1036 kw_X10_move ⟨⟨rfl, rfl⟩, ⟨Nat.le_of_ble_eq_true rfl, Nat.le_of_ble_eq_true rfl⟩, (show c0 + 1 ≤ 601024 by omega), (show s0 + 126 ≤ 7293034 by omega)⟩ hl.1 rfl (Nat.le_of_ble_eq_true rfl) dL_law_825 h (fun r2 τ H locs Z h => ?_)
  refine yy_icmp_eq (tgt := 859) C dL_law_828 (by decide) h (fun h => ?_) (fun h => by unfold yl_no at h; cases h)
  refine W.widen (k := c0 + 120) (n := s0 + 1680) (by omega) (by omega) ?_
  exact kE _ _ _ _ _ (yy_rt_of h) Z hl
noncomputable def mm_L_18 : yy_M Unit :=
  yy_cl (mm_X9_take ) (fun r1 => yy_cl (mm_X10_take ) (fun r2 => yy_br (r1 = r2) (yy_rt ()) yl_no))
set_option maxHeartbeats 4000000 in
set_option maxRecDepth 100000 in
theorem wl_18 (hX : va_X b L xs s s.heap) (hbl : b < s.heap.size) (hL : L ≤ 3072) (hj : 6 * j + 6 ≤ L) (hc0 : c0 + 120 ≤ 601024) (hs0 : s0 + 1680 ≤ 7293034) {res : Unit × yy_T} (C : yy_C D κ p m c cL_law 7 s args RL) (Z : yy_Z D κ [yl_o κ qo u] (fun q : Nat => s.heap.size ≤ q) s.heap τ H locs) (hl : lv_has ls 7 [(0, .ref b), (1, .ref (κ 4 + 0)), (2, .ref (κ 4 + 112)), (3, .ref qo), (4, .int (nI (6 * j)))]) (h : mm_L_18 τ = some res) (kE : ∀ (u : Nat → Int64) (τ1 : yy_T) (H1 : Heap) (locs1 : List Loc) (ls1 : Array Slot), res = ((), τ1) → yy_Z D κ [yl_o κ qo u] (fun q : Nat => s.heap.size ≤ q) s.heap τ1 H1 locs1 → lv_has ls1 7 [(0, .ref b), (1, .ref (κ 4 + 0)), (2, .ref (κ 4 + 112)), (3, .ref qo), (4, .int (nI (6 * j)))] → W p l e room_1 s m args below meth c H1 locs1 (c0 + 120) (s0 + 1680) Q (F0 m 859 ls1 [])) : W p l e room_1 s m args below meth c H locs c0 s0 Q (F0 m 833 ls []) := by
  unfold mm_L_18 at h
  refine lv_aload_n C.1.1 C.1.2.1 dL_law_833 rfl (lv_at hl 1 rfl) ?_
  refine yy_cVi0 (As := []) (rest := []) (id := 0) (ci := 9) (q := (RX9, TX9, 11)) C Z (ss_X9_take l D κ _ ) (by decide) (yy_ent_0 _) rfl tw_683 kw_X9_take ⟨⟨rfl, rfl⟩, ⟨Nat.le_of_ble_eq_true rfl, Nat.le_of_ble_eq_true rfl⟩, (show c0 + 0 ≤ 601024 by omega), (show s0 + 0 ≤ 7293034 by omega)⟩ hl.1 rfl (Nat.le_of_ble_eq_true rfl) dL_law_834 h (fun r1 τ H locs Z h => ?_)
  refine lv_aload_n C.1.1 C.1.2.1 dL_law_837 rfl (lv_at hl 2 rfl) ?_
  refine yy_cVi0 (As := []) (rest := [.int r1]) (id := 112) (ci := 10) (q := (RX10, TX10, 20)) C Z (ss_X10_take l D κ _ ) (by decide) (yy_ent_112 _) rfl tw_1040 kw_X10_take ⟨⟨rfl, rfl⟩, ⟨Nat.le_of_ble_eq_true rfl, Nat.le_of_ble_eq_true rfl⟩, (show c0 + 0 ≤ 601024 by omega), (show s0 + 0 ≤ 7293034 by omega)⟩ hl.1 rfl (Nat.le_of_ble_eq_true rfl) dL_law_838 h (fun r2 τ H locs Z h => ?_)
  refine yy_icmp_eq (tgt := 859) C dL_law_841 (by decide) h (fun h => ?_) (fun h => by unfold yl_no at h; cases h)
  refine W.widen (k := c0 + 120) (n := s0 + 1680) (by omega) (by omega) ?_
  exact kE _ _ _ _ _ (yy_rt_of h) Z hl
noncomputable def mm_L_19 : yy_M Unit :=
  yy_cl (mm_X9_undo ) (fun r1 => yy_cl (mm_X10_undo ) (fun r2 => yy_br (r1 = r2) (yy_rt ()) yl_no))
set_option maxHeartbeats 4000000 in
set_option maxRecDepth 100000 in
theorem wl_19 (hX : va_X b L xs s s.heap) (hbl : b < s.heap.size) (hL : L ≤ 3072) (hj : 6 * j + 6 ≤ L) (hc0 : c0 + 120 ≤ 601024) (hs0 : s0 + 1680 ≤ 7293034) {res : Unit × yy_T} (C : yy_C D κ p m c cL_law 7 s args RL) (Z : yy_Z D κ [yl_o κ qo u] (fun q : Nat => s.heap.size ≤ q) s.heap τ H locs) (hl : lv_has ls 7 [(0, .ref b), (1, .ref (κ 4 + 0)), (2, .ref (κ 4 + 112)), (3, .ref qo), (4, .int (nI (6 * j)))]) (h : mm_L_19 τ = some res) (kE : ∀ (u : Nat → Int64) (τ1 : yy_T) (H1 : Heap) (locs1 : List Loc) (ls1 : Array Slot), res = ((), τ1) → yy_Z D κ [yl_o κ qo u] (fun q : Nat => s.heap.size ≤ q) s.heap τ1 H1 locs1 → lv_has ls1 7 [(0, .ref b), (1, .ref (κ 4 + 0)), (2, .ref (κ 4 + 112)), (3, .ref qo), (4, .int (nI (6 * j)))] → W p l e room_1 s m args below meth c H1 locs1 (c0 + 120) (s0 + 1680) Q (F0 m 859 ls1 [])) : W p l e room_1 s m args below meth c H locs c0 s0 Q (F0 m 846 ls []) := by
  unfold mm_L_19 at h
  refine lv_aload_n C.1.1 C.1.2.1 dL_law_846 rfl (lv_at hl 1 rfl) ?_
  refine yy_cVi0 (As := []) (rest := []) (id := 0) (ci := 9) (q := (RX9, TX9, 11)) C Z (ss_X9_undo l D κ _ ) (by decide) (yy_ent_0 _) rfl tw_687 kw_X9_undo ⟨⟨rfl, rfl⟩, ⟨Nat.le_of_ble_eq_true rfl, Nat.le_of_ble_eq_true rfl⟩, (show c0 + 0 ≤ 601024 by omega), (show s0 + 0 ≤ 7293034 by omega)⟩ hl.1 rfl (Nat.le_of_ble_eq_true rfl) dL_law_847 h (fun r1 τ H locs Z h => ?_)
  refine lv_aload_n C.1.1 C.1.2.1 dL_law_850 rfl (lv_at hl 2 rfl) ?_
  refine yy_cVi0 (As := []) (rest := [.int r1]) (id := 112) (ci := 10) (q := (RX10, TX10, 20)) C Z (ss_X10_undo l D κ _ ) (by decide) (yy_ent_112 _) rfl tw_1044 kw_X10_undo ⟨⟨rfl, rfl⟩, ⟨Nat.le_of_ble_eq_true rfl, Nat.le_of_ble_eq_true rfl⟩, (show c0 + 0 ≤ 601024 by omega), (show s0 + 0 ≤ 7293034 by omega)⟩ hl.1 rfl (Nat.le_of_ble_eq_true rfl) dL_law_851 h (fun r2 τ H locs Z h => ?_)
  refine yy_icmp_eq (tgt := 859) C dL_law_854 (by decide) h (fun h => ?_) (fun h => by unfold yl_no at h; cases h)
  refine W.widen (k := c0 + 120) (n := s0 + 1680) (by omega) (by omega) ?_
  exact kE _ _ _ _ _ (yy_rt_of h) Z hl
end
