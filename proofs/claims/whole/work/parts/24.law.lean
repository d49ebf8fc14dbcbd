def lw_S0 {α : Type} (Inv : Nat → cc_S → rr_S → Prop) (C : cc_S → Option (α × cc_S)) (R : rr_S → Option (α × rr_S)) : Prop := ∀ (j : Nat) (q : cc_S) (r : rr_S), j < 512 → Inv j q r → ∃ v q1 r1, C q = some (v, q1) ∧ R r = some (v, r1) ∧ Inv (j + 1) q1 r1
def lw_S1 {α : Type} (Inv : Nat → cc_S → rr_S → Prop) (C : cc_S → Int32 → Option (α × cc_S)) (R : rr_S → Int32 → Option (α × rr_S)) : Prop := ∀ (j : Nat) (q : cc_S) (r : rr_S) (v1 : Int32), j < 512 → Inv j q r → ∃ v q1 r1, C q v1 = some (v, q1) ∧ R r v1 = some (v, r1) ∧ Inv (j + 1) q1 r1
def lw_S2 {α : Type} (Inv : Nat → cc_S → rr_S → Prop) (C : cc_S → Int32 → Int32 → Option (α × cc_S)) (R : rr_S → Int32 → Int32 → Option (α × rr_S)) : Prop := ∀ (j : Nat) (q : cc_S) (r : rr_S) (v1 v2 : Int32), j < 512 → Inv j q r → ∃ v q1 r1, C q v1 v2 = some (v, q1) ∧ R r v1 v2 = some (v, r1) ∧ Inv (j + 1) q1 r1
def lw_S3 {α : Type} (Inv : Nat → cc_S → rr_S → Prop) (C : cc_S → Int32 → Int32 → Int32 → Option (α × cc_S)) (R : rr_S → Int32 → Int32 → Int32 → Option (α × rr_S)) : Prop := ∀ (j : Nat) (q : cc_S) (r : rr_S) (v1 v2 v3 : Int32), j < 512 → Inv j q r → ∃ v q1 r1, C q v1 v2 v3 = some (v, q1) ∧ R r v1 v2 v3 = some (v, r1) ∧ Inv (j + 1) q1 r1
def lw_S4 {α : Type} (Inv : Nat → cc_S → rr_S → Prop) (C : cc_S → Int32 → Int32 → Int32 → Int32 → Option (α × cc_S)) (R : rr_S → Int32 → Int32 → Int32 → Int32 → Option (α × rr_S)) : Prop := ∀ (j : Nat) (q : cc_S) (r : rr_S) (v1 v2 v3 v4 : Int32), j < 512 → Inv j q r → ∃ v q1 r1, C q v1 v2 v3 v4 = some (v, q1) ∧ R r v1 v2 v3 v4 = some (v, r1) ∧ Inv (j + 1) q1 r1
def lw_S6 {α : Type} (Inv : Nat → cc_S → rr_S → Prop) (C : cc_S → Int32 → Int32 → Int32 → Int32 → Int32 → Int32 → Option (α × cc_S)) (R : rr_S → Int32 → Int32 → Int32 → Int32 → Int32 → Int32 → Option (α × rr_S)) : Prop := ∀ (j : Nat) (q : cc_S) (r : rr_S) (v1 v2 v3 v4 v5 v6 : Int32), j < 512 → Inv j q r → ∃ v q1 r1, C q v1 v2 v3 v4 v5 v6 = some (v, q1) ∧ R r v1 v2 v3 v4 v5 v6 = some (v, r1) ∧ Inv (j + 1) q1 r1
def lw_Sc (Inv : Nat → cc_S → rr_S → Prop) : Prop := ∀ (j : Nat) (q : cc_S) (r : rr_S) (v1 : Int32), j < 512 → Inv j q r → ∃ v, C_count q v1 = some v ∧ R_count r v1 = some v ∧ Inv (j + 1) q r
abbrev lw_ls (g : cc_G) (ad : Nat → Nat) (b j : Nat) : List (Nat × Value) := [(3, .int (nI (7 * j))), (2, .ref (ad 28)), (1, .ref (cc_ad g 0)), (0, .ref b)]
abbrev lw_A (s : State) : Nat → Prop := fun x => s.heap.size ≤ x
def lw_Ctx (p : Program) (s : State) (m : MethodId) (c : Code) (b L : Nat) (xs : Nat → Int32) (g : cc_G) : Prop := CallFix p m c cL_law 4 s #[Value.ref b] lw_tbl RL ∧ cc_K g (lw_A s) s s.heap ∧ va_X b L xs s s.heap ∧ b < s.heap.size ∧ L ≤ 3584
def lw_x (xs : Nat → Int32) (j k : Nat) : Int32 := xs (nI (7 * j) + nI k).toNatClampNeg
theorem lw_inn {j k L : Nat} (hj : 7 * j + 7 ≤ L) (hL : L ≤ 3584) (hk : k ≤ 6) : vp_in (nI (7 * j) + nI k) L := by
  rw [nI_add]; exact vp_in_nI (by omega) (by omega)
theorem lw_room {j : Nat} (h : j < 512) : 56 + 200 * j ≤ room_1.cells ∧ 952 + 800 * j ≤ room_1.slots := ⟨by show 56 + 200 * j ≤ 600000; omega, by show 952 + 800 * j ≤ 7302250; omega⟩
theorem lw_room2 {j : Nat} (h : j < 512) : 56 + 200 * j + 200 ≤ room_1.cells ∧ 952 + 800 * j + 800 ≤ room_1.slots := ⟨by show 56 + 200 * j + 200 ≤ 600000; omega, by show 952 + 800 * j + 800 ≤ 7302250; omega⟩
section LWC
variable {p : Program} {l : Launch} {e : Env} {s : State} {m : MethodId} {below : List Frame} {meth : Method} {c : Code} {H : Heap} {locs : List Loc} {cells slots : Nat} {Q : State → Prop}
variable {pc b L j : Nat} {xs : Nat → Int32} {ls : Array Slot} {rest : List Value} {g : cc_G} {ad : Nat → Nat} {pls : va_W} {q : cc_S} {r : rr_S} {Inv : Nat → cc_S → rr_S → Prop}
theorem lw_arg (X : lw_Ctx p s m c b L xs g) (hl : lv_has ls 4 (lw_ls g ad b j)) (hS : va_S (lw_A s) s.heap H locs) (hj : 7 * j + 7 ≤ L) {kn : Nat} {k : Int} {v : Int32} (hk : kn ≤ 6) (d1 : decode cL_law pc = .ok (.aload_n 0, 1)) (d2 : decode cL_law (pc + 1) = .ok (.iload_n 3, 1)) (d3 : decode cL_law (pc + 1 + 1) = .ok (.iconst k, 1)) (hc : Int32.ofInt k = v) (d4 : decode cL_law (pc + 1 + 1 + 1) = .ok (.iadd, 1)) (d5 : decode cL_law (pc + 1 + 1 + 1 + 1) = .ok (.iaload, 1)) (hv : nI kn = v)
    (kk : W p l e room_1 s m #[Value.ref b] below meth c H locs cells slots Q (F0 m (pc + 1 + 1 + 1 + 1 + 1) ls (.int (lw_x xs j kn) :: rest))) : W p l e room_1 s m #[Value.ref b] below meth c H locs cells slots Q (F0 m pc ls rest) := by
  subst hv
  refine lv_aload_n X.1.1 X.1.2.1 d1 rfl (lv_at hl 3 rfl) ?_
  refine lv_iload_n X.1.1 X.1.2.1 d2 rfl (lv_at hl 0 rfl) ?_
  refine lv_iconst X.1.1 X.1.2.1 d3 hc ?_
  refine lv_iadd X.1.1 X.1.2.1 d4 ?_
  exact va_sld X.1.1 X.1.2.1 X.2.2.1 X.2.2.2.1 (Nat.not_le.mpr X.2.2.2.1) hS (lw_inn hj X.2.2.2.2 hk) d5 kk
theorem lw_arg6 (X : lw_Ctx p s m c b L xs g) (hl : lv_has ls 4 (lw_ls g ad b j)) (hS : va_S (lw_A s) s.heap H locs) (hj : 7 * j + 7 ≤ L) {kn : Nat} {k : Int} {v : Int32} (hk : kn ≤ 6) (d1 : decode cL_law pc = .ok (.aload_n 0, 1)) (d2 : decode cL_law (pc + 1) = .ok (.iload_n 3, 1)) (d3 : decode cL_law (pc + 1 + 1) = .ok (.bipush k, 2)) (hc : (Int8.ofInt k).toInt32 = v) (d4 : decode cL_law (pc + 1 + 1 + 2) = .ok (.iadd, 1)) (d5 : decode cL_law (pc + 1 + 1 + 2 + 1) = .ok (.iaload, 1)) (hv : nI kn = v)
    (kk : W p l e room_1 s m #[Value.ref b] below meth c H locs cells slots Q (F0 m (pc + 1 + 1 + 2 + 1 + 1) ls (.int (lw_x xs j kn) :: rest))) : W p l e room_1 s m #[Value.ref b] below meth c H locs cells slots Q (F0 m pc ls rest) := by
  subst hv
  refine lv_aload_n X.1.1 X.1.2.1 d1 rfl (lv_at hl 3 rfl) ?_
  refine lv_iload_n X.1.1 X.1.2.1 d2 rfl (lv_at hl 0 rfl) ?_
  refine lv_bipush X.1.1 X.1.2.1 d3 hc ?_
  refine lv_iadd X.1.1 X.1.2.1 d4 ?_
  exact va_sld X.1.1 X.1.2.1 X.2.2.1 X.2.2.2.1 (Nat.not_le.mpr X.2.2.2.1) hS (lw_inn hj X.2.2.2.2 hk) d5 kk
theorem lw_c_letter (X : lw_Ctx p s m c b L xs g) (hl : lv_has ls 4 (lw_ls g ad b j)) (hj : 7 * j + 7 ≤ L) (hS : lw_S1 Inv C_letter R_letter) (hI : Inv j q r) (G : lw_H g ad (lw_A s) pls q r s H locs) (kk : ∀ (pls1 : va_W) (q1 : cc_S) (r1 : rr_S) (H1 : Heap) (locs1 : List Loc), Inv (j + 1) q1 r1 → lw_H g ad (lw_A s) pls1 q1 r1 s H1 locs1 → W p l e room_1 s m #[Value.ref b] below meth c H1 locs1 (56 + 200 * j + 200) (952 + 800 * j + 800) Q (F0 m 833 ls [])) : W p l e room_1 s m #[Value.ref b] below meth c H locs (56 + 200 * j) (952 + 800 * j) Q (F0 m 140 ls []) := by
  have hjj : j < 512 := by have := X.2.2.2.2; omega
  obtain ⟨v, q1, r1, hC, hR, hI1⟩ := hS j q r (lw_x xs j 1) hjj hI
  refine lv_aload_n X.1.1 X.1.2.1 dL_law_140 rfl (lv_at hl 2 rfl) ?_
  refine lw_arg (kn := 1) (v := 1) X hl G.2.2.2 hj (by decide) dL_law_141 dL_law_142 dL_law_143 (by decide) dL_law_144 dL_law_145 (by decide) ?_
  refine lw_cx (fun _ h => h) X.1 X.2.1 G (ctX10_letter l g pls q _ hC) (cwV 1 X.1.2.2.2.2 gl_X10_letter rfl rfl rfl (by decide +kernel) ⟨Nat.le_of_ble_eq_true rfl, Nat.le_of_ble_eq_true rfl⟩) (rest := []) rfl hl.1 rfl (Nat.le_of_ble_eq_true rfl) dL_law_146 (lw_room hjj) (fun H locs G => ?_)
  refine lv_aload_n X.1.1 X.1.2.1 dL_law_149 rfl (lv_at hl 1 rfl) ?_
  refine lw_arg (kn := 1) (v := 1) X hl G.2.2.2 hj (by decide) dL_law_150 dL_law_151 dL_law_152 (by decide) dL_law_153 dL_law_154 (by decide) ?_
  refine lw_cm (fun _ h => h) X.1 X.2.1 G (ctX11_letter l (lw_G g ad) r _ hR) (cwV 1 X.1.2.2.2.2 gl_X11_letter rfl rfl rfl (by decide +kernel) ⟨Nat.le_of_ble_eq_true rfl, Nat.le_of_ble_eq_true rfl⟩) (rest := [.int v]) rfl hl.1 rfl (Nat.le_of_ble_eq_true rfl) dL_law_155 (lw_room hjj) (fun H locs G => ?_)
  exact lv_icmp_eq X.1.1 X.1.2.1 dL_law_158 (tgt := 833) (by decide) (fun _ => W.widen (Nat.le_add_right _ _) (Nat.le_add_right _ _) (kk pls q1 r1 H locs hI1 G)) (fun h => absurd rfl h)
theorem lw_c_hall (X : lw_Ctx p s m c b L xs g) (hl : lv_has ls 4 (lw_ls g ad b j)) (hj : 7 * j + 7 ≤ L) (hS : lw_S0 Inv C_hall R_hall) (hI : Inv j q r) (G : lw_H g ad (lw_A s) pls q r s H locs) (kk : ∀ (pls1 : va_W) (q1 : cc_S) (r1 : rr_S) (H1 : Heap) (locs1 : List Loc), Inv (j + 1) q1 r1 → lw_H g ad (lw_A s) pls1 q1 r1 s H1 locs1 → W p l e room_1 s m #[Value.ref b] below meth c H1 locs1 (56 + 200 * j + 200) (952 + 800 * j + 800) Q (F0 m 833 ls [])) : W p l e room_1 s m #[Value.ref b] below meth c H locs (56 + 200 * j) (952 + 800 * j) Q (F0 m 163 ls []) := by
  have hjj : j < 512 := by have := X.2.2.2.2; omega
  obtain ⟨v, q1, r1, hC, hR, hI1⟩ := hS j q r hjj hI
  refine lv_aload_n X.1.1 X.1.2.1 dL_law_163 rfl (lv_at hl 2 rfl) ?_
  refine lw_cxN (fun _ h => h) X.1 X.2.1 G (ctX10_hall l g pls q hC) (cwV 0 X.1.2.2.2.2 gl_X10_hall rfl rfl rfl (by decide +kernel) ⟨Nat.le_of_ble_eq_true rfl, Nat.le_of_ble_eq_true rfl⟩) (rest := []) rfl hl.1 rfl (Nat.le_of_ble_eq_true rfl) dL_law_164 (lw_room2 hjj) (fun pls H locs G => ?_)
  refine lv_aload_n X.1.1 X.1.2.1 dL_law_167 rfl (lv_at hl 1 rfl) ?_
  refine lw_cm (fun _ h => h) X.1 X.2.1 G (ctX11_hall l (lw_G g ad) r hR) (cwV 0 X.1.2.2.2.2 gl_X11_hall rfl rfl rfl (by decide +kernel) ⟨Nat.le_of_ble_eq_true rfl, Nat.le_of_ble_eq_true rfl⟩) (rest := [.int v]) rfl hl.1 rfl (Nat.le_of_ble_eq_true rfl) dL_law_168 (lw_room2 hjj) (fun H locs G => ?_)
  exact lv_icmp_eq X.1.1 X.1.2.1 dL_law_171 (tgt := 833) (by decide) (fun _ => kk pls q1 r1 H locs hI1 G) (fun h => absurd rfl h)
theorem lw_c_player (X : lw_Ctx p s m c b L xs g) (hl : lv_has ls 4 (lw_ls g ad b j)) (hj : 7 * j + 7 ≤ L) (hS : lw_S2 Inv C_player R_player) (hI : Inv j q r) (G : lw_H g ad (lw_A s) pls q r s H locs) (kk : ∀ (pls1 : va_W) (q1 : cc_S) (r1 : rr_S) (H1 : Heap) (locs1 : List Loc), Inv (j + 1) q1 r1 → lw_H g ad (lw_A s) pls1 q1 r1 s H1 locs1 → W p l e room_1 s m #[Value.ref b] below meth c H1 locs1 (56 + 200 * j + 200) (952 + 800 * j + 800) Q (F0 m 833 ls [])) : W p l e room_1 s m #[Value.ref b] below meth c H locs (56 + 200 * j) (952 + 800 * j) Q (F0 m 176 ls []) := by
  have hjj : j < 512 := by have := X.2.2.2.2; omega
  obtain ⟨v, q1, r1, hC, hR, hI1⟩ := hS j q r (lw_x xs j 1) (lw_x xs j 2) hjj hI
  refine lv_aload_n X.1.1 X.1.2.1 dL_law_176 rfl (lv_at hl 2 rfl) ?_
  refine lw_arg (kn := 1) (v := 1) X hl G.2.2.2 hj (by decide) dL_law_177 dL_law_178 dL_law_179 (by decide) dL_law_180 dL_law_181 (by decide) ?_
  refine lw_arg (kn := 2) (v := 2) X hl G.2.2.2 hj (by decide) dL_law_182 dL_law_183 dL_law_184 (by decide) dL_law_185 dL_law_186 (by decide) ?_
  refine lw_cx (fun _ h => h) X.1 X.2.1 G (ctX10_player l g pls q _ _ hC) (cwV 2 X.1.2.2.2.2 gl_X10_player rfl rfl rfl (by decide +kernel) ⟨Nat.le_of_ble_eq_true rfl, Nat.le_of_ble_eq_true rfl⟩) (rest := []) rfl hl.1 rfl (Nat.le_of_ble_eq_true rfl) dL_law_187 (lw_room hjj) (fun H locs G => ?_)
  refine lv_aload_n X.1.1 X.1.2.1 dL_law_190 rfl (lv_at hl 1 rfl) ?_
  refine lw_arg (kn := 1) (v := 1) X hl G.2.2.2 hj (by decide) dL_law_191 dL_law_192 dL_law_193 (by decide) dL_law_194 dL_law_195 (by decide) ?_
  refine lw_arg (kn := 2) (v := 2) X hl G.2.2.2 hj (by decide) dL_law_196 dL_law_197 dL_law_198 (by decide) dL_law_199 dL_law_200 (by decide) ?_
  refine lw_cm (fun _ h => h) X.1 X.2.1 G (ctX11_player l (lw_G g ad) r _ _ hR) (cwV 2 X.1.2.2.2.2 gl_X11_player rfl rfl rfl (by decide +kernel) ⟨Nat.le_of_ble_eq_true rfl, Nat.le_of_ble_eq_true rfl⟩) (rest := [.int v]) rfl hl.1 rfl (Nat.le_of_ble_eq_true rfl) dL_law_201 (lw_room hjj) (fun H locs G => ?_)
  exact lv_icmp_eq X.1.1 X.1.2.1 dL_law_204 (tgt := 833) (by decide) (fun _ => W.widen (Nat.le_add_right _ _) (Nat.le_add_right _ _) (kk pls q1 r1 H locs hI1 G)) (fun h => absurd rfl h)
theorem lw_c_ball (X : lw_Ctx p s m c b L xs g) (hl : lv_has ls 4 (lw_ls g ad b j)) (hj : 7 * j + 7 ≤ L) (hS : lw_S2 Inv C_ball R_ball) (hI : Inv j q r) (G : lw_H g ad (lw_A s) pls q r s H locs) (kk : ∀ (pls1 : va_W) (q1 : cc_S) (r1 : rr_S) (H1 : Heap) (locs1 : List Loc), Inv (j + 1) q1 r1 → lw_H g ad (lw_A s) pls1 q1 r1 s H1 locs1 → W p l e room_1 s m #[Value.ref b] below meth c H1 locs1 (56 + 200 * j + 200) (952 + 800 * j + 800) Q (F0 m 833 ls [])) : W p l e room_1 s m #[Value.ref b] below meth c H locs (56 + 200 * j) (952 + 800 * j) Q (F0 m 209 ls []) := by
  have hjj : j < 512 := by have := X.2.2.2.2; omega
  obtain ⟨v, q1, r1, hC, hR, hI1⟩ := hS j q r (lw_x xs j 1) (lw_x xs j 2) hjj hI
  refine lv_aload_n X.1.1 X.1.2.1 dL_law_209 rfl (lv_at hl 2 rfl) ?_
  refine lw_arg (kn := 1) (v := 1) X hl G.2.2.2 hj (by decide) dL_law_210 dL_law_211 dL_law_212 (by decide) dL_law_213 dL_law_214 (by decide) ?_
  refine lw_arg (kn := 2) (v := 2) X hl G.2.2.2 hj (by decide) dL_law_215 dL_law_216 dL_law_217 (by decide) dL_law_218 dL_law_219 (by decide) ?_
  refine lw_cx (fun _ h => h) X.1 X.2.1 G (ctX10_ball l g pls q _ _ hC) (cwV 2 X.1.2.2.2.2 gl_X10_ball rfl rfl rfl (by decide +kernel) ⟨Nat.le_of_ble_eq_true rfl, Nat.le_of_ble_eq_true rfl⟩) (rest := []) rfl hl.1 rfl (Nat.le_of_ble_eq_true rfl) dL_law_220 (lw_room hjj) (fun H locs G => ?_)
  refine lv_aload_n X.1.1 X.1.2.1 dL_law_223 rfl (lv_at hl 1 rfl) ?_
  refine lw_arg (kn := 1) (v := 1) X hl G.2.2.2 hj (by decide) dL_law_224 dL_law_225 dL_law_226 (by decide) dL_law_227 dL_law_228 (by decide) ?_
  refine lw_arg (kn := 2) (v := 2) X hl G.2.2.2 hj (by decide) dL_law_229 dL_law_230 dL_law_231 (by decide) dL_law_232 dL_law_233 (by decide) ?_
  refine lw_cm (fun _ h => h) X.1 X.2.1 G (ctX11_ball l (lw_G g ad) r _ _ hR) (cwV 2 X.1.2.2.2.2 gl_X11_ball rfl rfl rfl (by decide +kernel) ⟨Nat.le_of_ble_eq_true rfl, Nat.le_of_ble_eq_true rfl⟩) (rest := [.int v]) rfl hl.1 rfl (Nat.le_of_ble_eq_true rfl) dL_law_234 (lw_room hjj) (fun H locs G => ?_)
  exact lv_icmp_eq X.1.1 X.1.2.1 dL_law_237 (tgt := 833) (by decide) (fun _ => W.widen (Nat.le_add_right _ _) (Nat.le_add_right _ _) (kk pls q1 r1 H locs hI1 G)) (fun h => absurd rfl h)
theorem lw_c_odds (X : lw_Ctx p s m c b L xs g) (hl : lv_has ls 4 (lw_ls g ad b j)) (hj : 7 * j + 7 ≤ L) (hS : lw_S4 Inv C_odds R_odds) (hI : Inv j q r) (G : lw_H g ad (lw_A s) pls q r s H locs) (kk : ∀ (pls1 : va_W) (q1 : cc_S) (r1 : rr_S) (H1 : Heap) (locs1 : List Loc), Inv (j + 1) q1 r1 → lw_H g ad (lw_A s) pls1 q1 r1 s H1 locs1 → W p l e room_1 s m #[Value.ref b] below meth c H1 locs1 (56 + 200 * j + 200) (952 + 800 * j + 800) Q (F0 m 833 ls [])) : W p l e room_1 s m #[Value.ref b] below meth c H locs (56 + 200 * j) (952 + 800 * j) Q (F0 m 242 ls []) := by
  have hjj : j < 512 := by have := X.2.2.2.2; omega
  obtain ⟨v, q1, r1, hC, hR, hI1⟩ := hS j q r (lw_x xs j 1) (lw_x xs j 2) (lw_x xs j 3) (lw_x xs j 4) hjj hI
  refine lv_aload_n X.1.1 X.1.2.1 dL_law_242 rfl (lv_at hl 2 rfl) ?_
  refine lw_arg (kn := 1) (v := 1) X hl G.2.2.2 hj (by decide) dL_law_243 dL_law_244 dL_law_245 (by decide) dL_law_246 dL_law_247 (by decide) ?_
  refine lw_arg (kn := 2) (v := 2) X hl G.2.2.2 hj (by decide) dL_law_248 dL_law_249 dL_law_250 (by decide) dL_law_251 dL_law_252 (by decide) ?_
  refine lw_arg (kn := 3) (v := 3) X hl G.2.2.2 hj (by decide) dL_law_253 dL_law_254 dL_law_255 (by decide) dL_law_256 dL_law_257 (by decide) ?_
  refine lw_arg (kn := 4) (v := 4) X hl G.2.2.2 hj (by decide) dL_law_258 dL_law_259 dL_law_260 (by decide) dL_law_261 dL_law_262 (by decide) ?_
  refine lw_cx (fun _ h => h) X.1 X.2.1 G (ctX10_odds l g pls q _ _ _ _ hC) (cwV 4 X.1.2.2.2.2 gl_X10_odds rfl rfl rfl (by decide +kernel) ⟨Nat.le_of_ble_eq_true rfl, Nat.le_of_ble_eq_true rfl⟩) (rest := []) rfl hl.1 rfl (Nat.le_of_ble_eq_true rfl) dL_law_263 (lw_room hjj) (fun H locs G => ?_)
  refine lv_aload_n X.1.1 X.1.2.1 dL_law_266 rfl (lv_at hl 1 rfl) ?_
  refine lw_arg (kn := 1) (v := 1) X hl G.2.2.2 hj (by decide) dL_law_267 dL_law_268 dL_law_269 (by decide) dL_law_270 dL_law_271 (by decide) ?_
  refine lw_arg (kn := 2) (v := 2) X hl G.2.2.2 hj (by decide) dL_law_272 dL_law_273 dL_law_274 (by decide) dL_law_275 dL_law_276 (by decide) ?_
  refine lw_arg (kn := 3) (v := 3) X hl G.2.2.2 hj (by decide) dL_law_277 dL_law_278 dL_law_279 (by decide) dL_law_280 dL_law_281 (by decide) ?_
  refine lw_arg (kn := 4) (v := 4) X hl G.2.2.2 hj (by decide) dL_law_282 dL_law_283 dL_law_284 (by decide) dL_law_285 dL_law_286 (by decide) ?_
  refine lw_cm (fun _ h => h) X.1 X.2.1 G (ctX11_odds l (lw_G g ad) r _ _ _ _ hR) (cwV 4 X.1.2.2.2.2 gl_X11_odds rfl rfl rfl (by decide +kernel) ⟨Nat.le_of_ble_eq_true rfl, Nat.le_of_ble_eq_true rfl⟩) (rest := [.int v]) rfl hl.1 rfl (Nat.le_of_ble_eq_true rfl) dL_law_287 (lw_room hjj) (fun H locs G => ?_)
  exact lv_icmp_eq X.1.1 X.1.2.1 dL_law_290 (tgt := 833) (by decide) (fun _ => W.widen (Nat.le_add_right _ _) (Nat.le_add_right _ _) (kk pls q1 r1 H locs hI1 G)) (fun h => absurd rfl h)
theorem lw_c_throwIt (X : lw_Ctx p s m c b L xs g) (hl : lv_has ls 4 (lw_ls g ad b j)) (hj : 7 * j + 7 ≤ L) (hS : lw_S4 Inv C_throwIt R_throwIt) (hI : Inv j q r) (G : lw_H g ad (lw_A s) pls q r s H locs) (kk : ∀ (pls1 : va_W) (q1 : cc_S) (r1 : rr_S) (H1 : Heap) (locs1 : List Loc), Inv (j + 1) q1 r1 → lw_H g ad (lw_A s) pls1 q1 r1 s H1 locs1 → W p l e room_1 s m #[Value.ref b] below meth c H1 locs1 (56 + 200 * j + 200) (952 + 800 * j + 800) Q (F0 m 833 ls [])) : W p l e room_1 s m #[Value.ref b] below meth c H locs (56 + 200 * j) (952 + 800 * j) Q (F0 m 295 ls []) := by
  have hjj : j < 512 := by have := X.2.2.2.2; omega
  obtain ⟨v, q1, r1, hC, hR, hI1⟩ := hS j q r (lw_x xs j 1) (lw_x xs j 2) (lw_x xs j 3) (lw_x xs j 4) hjj hI
  refine lv_aload_n X.1.1 X.1.2.1 dL_law_295 rfl (lv_at hl 2 rfl) ?_
  refine lw_arg (kn := 1) (v := 1) X hl G.2.2.2 hj (by decide) dL_law_296 dL_law_297 dL_law_298 (by decide) dL_law_299 dL_law_300 (by decide) ?_
  refine lw_arg (kn := 2) (v := 2) X hl G.2.2.2 hj (by decide) dL_law_301 dL_law_302 dL_law_303 (by decide) dL_law_304 dL_law_305 (by decide) ?_
  refine lw_arg (kn := 3) (v := 3) X hl G.2.2.2 hj (by decide) dL_law_306 dL_law_307 dL_law_308 (by decide) dL_law_309 dL_law_310 (by decide) ?_
  refine lw_arg (kn := 4) (v := 4) X hl G.2.2.2 hj (by decide) dL_law_311 dL_law_312 dL_law_313 (by decide) dL_law_314 dL_law_315 (by decide) ?_
  refine lw_cx (fun _ h => h) X.1 X.2.1 G (ctX10_throwIt l g pls q _ _ _ _ hC) (cwV 4 X.1.2.2.2.2 gl_X10_throwIt rfl rfl rfl (by decide +kernel) ⟨Nat.le_of_ble_eq_true rfl, Nat.le_of_ble_eq_true rfl⟩) (rest := []) rfl hl.1 rfl (Nat.le_of_ble_eq_true rfl) dL_law_316 (lw_room hjj) (fun H locs G => ?_)
  refine lv_aload_n X.1.1 X.1.2.1 dL_law_319 rfl (lv_at hl 1 rfl) ?_
  refine lw_arg (kn := 1) (v := 1) X hl G.2.2.2 hj (by decide) dL_law_320 dL_law_321 dL_law_322 (by decide) dL_law_323 dL_law_324 (by decide) ?_
  refine lw_arg (kn := 2) (v := 2) X hl G.2.2.2 hj (by decide) dL_law_325 dL_law_326 dL_law_327 (by decide) dL_law_328 dL_law_329 (by decide) ?_
  refine lw_arg (kn := 3) (v := 3) X hl G.2.2.2 hj (by decide) dL_law_330 dL_law_331 dL_law_332 (by decide) dL_law_333 dL_law_334 (by decide) ?_
  refine lw_arg (kn := 4) (v := 4) X hl G.2.2.2 hj (by decide) dL_law_335 dL_law_336 dL_law_337 (by decide) dL_law_338 dL_law_339 (by decide) ?_
  refine lw_cm (fun _ h => h) X.1 X.2.1 G (ctX11_throwIt l (lw_G g ad) r _ _ _ _ hR) (cwV 4 X.1.2.2.2.2 gl_X11_throwIt rfl rfl rfl (by decide +kernel) ⟨Nat.le_of_ble_eq_true rfl, Nat.le_of_ble_eq_true rfl⟩) (rest := [.int v]) rfl hl.1 rfl (Nat.le_of_ble_eq_true rfl) dL_law_340 (lw_room hjj) (fun H locs G => ?_)
  exact lv_icmp_eq X.1.1 X.1.2.1 dL_law_343 (tgt := 833) (by decide) (fun _ => W.widen (Nat.le_add_right _ _) (Nat.le_add_right _ _) (kk pls q1 r1 H locs hI1 G)) (fun h => absurd rfl h)
theorem lw_c_take (X : lw_Ctx p s m c b L xs g) (hl : lv_has ls 4 (lw_ls g ad b j)) (hj : 7 * j + 7 ≤ L) (hS : lw_S2 Inv C_take R_take) (hI : Inv j q r) (G : lw_H g ad (lw_A s) pls q r s H locs) (kk : ∀ (pls1 : va_W) (q1 : cc_S) (r1 : rr_S) (H1 : Heap) (locs1 : List Loc), Inv (j + 1) q1 r1 → lw_H g ad (lw_A s) pls1 q1 r1 s H1 locs1 → W p l e room_1 s m #[Value.ref b] below meth c H1 locs1 (56 + 200 * j + 200) (952 + 800 * j + 800) Q (F0 m 833 ls [])) : W p l e room_1 s m #[Value.ref b] below meth c H locs (56 + 200 * j) (952 + 800 * j) Q (F0 m 348 ls []) := by
  have hjj : j < 512 := by have := X.2.2.2.2; omega
  obtain ⟨v, q1, r1, hC, hR, hI1⟩ := hS j q r (lw_x xs j 1) (lw_x xs j 2) hjj hI
  refine lv_aload_n X.1.1 X.1.2.1 dL_law_348 rfl (lv_at hl 2 rfl) ?_
  refine lw_arg (kn := 1) (v := 1) X hl G.2.2.2 hj (by decide) dL_law_349 dL_law_350 dL_law_351 (by decide) dL_law_352 dL_law_353 (by decide) ?_
  refine lw_arg (kn := 2) (v := 2) X hl G.2.2.2 hj (by decide) dL_law_354 dL_law_355 dL_law_356 (by decide) dL_law_357 dL_law_358 (by decide) ?_
  refine lw_cx (fun _ h => h) X.1 X.2.1 G (ctX10_take l g pls q _ _ hC) (cwV 2 X.1.2.2.2.2 gl_X10_take rfl rfl rfl (by decide +kernel) ⟨Nat.le_of_ble_eq_true rfl, Nat.le_of_ble_eq_true rfl⟩) (rest := []) rfl hl.1 rfl (Nat.le_of_ble_eq_true rfl) dL_law_359 (lw_room hjj) (fun H locs G => ?_)
  refine lv_aload_n X.1.1 X.1.2.1 dL_law_362 rfl (lv_at hl 1 rfl) ?_
  refine lw_arg (kn := 1) (v := 1) X hl G.2.2.2 hj (by decide) dL_law_363 dL_law_364 dL_law_365 (by decide) dL_law_366 dL_law_367 (by decide) ?_
  refine lw_arg (kn := 2) (v := 2) X hl G.2.2.2 hj (by decide) dL_law_368 dL_law_369 dL_law_370 (by decide) dL_law_371 dL_law_372 (by decide) ?_
  refine lw_cm (fun _ h => h) X.1 X.2.1 G (ctX11_take l (lw_G g ad) r _ _ hR) (cwV 2 X.1.2.2.2.2 gl_X11_take rfl rfl rfl (by decide +kernel) ⟨Nat.le_of_ble_eq_true rfl, Nat.le_of_ble_eq_true rfl⟩) (rest := [.int v]) rfl hl.1 rfl (Nat.le_of_ble_eq_true rfl) dL_law_373 (lw_room hjj) (fun H locs G => ?_)
  exact lv_icmp_eq X.1.1 X.1.2.1 dL_law_376 (tgt := 833) (by decide) (fun _ => W.widen (Nat.le_add_right _ _) (Nat.le_add_right _ _) (kk pls q1 r1 H locs hI1 G)) (fun h => absurd rfl h)
theorem lw_c_pass (X : lw_Ctx p s m c b L xs g) (hl : lv_has ls 4 (lw_ls g ad b j)) (hj : 7 * j + 7 ≤ L) (hS : lw_S1 Inv C_pass R_pass) (hI : Inv j q r) (G : lw_H g ad (lw_A s) pls q r s H locs) (kk : ∀ (pls1 : va_W) (q1 : cc_S) (r1 : rr_S) (H1 : Heap) (locs1 : List Loc), Inv (j + 1) q1 r1 → lw_H g ad (lw_A s) pls1 q1 r1 s H1 locs1 → W p l e room_1 s m #[Value.ref b] below meth c H1 locs1 (56 + 200 * j + 200) (952 + 800 * j + 800) Q (F0 m 833 ls [])) : W p l e room_1 s m #[Value.ref b] below meth c H locs (56 + 200 * j) (952 + 800 * j) Q (F0 m 381 ls []) := by
  have hjj : j < 512 := by have := X.2.2.2.2; omega
  obtain ⟨v, q1, r1, hC, hR, hI1⟩ := hS j q r (lw_x xs j 1) hjj hI
  refine lv_aload_n X.1.1 X.1.2.1 dL_law_381 rfl (lv_at hl 2 rfl) ?_
  refine lw_arg (kn := 1) (v := 1) X hl G.2.2.2 hj (by decide) dL_law_382 dL_law_383 dL_law_384 (by decide) dL_law_385 dL_law_386 (by decide) ?_
  refine lw_cx (fun _ h => h) X.1 X.2.1 G (ctX10_pass l g pls q _ hC) (cwV 1 X.1.2.2.2.2 gl_X10_pass rfl rfl rfl (by decide +kernel) ⟨Nat.le_of_ble_eq_true rfl, Nat.le_of_ble_eq_true rfl⟩) (rest := []) rfl hl.1 rfl (Nat.le_of_ble_eq_true rfl) dL_law_387 (lw_room hjj) (fun H locs G => ?_)
  refine lv_aload_n X.1.1 X.1.2.1 dL_law_390 rfl (lv_at hl 1 rfl) ?_
  refine lw_arg (kn := 1) (v := 1) X hl G.2.2.2 hj (by decide) dL_law_391 dL_law_392 dL_law_393 (by decide) dL_law_394 dL_law_395 (by decide) ?_
  refine lw_cm (fun _ h => h) X.1 X.2.1 G (ctX11_pass l (lw_G g ad) r _ hR) (cwV 1 X.1.2.2.2.2 gl_X11_pass rfl rfl rfl (by decide +kernel) ⟨Nat.le_of_ble_eq_true rfl, Nat.le_of_ble_eq_true rfl⟩) (rest := [.int v]) rfl hl.1 rfl (Nat.le_of_ble_eq_true rfl) dL_law_396 (lw_room hjj) (fun H locs G => ?_)
  exact lv_icmp_eq X.1.1 X.1.2.1 dL_law_399 (tgt := 833) (by decide) (fun _ => W.widen (Nat.le_add_right _ _) (Nat.le_add_right _ _) (kk pls q1 r1 H locs hI1 G)) (fun h => absurd rfl h)
theorem lw_c_best (X : lw_Ctx p s m c b L xs g) (hl : lv_has ls 4 (lw_ls g ad b j)) (hj : 7 * j + 7 ≤ L) (hS : lw_S2 Inv C_best R_best) (hI : Inv j q r) (G : lw_H g ad (lw_A s) pls q r s H locs) (kk : ∀ (pls1 : va_W) (q1 : cc_S) (r1 : rr_S) (H1 : Heap) (locs1 : List Loc), Inv (j + 1) q1 r1 → lw_H g ad (lw_A s) pls1 q1 r1 s H1 locs1 → W p l e room_1 s m #[Value.ref b] below meth c H1 locs1 (56 + 200 * j + 200) (952 + 800 * j + 800) Q (F0 m 833 ls [])) : W p l e room_1 s m #[Value.ref b] below meth c H locs (56 + 200 * j) (952 + 800 * j) Q (F0 m 404 ls []) := by
  have hjj : j < 512 := by have := X.2.2.2.2; omega
  obtain ⟨v, q1, r1, hC, hR, hI1⟩ := hS j q r (lw_x xs j 1) (lw_x xs j 2) hjj hI
  refine lv_aload_n X.1.1 X.1.2.1 dL_law_404 rfl (lv_at hl 2 rfl) ?_
  refine lw_arg (kn := 1) (v := 1) X hl G.2.2.2 hj (by decide) dL_law_405 dL_law_406 dL_law_407 (by decide) dL_law_408 dL_law_409 (by decide) ?_
  refine lw_arg (kn := 2) (v := 2) X hl G.2.2.2 hj (by decide) dL_law_410 dL_law_411 dL_law_412 (by decide) dL_law_413 dL_law_414 (by decide) ?_
  refine lw_cx (fun _ h => h) X.1 X.2.1 G (ctX10_best l g pls q _ _ hC) (cwV 2 X.1.2.2.2.2 gl_X10_best rfl rfl rfl (by decide +kernel) ⟨Nat.le_of_ble_eq_true rfl, Nat.le_of_ble_eq_true rfl⟩) (rest := []) rfl hl.1 rfl (Nat.le_of_ble_eq_true rfl) dL_law_415 (lw_room hjj) (fun H locs G => ?_)
  refine lv_aload_n X.1.1 X.1.2.1 dL_law_418 rfl (lv_at hl 1 rfl) ?_
  refine lw_arg (kn := 1) (v := 1) X hl G.2.2.2 hj (by decide) dL_law_419 dL_law_420 dL_law_421 (by decide) dL_law_422 dL_law_423 (by decide) ?_
  refine lw_arg (kn := 2) (v := 2) X hl G.2.2.2 hj (by decide) dL_law_424 dL_law_425 dL_law_426 (by decide) dL_law_427 dL_law_428 (by decide) ?_
  refine lw_cm (fun _ h => h) X.1 X.2.1 G (ctX11_best l (lw_G g ad) r _ _ hR) (cwV 2 X.1.2.2.2.2 gl_X11_best rfl rfl rfl (by decide +kernel) ⟨Nat.le_of_ble_eq_true rfl, Nat.le_of_ble_eq_true rfl⟩) (rest := [.int v]) rfl hl.1 rfl (Nat.le_of_ble_eq_true rfl) dL_law_429 (lw_room hjj) (fun H locs G => ?_)
  exact lv_icmp_eq X.1.1 X.1.2.1 dL_law_432 (tgt := 833) (by decide) (fun _ => W.widen (Nat.le_add_right _ _) (Nat.le_add_right _ _) (kk pls q1 r1 H locs hI1 G)) (fun h => absurd rfl h)
theorem lw_c_two (X : lw_Ctx p s m c b L xs g) (hl : lv_has ls 4 (lw_ls g ad b j)) (hj : 7 * j + 7 ≤ L) (hS : lw_S4 Inv C_two R_two) (hI : Inv j q r) (G : lw_H g ad (lw_A s) pls q r s H locs) (kk : ∀ (pls1 : va_W) (q1 : cc_S) (r1 : rr_S) (H1 : Heap) (locs1 : List Loc), Inv (j + 1) q1 r1 → lw_H g ad (lw_A s) pls1 q1 r1 s H1 locs1 → W p l e room_1 s m #[Value.ref b] below meth c H1 locs1 (56 + 200 * j + 200) (952 + 800 * j + 800) Q (F0 m 833 ls [])) : W p l e room_1 s m #[Value.ref b] below meth c H locs (56 + 200 * j) (952 + 800 * j) Q (F0 m 437 ls []) := by
  have hjj : j < 512 := by have := X.2.2.2.2; omega
  obtain ⟨v, q1, r1, hC, hR, hI1⟩ := hS j q r (lw_x xs j 1) (lw_x xs j 2) (lw_x xs j 3) (lw_x xs j 4) hjj hI
  refine lv_aload_n X.1.1 X.1.2.1 dL_law_437 rfl (lv_at hl 2 rfl) ?_
  refine lw_arg (kn := 1) (v := 1) X hl G.2.2.2 hj (by decide) dL_law_438 dL_law_439 dL_law_440 (by decide) dL_law_441 dL_law_442 (by decide) ?_
  refine lw_arg (kn := 2) (v := 2) X hl G.2.2.2 hj (by decide) dL_law_443 dL_law_444 dL_law_445 (by decide) dL_law_446 dL_law_447 (by decide) ?_
  refine lw_arg (kn := 3) (v := 3) X hl G.2.2.2 hj (by decide) dL_law_448 dL_law_449 dL_law_450 (by decide) dL_law_451 dL_law_452 (by decide) ?_
  refine lw_arg (kn := 4) (v := 4) X hl G.2.2.2 hj (by decide) dL_law_453 dL_law_454 dL_law_455 (by decide) dL_law_456 dL_law_457 (by decide) ?_
  refine lw_cx (fun _ h => h) X.1 X.2.1 G (ctX10_two l g pls q _ _ _ _ hC) (cwV 4 X.1.2.2.2.2 gl_X10_two rfl rfl rfl (by decide +kernel) ⟨Nat.le_of_ble_eq_true rfl, Nat.le_of_ble_eq_true rfl⟩) (rest := []) rfl hl.1 rfl (Nat.le_of_ble_eq_true rfl) dL_law_458 (lw_room hjj) (fun H locs G => ?_)
  refine lv_aload_n X.1.1 X.1.2.1 dL_law_461 rfl (lv_at hl 1 rfl) ?_
  refine lw_arg (kn := 1) (v := 1) X hl G.2.2.2 hj (by decide) dL_law_462 dL_law_463 dL_law_464 (by decide) dL_law_465 dL_law_466 (by decide) ?_
  refine lw_arg (kn := 2) (v := 2) X hl G.2.2.2 hj (by decide) dL_law_467 dL_law_468 dL_law_469 (by decide) dL_law_470 dL_law_471 (by decide) ?_
  refine lw_arg (kn := 3) (v := 3) X hl G.2.2.2 hj (by decide) dL_law_472 dL_law_473 dL_law_474 (by decide) dL_law_475 dL_law_476 (by decide) ?_
  refine lw_arg (kn := 4) (v := 4) X hl G.2.2.2 hj (by decide) dL_law_477 dL_law_478 dL_law_479 (by decide) dL_law_480 dL_law_481 (by decide) ?_
  refine lw_cm (fun _ h => h) X.1 X.2.1 G (ctX11_two l (lw_G g ad) r _ _ _ _ hR) (cwV 4 X.1.2.2.2.2 gl_X11_two rfl rfl rfl (by decide +kernel) ⟨Nat.le_of_ble_eq_true rfl, Nat.le_of_ble_eq_true rfl⟩) (rest := [.int v]) rfl hl.1 rfl (Nat.le_of_ble_eq_true rfl) dL_law_482 (lw_room hjj) (fun H locs G => ?_)
  exact lv_icmp_eq X.1.1 X.1.2.1 dL_law_485 (tgt := 833) (by decide) (fun _ => W.widen (Nat.le_add_right _ _) (Nat.le_add_right _ _) (kk pls q1 r1 H locs hI1 G)) (fun h => absurd rfl h)
theorem lw_c_worth (X : lw_Ctx p s m c b L xs g) (hl : lv_has ls 4 (lw_ls g ad b j)) (hj : 7 * j + 7 ≤ L) (hS : lw_S1 Inv C_worth R_worth) (hI : Inv j q r) (G : lw_H g ad (lw_A s) pls q r s H locs) (kk : ∀ (pls1 : va_W) (q1 : cc_S) (r1 : rr_S) (H1 : Heap) (locs1 : List Loc), Inv (j + 1) q1 r1 → lw_H g ad (lw_A s) pls1 q1 r1 s H1 locs1 → W p l e room_1 s m #[Value.ref b] below meth c H1 locs1 (56 + 200 * j + 200) (952 + 800 * j + 800) Q (F0 m 833 ls [])) : W p l e room_1 s m #[Value.ref b] below meth c H locs (56 + 200 * j) (952 + 800 * j) Q (F0 m 490 ls []) := by
  have hjj : j < 512 := by have := X.2.2.2.2; omega
  obtain ⟨v, q1, r1, hC, hR, hI1⟩ := hS j q r (lw_x xs j 1) hjj hI
  refine lv_aload_n X.1.1 X.1.2.1 dL_law_490 rfl (lv_at hl 2 rfl) ?_
  refine lw_arg (kn := 1) (v := 1) X hl G.2.2.2 hj (by decide) dL_law_491 dL_law_492 dL_law_493 (by decide) dL_law_494 dL_law_495 (by decide) ?_
  refine lw_cx (fun _ h => h) X.1 X.2.1 G (ctX10_worth l g pls q _ hC) (cwV 1 X.1.2.2.2.2 gl_X10_worth rfl rfl rfl (by decide +kernel) ⟨Nat.le_of_ble_eq_true rfl, Nat.le_of_ble_eq_true rfl⟩) (rest := []) rfl hl.1 rfl (Nat.le_of_ble_eq_true rfl) dL_law_496 (lw_room hjj) (fun H locs G => ?_)
  refine lv_aload_n X.1.1 X.1.2.1 dL_law_499 rfl (lv_at hl 1 rfl) ?_
  refine lw_arg (kn := 1) (v := 1) X hl G.2.2.2 hj (by decide) dL_law_500 dL_law_501 dL_law_502 (by decide) dL_law_503 dL_law_504 (by decide) ?_
  refine lw_cm (fun _ h => h) X.1 X.2.1 G (ctX11_worth l (lw_G g ad) r _ hR) (cwV 1 X.1.2.2.2.2 gl_X11_worth rfl rfl rfl (by decide +kernel) ⟨Nat.le_of_ble_eq_true rfl, Nat.le_of_ble_eq_true rfl⟩) (rest := [.int v]) rfl hl.1 rfl (Nat.le_of_ble_eq_true rfl) dL_law_505 (lw_room hjj) (fun H locs G => ?_)
  exact lv_icmp_eq X.1.1 X.1.2.1 dL_law_508 (tgt := 833) (by decide) (fun _ => W.widen (Nat.le_add_right _ _) (Nat.le_add_right _ _) (kk pls q1 r1 H locs hI1 G)) (fun h => absurd rfl h)
theorem lw_c_duel (X : lw_Ctx p s m c b L xs g) (hl : lv_has ls 4 (lw_ls g ad b j)) (hj : 7 * j + 7 ≤ L) (hS : lw_S6 Inv C_duel R_duel) (hI : Inv j q r) (G : lw_H g ad (lw_A s) pls q r s H locs) (kk : ∀ (pls1 : va_W) (q1 : cc_S) (r1 : rr_S) (H1 : Heap) (locs1 : List Loc), Inv (j + 1) q1 r1 → lw_H g ad (lw_A s) pls1 q1 r1 s H1 locs1 → W p l e room_1 s m #[Value.ref b] below meth c H1 locs1 (56 + 200 * j + 200) (952 + 800 * j + 800) Q (F0 m 833 ls [])) : W p l e room_1 s m #[Value.ref b] below meth c H locs (56 + 200 * j) (952 + 800 * j) Q (F0 m 513 ls []) := by
  have hjj : j < 512 := by have := X.2.2.2.2; omega
  obtain ⟨v, q1, r1, hC, hR, hI1⟩ := hS j q r (lw_x xs j 1) (lw_x xs j 2) (lw_x xs j 3) (lw_x xs j 4) (lw_x xs j 5) (lw_x xs j 6) hjj hI
  refine lv_aload_n X.1.1 X.1.2.1 dL_law_513 rfl (lv_at hl 2 rfl) ?_
  refine lw_arg (kn := 1) (v := 1) X hl G.2.2.2 hj (by decide) dL_law_514 dL_law_515 dL_law_516 (by decide) dL_law_517 dL_law_518 (by decide) ?_
  refine lw_arg (kn := 2) (v := 2) X hl G.2.2.2 hj (by decide) dL_law_519 dL_law_520 dL_law_521 (by decide) dL_law_522 dL_law_523 (by decide) ?_
  refine lw_arg (kn := 3) (v := 3) X hl G.2.2.2 hj (by decide) dL_law_524 dL_law_525 dL_law_526 (by decide) dL_law_527 dL_law_528 (by decide) ?_
  refine lw_arg (kn := 4) (v := 4) X hl G.2.2.2 hj (by decide) dL_law_529 dL_law_530 dL_law_531 (by decide) dL_law_532 dL_law_533 (by decide) ?_
  refine lw_arg (kn := 5) (v := 5) X hl G.2.2.2 hj (by decide) dL_law_534 dL_law_535 dL_law_536 (by decide) dL_law_537 dL_law_538 (by decide) ?_
  refine lw_arg6 (kn := 6) (v := 6) X hl G.2.2.2 hj (by decide) dL_law_539 dL_law_540 dL_law_541 (by decide) dL_law_543 dL_law_544 (by decide) ?_
  refine lw_cxl (fun _ h => h) X.1 X.2.1 G (ctX10_duel l g pls q _ _ _ _ _ _ hC) (cwV 6 X.1.2.2.2.2 gl_X10_duel rfl rfl rfl (by decide +kernel) ⟨Nat.le_of_ble_eq_true rfl, Nat.le_of_ble_eq_true rfl⟩) (rest := []) rfl hl.1 rfl (Nat.le_of_ble_eq_true rfl) dL_law_545 (lw_room hjj) (fun H locs G => ?_)
  refine lv_aload_n X.1.1 X.1.2.1 dL_law_548 rfl (lv_at hl 1 rfl) ?_
  refine lw_arg (kn := 1) (v := 1) X hl G.2.2.2 hj (by decide) dL_law_549 dL_law_550 dL_law_551 (by decide) dL_law_552 dL_law_553 (by decide) ?_
  refine lw_arg (kn := 2) (v := 2) X hl G.2.2.2 hj (by decide) dL_law_554 dL_law_555 dL_law_556 (by decide) dL_law_557 dL_law_558 (by decide) ?_
  refine lw_arg (kn := 3) (v := 3) X hl G.2.2.2 hj (by decide) dL_law_559 dL_law_560 dL_law_561 (by decide) dL_law_562 dL_law_563 (by decide) ?_
  refine lw_arg (kn := 4) (v := 4) X hl G.2.2.2 hj (by decide) dL_law_564 dL_law_565 dL_law_566 (by decide) dL_law_567 dL_law_568 (by decide) ?_
  refine lw_arg (kn := 5) (v := 5) X hl G.2.2.2 hj (by decide) dL_law_569 dL_law_570 dL_law_571 (by decide) dL_law_572 dL_law_573 (by decide) ?_
  refine lw_arg6 (kn := 6) (v := 6) X hl G.2.2.2 hj (by decide) dL_law_574 dL_law_575 dL_law_576 (by decide) dL_law_578 dL_law_579 (by decide) ?_
  refine lw_cml (fun _ h => h) X.1 X.2.1 G (ctX11_duel l (lw_G g ad) r _ _ _ _ _ _ hR) (cwV 6 X.1.2.2.2.2 gl_X11_duel rfl rfl rfl (by decide +kernel) ⟨Nat.le_of_ble_eq_true rfl, Nat.le_of_ble_eq_true rfl⟩) (rest := [.long v]) rfl hl.1 rfl (Nat.le_of_ble_eq_true rfl) dL_law_580 (lw_room hjj) (fun H locs G => ?_)
  refine W.lcmp X.1.1 X.1.2.1 dL_law_583 ?_
  exact lv_if_eq X.1.1 X.1.2.1 dL_law_584 (tgt := 833) (by decide) (fun _ => W.widen (Nat.le_add_right _ _) (Nat.le_add_right _ _) (kk pls q1 r1 H locs hI1 G)) (fun h => absurd (lg_cmp_self v) h)
theorem lw_c_game (X : lw_Ctx p s m c b L xs g) (hl : lv_has ls 4 (lw_ls g ad b j)) (hj : 7 * j + 7 ≤ L) (hS : lw_S3 Inv C_game R_game) (hI : Inv j q r) (G : lw_H g ad (lw_A s) pls q r s H locs) (kk : ∀ (pls1 : va_W) (q1 : cc_S) (r1 : rr_S) (H1 : Heap) (locs1 : List Loc), Inv (j + 1) q1 r1 → lw_H g ad (lw_A s) pls1 q1 r1 s H1 locs1 → W p l e room_1 s m #[Value.ref b] below meth c H1 locs1 (56 + 200 * j + 200) (952 + 800 * j + 800) Q (F0 m 833 ls [])) : W p l e room_1 s m #[Value.ref b] below meth c H locs (56 + 200 * j) (952 + 800 * j) Q (F0 m 589 ls []) := by
  have hjj : j < 512 := by have := X.2.2.2.2; omega
  obtain ⟨v, q1, r1, hC, hR, hI1⟩ := hS j q r (lw_x xs j 1) (lw_x xs j 2) (lw_x xs j 3) hjj hI
  refine lv_aload_n X.1.1 X.1.2.1 dL_law_589 rfl (lv_at hl 2 rfl) ?_
  refine lw_arg (kn := 1) (v := 1) X hl G.2.2.2 hj (by decide) dL_law_590 dL_law_591 dL_law_592 (by decide) dL_law_593 dL_law_594 (by decide) ?_
  refine lw_arg (kn := 2) (v := 2) X hl G.2.2.2 hj (by decide) dL_law_595 dL_law_596 dL_law_597 (by decide) dL_law_598 dL_law_599 (by decide) ?_
  refine lw_arg (kn := 3) (v := 3) X hl G.2.2.2 hj (by decide) dL_law_600 dL_law_601 dL_law_602 (by decide) dL_law_603 dL_law_604 (by decide) ?_
  refine lw_cxl (fun _ h => h) X.1 X.2.1 G (ctX10_game l g pls q _ _ _ hC) (cwV 3 X.1.2.2.2.2 gl_X10_game rfl rfl rfl (by decide +kernel) ⟨Nat.le_of_ble_eq_true rfl, Nat.le_of_ble_eq_true rfl⟩) (rest := []) rfl hl.1 rfl (Nat.le_of_ble_eq_true rfl) dL_law_605 (lw_room hjj) (fun H locs G => ?_)
  refine lv_aload_n X.1.1 X.1.2.1 dL_law_608 rfl (lv_at hl 1 rfl) ?_
  refine lw_arg (kn := 1) (v := 1) X hl G.2.2.2 hj (by decide) dL_law_609 dL_law_610 dL_law_611 (by decide) dL_law_612 dL_law_613 (by decide) ?_
  refine lw_arg (kn := 2) (v := 2) X hl G.2.2.2 hj (by decide) dL_law_614 dL_law_615 dL_law_616 (by decide) dL_law_617 dL_law_618 (by decide) ?_
  refine lw_arg (kn := 3) (v := 3) X hl G.2.2.2 hj (by decide) dL_law_619 dL_law_620 dL_law_621 (by decide) dL_law_622 dL_law_623 (by decide) ?_
  refine lw_cml (fun _ h => h) X.1 X.2.1 G (ctX11_game l (lw_G g ad) r _ _ _ hR) (cwV 3 X.1.2.2.2.2 gl_X11_game rfl rfl rfl (by decide +kernel) ⟨Nat.le_of_ble_eq_true rfl, Nat.le_of_ble_eq_true rfl⟩) (rest := [.long v]) rfl hl.1 rfl (Nat.le_of_ble_eq_true rfl) dL_law_624 (lw_room hjj) (fun H locs G => ?_)
  refine W.lcmp X.1.1 X.1.2.1 dL_law_627 ?_
  exact lv_if_eq X.1.1 X.1.2.1 dL_law_628 (tgt := 833) (by decide) (fun _ => W.widen (Nat.le_add_right _ _) (Nat.le_add_right _ _) (kk pls q1 r1 H locs hI1 G)) (fun h => absurd (lg_cmp_self v) h)
theorem lw_c_row (X : lw_Ctx p s m c b L xs g) (hl : lv_has ls 4 (lw_ls g ad b j)) (hj : 7 * j + 7 ≤ L) (hS : lw_S1 Inv C_row R_row) (hI : Inv j q r) (G : lw_H g ad (lw_A s) pls q r s H locs) (kk : ∀ (pls1 : va_W) (q1 : cc_S) (r1 : rr_S) (H1 : Heap) (locs1 : List Loc), Inv (j + 1) q1 r1 → lw_H g ad (lw_A s) pls1 q1 r1 s H1 locs1 → W p l e room_1 s m #[Value.ref b] below meth c H1 locs1 (56 + 200 * j + 200) (952 + 800 * j + 800) Q (F0 m 833 ls [])) : W p l e room_1 s m #[Value.ref b] below meth c H locs (56 + 200 * j) (952 + 800 * j) Q (F0 m 633 ls []) := by
  have hjj : j < 512 := by have := X.2.2.2.2; omega
  obtain ⟨v, q1, r1, hC, hR, hI1⟩ := hS j q r (lw_x xs j 1) hjj hI
  refine lv_aload_n X.1.1 X.1.2.1 dL_law_633 rfl (lv_at hl 2 rfl) ?_
  refine lw_arg (kn := 1) (v := 1) X hl G.2.2.2 hj (by decide) dL_law_634 dL_law_635 dL_law_636 (by decide) dL_law_637 dL_law_638 (by decide) ?_
  refine lw_cx (fun _ h => h) X.1 X.2.1 G (ctX10_row l g pls q _ hC) (cwV 1 X.1.2.2.2.2 gl_X10_row rfl rfl rfl (by decide +kernel) ⟨Nat.le_of_ble_eq_true rfl, Nat.le_of_ble_eq_true rfl⟩) (rest := []) rfl hl.1 rfl (Nat.le_of_ble_eq_true rfl) dL_law_639 (lw_room hjj) (fun H locs G => ?_)
  refine lv_aload_n X.1.1 X.1.2.1 dL_law_642 rfl (lv_at hl 1 rfl) ?_
  refine lw_arg (kn := 1) (v := 1) X hl G.2.2.2 hj (by decide) dL_law_643 dL_law_644 dL_law_645 (by decide) dL_law_646 dL_law_647 (by decide) ?_
  refine lw_cm (fun _ h => h) X.1 X.2.1 G (ctX11_row l (lw_G g ad) r _ hR) (cwV 1 X.1.2.2.2.2 gl_X11_row rfl rfl rfl (by decide +kernel) ⟨Nat.le_of_ble_eq_true rfl, Nat.le_of_ble_eq_true rfl⟩) (rest := [.int v]) rfl hl.1 rfl (Nat.le_of_ble_eq_true rfl) dL_law_648 (lw_room hjj) (fun H locs G => ?_)
  exact lv_icmp_eq X.1.1 X.1.2.1 dL_law_651 (tgt := 833) (by decide) (fun _ => W.widen (Nat.le_add_right _ _) (Nat.le_add_right _ _) (kk pls q1 r1 H locs hI1 G)) (fun h => absurd rfl h)
theorem lw_c_judge (X : lw_Ctx p s m c b L xs g) (hl : lv_has ls 4 (lw_ls g ad b j)) (hj : 7 * j + 7 ≤ L) (hS : lw_S0 Inv C_judge R_judge) (hI : Inv j q r) (G : lw_H g ad (lw_A s) pls q r s H locs) (kk : ∀ (pls1 : va_W) (q1 : cc_S) (r1 : rr_S) (H1 : Heap) (locs1 : List Loc), Inv (j + 1) q1 r1 → lw_H g ad (lw_A s) pls1 q1 r1 s H1 locs1 → W p l e room_1 s m #[Value.ref b] below meth c H1 locs1 (56 + 200 * j + 200) (952 + 800 * j + 800) Q (F0 m 833 ls [])) : W p l e room_1 s m #[Value.ref b] below meth c H locs (56 + 200 * j) (952 + 800 * j) Q (F0 m 656 ls []) := by
  have hjj : j < 512 := by have := X.2.2.2.2; omega
  obtain ⟨v, q1, r1, hC, hR, hI1⟩ := hS j q r hjj hI
  refine lv_aload_n X.1.1 X.1.2.1 dL_law_656 rfl (lv_at hl 2 rfl) ?_
  refine lw_cx (fun _ h => h) X.1 X.2.1 G (ctX10_judge l g pls q hC) (cwV 0 X.1.2.2.2.2 gl_X10_judge rfl rfl rfl (by decide +kernel) ⟨Nat.le_of_ble_eq_true rfl, Nat.le_of_ble_eq_true rfl⟩) (rest := []) rfl hl.1 rfl (Nat.le_of_ble_eq_true rfl) dL_law_657 (lw_room hjj) (fun H locs G => ?_)
  refine lv_aload_n X.1.1 X.1.2.1 dL_law_660 rfl (lv_at hl 1 rfl) ?_
  refine lw_cm (fun _ h => h) X.1 X.2.1 G (ctX11_judge l (lw_G g ad) r hR) (cwV 0 X.1.2.2.2.2 gl_X11_judge rfl rfl rfl (by decide +kernel) ⟨Nat.le_of_ble_eq_true rfl, Nat.le_of_ble_eq_true rfl⟩) (rest := [.int v]) rfl hl.1 rfl (Nat.le_of_ble_eq_true rfl) dL_law_661 (lw_room hjj) (fun H locs G => ?_)
  exact lv_icmp_eq X.1.1 X.1.2.1 dL_law_664 (tgt := 833) (by decide) (fun _ => W.widen (Nat.le_add_right _ _) (Nat.le_add_right _ _) (kk pls q1 r1 H locs hI1 G)) (fun h => absurd rfl h)
theorem lw_c_ends (X : lw_Ctx p s m c b L xs g) (hl : lv_has ls 4 (lw_ls g ad b j)) (hj : 7 * j + 7 ≤ L) (hS : lw_S0 Inv C_ends R_ends) (hI : Inv j q r) (G : lw_H g ad (lw_A s) pls q r s H locs) (kk : ∀ (pls1 : va_W) (q1 : cc_S) (r1 : rr_S) (H1 : Heap) (locs1 : List Loc), Inv (j + 1) q1 r1 → lw_H g ad (lw_A s) pls1 q1 r1 s H1 locs1 → W p l e room_1 s m #[Value.ref b] below meth c H1 locs1 (56 + 200 * j + 200) (952 + 800 * j + 800) Q (F0 m 833 ls [])) : W p l e room_1 s m #[Value.ref b] below meth c H locs (56 + 200 * j) (952 + 800 * j) Q (F0 m 669 ls []) := by
  have hjj : j < 512 := by have := X.2.2.2.2; omega
  obtain ⟨v, q1, r1, hC, hR, hI1⟩ := hS j q r hjj hI
  refine lv_aload_n X.1.1 X.1.2.1 dL_law_669 rfl (lv_at hl 2 rfl) ?_
  refine lw_cx (fun _ h => h) X.1 X.2.1 G (ctX10_ends l g pls q hC) (cwV 0 X.1.2.2.2.2 gl_X10_ends rfl rfl rfl (by decide +kernel) ⟨Nat.le_of_ble_eq_true rfl, Nat.le_of_ble_eq_true rfl⟩) (rest := []) rfl hl.1 rfl (Nat.le_of_ble_eq_true rfl) dL_law_670 (lw_room hjj) (fun H locs G => ?_)
  refine lv_aload_n X.1.1 X.1.2.1 dL_law_673 rfl (lv_at hl 1 rfl) ?_
  refine lw_cm (fun _ h => h) X.1 X.2.1 G (ctX11_ends l (lw_G g ad) r hR) (cwV 0 X.1.2.2.2.2 gl_X11_ends rfl rfl rfl (by decide +kernel) ⟨Nat.le_of_ble_eq_true rfl, Nat.le_of_ble_eq_true rfl⟩) (rest := [.int v]) rfl hl.1 rfl (Nat.le_of_ble_eq_true rfl) dL_law_674 (lw_room hjj) (fun H locs G => ?_)
  exact lv_icmp_eq X.1.1 X.1.2.1 dL_law_677 (tgt := 833) (by decide) (fun _ => W.widen (Nat.le_add_right _ _) (Nat.le_add_right _ _) (kk pls q1 r1 H locs hI1 G)) (fun h => absurd rfl h)
theorem lw_c_clear (X : lw_Ctx p s m c b L xs g) (hl : lv_has ls 4 (lw_ls g ad b j)) (hj : 7 * j + 7 ≤ L) (hS : lw_S0 Inv C_clear R_clear) (hI : Inv j q r) (G : lw_H g ad (lw_A s) pls q r s H locs) (kk : ∀ (pls1 : va_W) (q1 : cc_S) (r1 : rr_S) (H1 : Heap) (locs1 : List Loc), Inv (j + 1) q1 r1 → lw_H g ad (lw_A s) pls1 q1 r1 s H1 locs1 → W p l e room_1 s m #[Value.ref b] below meth c H1 locs1 (56 + 200 * j + 200) (952 + 800 * j + 800) Q (F0 m 833 ls [])) : W p l e room_1 s m #[Value.ref b] below meth c H locs (56 + 200 * j) (952 + 800 * j) Q (F0 m 682 ls []) := by
  have hjj : j < 512 := by have := X.2.2.2.2; omega
  obtain ⟨v, q1, r1, hC, hR, hI1⟩ := hS j q r hjj hI
  refine lv_aload_n X.1.1 X.1.2.1 dL_law_682 rfl (lv_at hl 2 rfl) ?_
  refine lw_cx (fun _ h => h) X.1 X.2.1 G (ctX10_clear l g pls q hC) (cwV 0 X.1.2.2.2.2 gl_X10_clear rfl rfl rfl (by decide +kernel) ⟨Nat.le_of_ble_eq_true rfl, Nat.le_of_ble_eq_true rfl⟩) (rest := []) rfl hl.1 rfl (Nat.le_of_ble_eq_true rfl) dL_law_683 (lw_room hjj) (fun H locs G => ?_)
  refine lv_aload_n X.1.1 X.1.2.1 dL_law_686 rfl (lv_at hl 1 rfl) ?_
  refine lw_cm (fun _ h => h) X.1 X.2.1 G (ctX11_clear l (lw_G g ad) r hR) (cwV 0 X.1.2.2.2.2 gl_X11_clear rfl rfl rfl (by decide +kernel) ⟨Nat.le_of_ble_eq_true rfl, Nat.le_of_ble_eq_true rfl⟩) (rest := [.int v]) rfl hl.1 rfl (Nat.le_of_ble_eq_true rfl) dL_law_687 (lw_room hjj) (fun H locs G => ?_)
  exact lv_icmp_eq X.1.1 X.1.2.1 dL_law_690 (tgt := 833) (by decide) (fun _ => W.widen (Nat.le_add_right _ _) (Nat.le_add_right _ _) (kk pls q1 r1 H locs hI1 G)) (fun h => absurd rfl h)
theorem lw_c_whose (X : lw_Ctx p s m c b L xs g) (hl : lv_has ls 4 (lw_ls g ad b j)) (hj : 7 * j + 7 ≤ L) (hS : lw_S1 Inv C_whose R_whose) (hI : Inv j q r) (G : lw_H g ad (lw_A s) pls q r s H locs) (kk : ∀ (pls1 : va_W) (q1 : cc_S) (r1 : rr_S) (H1 : Heap) (locs1 : List Loc), Inv (j + 1) q1 r1 → lw_H g ad (lw_A s) pls1 q1 r1 s H1 locs1 → W p l e room_1 s m #[Value.ref b] below meth c H1 locs1 (56 + 200 * j + 200) (952 + 800 * j + 800) Q (F0 m 833 ls [])) : W p l e room_1 s m #[Value.ref b] below meth c H locs (56 + 200 * j) (952 + 800 * j) Q (F0 m 695 ls []) := by
  have hjj : j < 512 := by have := X.2.2.2.2; omega
  obtain ⟨v, q1, r1, hC, hR, hI1⟩ := hS j q r (lw_x xs j 1) hjj hI
  refine lv_aload_n X.1.1 X.1.2.1 dL_law_695 rfl (lv_at hl 2 rfl) ?_
  refine lw_arg (kn := 1) (v := 1) X hl G.2.2.2 hj (by decide) dL_law_696 dL_law_697 dL_law_698 (by decide) dL_law_699 dL_law_700 (by decide) ?_
  refine lw_cx (fun _ h => h) X.1 X.2.1 G (ctX10_whose l g pls q _ hC) (cwV 1 X.1.2.2.2.2 gl_X10_whose rfl rfl rfl (by decide +kernel) ⟨Nat.le_of_ble_eq_true rfl, Nat.le_of_ble_eq_true rfl⟩) (rest := []) rfl hl.1 rfl (Nat.le_of_ble_eq_true rfl) dL_law_701 (lw_room hjj) (fun H locs G => ?_)
  refine lv_aload_n X.1.1 X.1.2.1 dL_law_704 rfl (lv_at hl 1 rfl) ?_
  refine lw_arg (kn := 1) (v := 1) X hl G.2.2.2 hj (by decide) dL_law_705 dL_law_706 dL_law_707 (by decide) dL_law_708 dL_law_709 (by decide) ?_
  refine lw_cm (fun _ h => h) X.1 X.2.1 G (ctX11_whose l (lw_G g ad) r _ hR) (cwV 1 X.1.2.2.2.2 gl_X11_whose rfl rfl rfl (by decide +kernel) ⟨Nat.le_of_ble_eq_true rfl, Nat.le_of_ble_eq_true rfl⟩) (rest := [.int v]) rfl hl.1 rfl (Nat.le_of_ble_eq_true rfl) dL_law_710 (lw_room hjj) (fun H locs G => ?_)
  exact lv_icmp_eq X.1.1 X.1.2.1 dL_law_713 (tgt := 833) (by decide) (fun _ => W.widen (Nat.le_add_right _ _) (Nat.le_add_right _ _) (kk pls q1 r1 H locs hI1 G)) (fun h => absurd rfl h)
theorem lw_c_waits (X : lw_Ctx p s m c b L xs g) (hl : lv_has ls 4 (lw_ls g ad b j)) (hj : 7 * j + 7 ≤ L) (hS : lw_S2 Inv C_waits R_waits) (hI : Inv j q r) (G : lw_H g ad (lw_A s) pls q r s H locs) (kk : ∀ (pls1 : va_W) (q1 : cc_S) (r1 : rr_S) (H1 : Heap) (locs1 : List Loc), Inv (j + 1) q1 r1 → lw_H g ad (lw_A s) pls1 q1 r1 s H1 locs1 → W p l e room_1 s m #[Value.ref b] below meth c H1 locs1 (56 + 200 * j + 200) (952 + 800 * j + 800) Q (F0 m 833 ls [])) : W p l e room_1 s m #[Value.ref b] below meth c H locs (56 + 200 * j) (952 + 800 * j) Q (F0 m 718 ls []) := by
  have hjj : j < 512 := by have := X.2.2.2.2; omega
  obtain ⟨v, q1, r1, hC, hR, hI1⟩ := hS j q r (lw_x xs j 1) (lw_x xs j 2) hjj hI
  refine lv_aload_n X.1.1 X.1.2.1 dL_law_718 rfl (lv_at hl 2 rfl) ?_
  refine lw_arg (kn := 1) (v := 1) X hl G.2.2.2 hj (by decide) dL_law_719 dL_law_720 dL_law_721 (by decide) dL_law_722 dL_law_723 (by decide) ?_
  refine lw_arg (kn := 2) (v := 2) X hl G.2.2.2 hj (by decide) dL_law_724 dL_law_725 dL_law_726 (by decide) dL_law_727 dL_law_728 (by decide) ?_
  refine lw_cx (fun _ h => h) X.1 X.2.1 G (ctX10_waits l g pls q _ _ hC) (cwV 2 X.1.2.2.2.2 gl_X10_waits rfl rfl rfl (by decide +kernel) ⟨Nat.le_of_ble_eq_true rfl, Nat.le_of_ble_eq_true rfl⟩) (rest := []) rfl hl.1 rfl (Nat.le_of_ble_eq_true rfl) dL_law_729 (lw_room hjj) (fun H locs G => ?_)
  refine lv_aload_n X.1.1 X.1.2.1 dL_law_732 rfl (lv_at hl 1 rfl) ?_
  refine lw_arg (kn := 1) (v := 1) X hl G.2.2.2 hj (by decide) dL_law_733 dL_law_734 dL_law_735 (by decide) dL_law_736 dL_law_737 (by decide) ?_
  refine lw_arg (kn := 2) (v := 2) X hl G.2.2.2 hj (by decide) dL_law_738 dL_law_739 dL_law_740 (by decide) dL_law_741 dL_law_742 (by decide) ?_
  refine lw_cm (fun _ h => h) X.1 X.2.1 G (ctX11_waits l (lw_G g ad) r _ _ hR) (cwV 2 X.1.2.2.2.2 gl_X11_waits rfl rfl rfl (by decide +kernel) ⟨Nat.le_of_ble_eq_true rfl, Nat.le_of_ble_eq_true rfl⟩) (rest := [.int v]) rfl hl.1 rfl (Nat.le_of_ble_eq_true rfl) dL_law_743 (lw_room hjj) (fun H locs G => ?_)
  exact lv_icmp_eq X.1.1 X.1.2.1 dL_law_746 (tgt := 833) (by decide) (fun _ => W.widen (Nat.le_add_right _ _) (Nat.le_add_right _ _) (kk pls q1 r1 H locs hI1 G)) (fun h => absurd rfl h)
theorem lw_c_lots (X : lw_Ctx p s m c b L xs g) (hl : lv_has ls 4 (lw_ls g ad b j)) (hj : 7 * j + 7 ≤ L) (hS : lw_S2 Inv C_lots R_lots) (hI : Inv j q r) (G : lw_H g ad (lw_A s) pls q r s H locs) (kk : ∀ (pls1 : va_W) (q1 : cc_S) (r1 : rr_S) (H1 : Heap) (locs1 : List Loc), Inv (j + 1) q1 r1 → lw_H g ad (lw_A s) pls1 q1 r1 s H1 locs1 → W p l e room_1 s m #[Value.ref b] below meth c H1 locs1 (56 + 200 * j + 200) (952 + 800 * j + 800) Q (F0 m 833 ls [])) : W p l e room_1 s m #[Value.ref b] below meth c H locs (56 + 200 * j) (952 + 800 * j) Q (F0 m 751 ls []) := by
  have hjj : j < 512 := by have := X.2.2.2.2; omega
  obtain ⟨v, q1, r1, hC, hR, hI1⟩ := hS j q r (lw_x xs j 1) (lw_x xs j 2) hjj hI
  refine lv_aload_n X.1.1 X.1.2.1 dL_law_751 rfl (lv_at hl 2 rfl) ?_
  refine lw_arg (kn := 1) (v := 1) X hl G.2.2.2 hj (by decide) dL_law_752 dL_law_753 dL_law_754 (by decide) dL_law_755 dL_law_756 (by decide) ?_
  refine lw_arg (kn := 2) (v := 2) X hl G.2.2.2 hj (by decide) dL_law_757 dL_law_758 dL_law_759 (by decide) dL_law_760 dL_law_761 (by decide) ?_
  refine lw_cx (fun _ h => h) X.1 X.2.1 G (ctX10_lots l g pls q _ _ hC) (cwV 2 X.1.2.2.2.2 gl_X10_lots rfl rfl rfl (by decide +kernel) ⟨Nat.le_of_ble_eq_true rfl, Nat.le_of_ble_eq_true rfl⟩) (rest := []) rfl hl.1 rfl (Nat.le_of_ble_eq_true rfl) dL_law_762 (lw_room hjj) (fun H locs G => ?_)
  refine lv_aload_n X.1.1 X.1.2.1 dL_law_765 rfl (lv_at hl 1 rfl) ?_
  refine lw_arg (kn := 1) (v := 1) X hl G.2.2.2 hj (by decide) dL_law_766 dL_law_767 dL_law_768 (by decide) dL_law_769 dL_law_770 (by decide) ?_
  refine lw_arg (kn := 2) (v := 2) X hl G.2.2.2 hj (by decide) dL_law_771 dL_law_772 dL_law_773 (by decide) dL_law_774 dL_law_775 (by decide) ?_
  refine lw_cm (fun _ h => h) X.1 X.2.1 G (ctX11_lots l (lw_G g ad) r _ _ hR) (cwV 2 X.1.2.2.2.2 gl_X11_lots rfl rfl rfl (by decide +kernel) ⟨Nat.le_of_ble_eq_true rfl, Nat.le_of_ble_eq_true rfl⟩) (rest := [.int v]) rfl hl.1 rfl (Nat.le_of_ble_eq_true rfl) dL_law_776 (lw_room hjj) (fun H locs G => ?_)
  exact lv_icmp_eq X.1.1 X.1.2.1 dL_law_779 (tgt := 833) (by decide) (fun _ => W.widen (Nat.le_add_right _ _) (Nat.le_add_right _ _) (kk pls q1 r1 H locs hI1 G)) (fun h => absurd rfl h)
theorem lw_c_image (X : lw_Ctx p s m c b L xs g) (hl : lv_has ls 4 (lw_ls g ad b j)) (hj : 7 * j + 7 ≤ L) (hS : lw_S0 Inv C_image R_image) (hI : Inv j q r) (G : lw_H g ad (lw_A s) pls q r s H locs) (kk : ∀ (pls1 : va_W) (q1 : cc_S) (r1 : rr_S) (H1 : Heap) (locs1 : List Loc), Inv (j + 1) q1 r1 → lw_H g ad (lw_A s) pls1 q1 r1 s H1 locs1 → W p l e room_1 s m #[Value.ref b] below meth c H1 locs1 (56 + 200 * j + 200) (952 + 800 * j + 800) Q (F0 m 833 ls [])) : W p l e room_1 s m #[Value.ref b] below meth c H locs (56 + 200 * j) (952 + 800 * j) Q (F0 m 784 ls []) := by
  have hjj : j < 512 := by have := X.2.2.2.2; omega
  obtain ⟨v, q1, r1, hC, hR, hI1⟩ := hS j q r hjj hI
  refine lv_aload_n X.1.1 X.1.2.1 dL_law_784 rfl (lv_at hl 2 rfl) ?_
  refine lw_cx (fun _ h => h) X.1 X.2.1 G (ctX10_image l g pls q hC) (cwV 0 X.1.2.2.2.2 gl_X10_image rfl rfl rfl (by decide +kernel) ⟨Nat.le_of_ble_eq_true rfl, Nat.le_of_ble_eq_true rfl⟩) (rest := []) rfl hl.1 rfl (Nat.le_of_ble_eq_true rfl) dL_law_785 (lw_room hjj) (fun H locs G => ?_)
  refine lv_aload_n X.1.1 X.1.2.1 dL_law_788 rfl (lv_at hl 1 rfl) ?_
  refine lw_cm (fun _ h => h) X.1 X.2.1 G (ctX11_image l (lw_G g ad) r hR) (cwV 0 X.1.2.2.2.2 gl_X11_image rfl rfl rfl (by decide +kernel) ⟨Nat.le_of_ble_eq_true rfl, Nat.le_of_ble_eq_true rfl⟩) (rest := [.int v]) rfl hl.1 rfl (Nat.le_of_ble_eq_true rfl) dL_law_789 (lw_room hjj) (fun H locs G => ?_)
  exact lv_icmp_eq X.1.1 X.1.2.1 dL_law_792 (tgt := 833) (by decide) (fun _ => W.widen (Nat.le_add_right _ _) (Nat.le_add_right _ _) (kk pls q1 r1 H locs hI1 G)) (fun h => absurd rfl h)
theorem lw_c_on (X : lw_Ctx p s m c b L xs g) (hl : lv_has ls 4 (lw_ls g ad b j)) (hj : 7 * j + 7 ≤ L) (hS : lw_S0 Inv C_on R_on) (hI : Inv j q r) (G : lw_H g ad (lw_A s) pls q r s H locs) (kk : ∀ (pls1 : va_W) (q1 : cc_S) (r1 : rr_S) (H1 : Heap) (locs1 : List Loc), Inv (j + 1) q1 r1 → lw_H g ad (lw_A s) pls1 q1 r1 s H1 locs1 → W p l e room_1 s m #[Value.ref b] below meth c H1 locs1 (56 + 200 * j + 200) (952 + 800 * j + 800) Q (F0 m 833 ls [])) : W p l e room_1 s m #[Value.ref b] below meth c H locs (56 + 200 * j) (952 + 800 * j) Q (F0 m 797 ls []) := by
  have hjj : j < 512 := by have := X.2.2.2.2; omega
  obtain ⟨v, q1, r1, hC, hR, hI1⟩ := hS j q r hjj hI
  refine lv_aload_n X.1.1 X.1.2.1 dL_law_797 rfl (lv_at hl 2 rfl) ?_
  refine lw_cx (fun _ h => h) X.1 X.2.1 G (ctX10_on l g pls q hC) (cwV 0 X.1.2.2.2.2 gl_X10_on rfl rfl rfl (by decide +kernel) ⟨Nat.le_of_ble_eq_true rfl, Nat.le_of_ble_eq_true rfl⟩) (rest := []) rfl hl.1 rfl (Nat.le_of_ble_eq_true rfl) dL_law_798 (lw_room hjj) (fun H locs G => ?_)
  refine lv_aload_n X.1.1 X.1.2.1 dL_law_801 rfl (lv_at hl 1 rfl) ?_
  refine lw_cm (fun _ h => h) X.1 X.2.1 G (ctX11_on l (lw_G g ad) r hR) (cwV 0 X.1.2.2.2.2 gl_X11_on rfl rfl rfl (by decide +kernel) ⟨Nat.le_of_ble_eq_true rfl, Nat.le_of_ble_eq_true rfl⟩) (rest := [.int v]) rfl hl.1 rfl (Nat.le_of_ble_eq_true rfl) dL_law_802 (lw_room hjj) (fun H locs G => ?_)
  exact lv_icmp_eq X.1.1 X.1.2.1 dL_law_805 (tgt := 833) (by decide) (fun _ => W.widen (Nat.le_add_right _ _) (Nat.le_add_right _ _) (kk pls q1 r1 H locs hI1 G)) (fun h => absurd rfl h)
theorem lw_c_count (X : lw_Ctx p s m c b L xs g) (hl : lv_has ls 4 (lw_ls g ad b j)) (hj : 7 * j + 7 ≤ L) (hS : lw_Sc Inv) (hI : Inv j q r) (G : lw_H g ad (lw_A s) pls q r s H locs) (kk : ∀ (pls1 : va_W) (q1 : cc_S) (r1 : rr_S) (H1 : Heap) (locs1 : List Loc), Inv (j + 1) q1 r1 → lw_H g ad (lw_A s) pls1 q1 r1 s H1 locs1 → W p l e room_1 s m #[Value.ref b] below meth c H1 locs1 (56 + 200 * j + 200) (952 + 800 * j + 800) Q (F0 m 833 ls [])) : W p l e room_1 s m #[Value.ref b] below meth c H locs (56 + 200 * j) (952 + 800 * j) Q (F0 m 810 ls []) := by
  have hjj : j < 512 := by have := X.2.2.2.2; omega
  obtain ⟨v, hC, hR, hI1⟩ := hS j q r (lw_x xs j 1) hjj hI
  refine lv_aload_n X.1.1 X.1.2.1 dL_law_810 rfl (lv_at hl 2 rfl) ?_
  refine lw_arg (kn := 1) (v := 1) X hl G.2.2.2 hj (by decide) dL_law_811 dL_law_812 dL_law_813 (by decide) dL_law_814 dL_law_815 (by decide) ?_
  refine lw_cx (fun _ h => h) X.1 X.2.1 G (ctX10_count l g pls q _ hC) (cwV 1 X.1.2.2.2.2 gl_X10_count rfl rfl rfl (by decide +kernel) ⟨Nat.le_of_ble_eq_true rfl, Nat.le_of_ble_eq_true rfl⟩) (rest := []) rfl hl.1 rfl (Nat.le_of_ble_eq_true rfl) dL_law_816 (lw_room hjj) (fun H locs G => ?_)
  refine lv_aload_n X.1.1 X.1.2.1 dL_law_819 rfl (lv_at hl 1 rfl) ?_
  refine lw_arg (kn := 1) (v := 1) X hl G.2.2.2 hj (by decide) dL_law_820 dL_law_821 dL_law_822 (by decide) dL_law_823 dL_law_824 (by decide) ?_
  refine lw_cm (fun _ h => h) X.1 X.2.1 G (ctX11_count l (lw_G g ad) r _ hR) (cwV 1 X.1.2.2.2.2 gl_X11_count rfl rfl rfl (by decide +kernel) ⟨Nat.le_of_ble_eq_true rfl, Nat.le_of_ble_eq_true rfl⟩) (rest := [.int v]) rfl hl.1 rfl (Nat.le_of_ble_eq_true rfl) dL_law_825 (lw_room hjj) (fun H locs G => ?_)
  exact lv_icmp_eq X.1.1 X.1.2.1 dL_law_828 (tgt := 833) (by decide) (fun _ => W.widen (Nat.le_add_right _ _) (Nat.le_add_right _ _) (kk pls q r H locs hI1 G)) (fun h => absurd rfl h)
/-- the loop, from its head to the law's end -/
theorem lw_loop (hr : meth.sig.returnType = ret) (hlk : meth.locks = false) (hcd : c.code = code) (X : lw_Ctx p s m c b L xs g) (h_skip : ∀ (j : Nat) (q : cc_S) (r : rr_S), j < 512 → Inv j q r → Inv (j + 1) q r) (h_letter : lw_S1 Inv C_letter R_letter) (h_hall : lw_S0 Inv C_hall R_hall) (h_player : lw_S2 Inv C_player R_player) (h_ball : lw_S2 Inv C_ball R_ball) (h_odds : lw_S4 Inv C_odds R_odds) (h_throwIt : lw_S4 Inv C_throwIt R_throwIt) (h_take : lw_S2 Inv C_take R_take) (h_pass : lw_S1 Inv C_pass R_pass) (h_best : lw_S2 Inv C_best R_best) (h_two : lw_S4 Inv C_two R_two) (h_worth : lw_S1 Inv C_worth R_worth) (h_duel : lw_S6 Inv C_duel R_duel) (h_game : lw_S3 Inv C_game R_game) (h_row : lw_S1 Inv C_row R_row) (h_judge : lw_S0 Inv C_judge R_judge) (h_ends : lw_S0 Inv C_ends R_ends) (h_clear : lw_S0 Inv C_clear R_clear) (h_whose : lw_S1 Inv C_whose R_whose) (h_waits : lw_S2 Inv C_waits R_waits) (h_lots : lw_S2 Inv C_lots R_lots) (h_image : lw_S0 Inv C_image R_image) (h_on : lw_S0 Inv C_on R_on) (h_count : lw_Sc Inv) : ∀ (n j : Nat) (ls : Array Slot) (pls : va_W) (q : cc_S) (r : rr_S) (H : Heap) (locs : List Loc), L ≤ 7 * j + n → j ≤ 512 → lv_has ls 4 (lw_ls g ad b j) → Inv j q r → lw_H g ad (lw_A s) pls q r s H locs → W p l e room_1 s m #[Value.ref b] below meth c H locs (56 + 200 * j) (952 + 800 * j) (lw_Z below #[Value.ref b] s) (F0 m 18 ls []) := by
  intro n
  induction n with
  | zero =>
    intro j ls pls q r H locs hn hj5 hl hI G
    refine lv_iload_n X.1.1 X.1.2.1 dL_law_18 rfl (lv_at hl 0 rfl) ?_
    refine lv_aload_n X.1.1 X.1.2.1 dL_law_19 rfl (lv_at hl 3 rfl) ?_
    refine va_slen X.1.1 X.1.2.1 X.2.2.1 X.2.2.2.1 (Nat.not_le.mpr X.2.2.2.1) G.2.2.2 dL_law_20 ?_
    refine lv_bipush (v := 7) X.1.1 X.1.2.1 dL_law_21 (by decide) ?_
    refine lv_isub X.1.1 X.1.2.1 dL_law_23 ?_
    refine lv_icmp_gt X.1.1 X.1.2.1 dL_law_24 (tgt := 839) (by decide) (fun _ => ?_) (fun h => ?_)
    · refine lv_iconst (v := 1) X.1.1 X.1.2.1 dL_law_839 (by decide) ?_
      refine va_forget (fun z hz => G.2.2.2.2.2 z hz) (W.widen (k := 600000) (n := 7302250) (by omega) (by omega) ?_)
      exact lw_ret X.1.1 hcd hr hlk (by decide +kernel)
    · have := lw_lt X.2.2.2.2 hj5 h
      omega
  | succ n ih =>
    intro j ls pls q r H locs hn hj5 hl hI G
    refine lv_iload_n X.1.1 X.1.2.1 dL_law_18 rfl (lv_at hl 0 rfl) ?_
    refine lv_aload_n X.1.1 X.1.2.1 dL_law_19 rfl (lv_at hl 3 rfl) ?_
    refine va_slen X.1.1 X.1.2.1 X.2.2.1 X.2.2.2.1 (Nat.not_le.mpr X.2.2.2.1) G.2.2.2 dL_law_20 ?_
    refine lv_bipush (v := 7) X.1.1 X.1.2.1 dL_law_21 (by decide) ?_
    refine lv_isub X.1.1 X.1.2.1 dL_law_23 ?_
    refine lv_icmp_gt X.1.1 X.1.2.1 dL_law_24 (tgt := 839) (by decide) (fun _ => ?_) (fun h => ?_)
    · refine lv_iconst (v := 1) X.1.1 X.1.2.1 dL_law_839 (by decide) ?_
      refine va_forget (fun z hz => G.2.2.2.2.2 z hz) (W.widen (k := 600000) (n := 7302250) (by omega) (by omega) ?_)
      exact lw_ret X.1.1 hcd hr hlk (by decide +kernel)
    · have hj := lw_lt X.2.2.2.2 hj5 h
      have hjj : j < 512 := by have := X.2.2.2.2; omega
      have kk : ∀ (pls1 : va_W) (q1 : cc_S) (r1 : rr_S) (H1 : Heap) (locs1 : List Loc), Inv (j + 1) q1 r1 → lw_H g ad (lw_A s) pls1 q1 r1 s H1 locs1 → W p l e room_1 s m #[Value.ref b] below meth c H1 locs1 (56 + 200 * j + 200) (952 + 800 * j + 800) (lw_Z below #[Value.ref b] s) (F0 m 833 ls []) := by
        intro pls1 q1 r1 H1 locs1 hI1 G1
        refine lv_iinc X.1.1 X.1.2.1 dL_law_833 hl (k := 0) (x := nI (7 * j)) (v := nI (7 * (j + 1))) rfl ?_ (by decide) rfl (fun ls' hl' => ?_)
        · rw [show (7 * (j + 1)) = 7 * j + 7 from by omega, ← nI_add]; rfl
        refine lv_goto X.1.1 X.1.2.1 dL_law_836 (tgt := 18) (by decide) ?_
        exact W.widen (k := 56 + 200 * (j + 1)) (n := 952 + 800 * (j + 1)) (by omega) (by omega) (ih (j + 1) ls' pls1 q1 r1 H1 locs1 (by omega) (by omega) hl' hI1 G1)
      refine lv_aload_n X.1.1 X.1.2.1 dL_law_27 rfl (lv_at hl 3 rfl) ?_
      refine lv_iload_n X.1.1 X.1.2.1 dL_law_28 rfl (lv_at hl 0 rfl) ?_
      refine va_sld X.1.1 X.1.2.1 X.2.2.1 X.2.2.2.1 (Nat.not_le.mpr X.2.2.2.1) G.2.2.2 (vp_in_nI (by omega) (by have := X.2.2.2.2; omega)) dL_law_29 ?_
      refine lv_bipush (v := 31) X.1.1 X.1.2.1 dL_law_30 (by decide) ?_
      refine lv_iand X.1.1 X.1.2.1 dL_law_32 ?_
      generalize (xs (nI (7 * j)).toNatClampNeg &&& 31) = k
      by_cases hout : k.toInt < 0 ∨ 22 < k.toInt
      · exact lv_tableOut X.1.1 X.1.2.1 dL_law_33 hout (tgt := 833) (by decide) (W.widen (Nat.le_add_right _ _) (Nat.le_add_right _ _) (kk pls q r H locs (h_skip j q r hjj hI) G))
      have hk0 : ¬ k.toInt < 0 := fun h => hout (Or.inl h)
      have hk1 : ¬ 22 < k.toInt := fun h => hout (Or.inr h)
      obtain ⟨kn, hkn, hke⟩ : ∃ kn : Nat, kn ≤ 22 ∧ k.toInt = kn := ⟨k.toInt.toNat, by omega, by omega⟩
      have hz : (k.toInt - 0).toNat = kn := by omega
      rcases (show kn = 0 ∨ kn = 1 ∨ kn = 2 ∨ kn = 3 ∨ kn = 4 ∨ kn = 5 ∨ kn = 6 ∨ kn = 7 ∨ kn = 8 ∨ kn = 9 ∨ kn = 10 ∨ kn = 11 ∨ kn = 12 ∨ kn = 13 ∨ kn = 14 ∨ kn = 15 ∨ kn = 16 ∨ kn = 17 ∨ kn = 18 ∨ kn = 19 ∨ kn = 20 ∨ kn = 21 ∨ kn = 22 by omega) with rfl | rfl | rfl | rfl | rfl | rfl | rfl | rfl | rfl | rfl | rfl | rfl | rfl | rfl | rfl | rfl | rfl | rfl | rfl | rfl | rfl | rfl | rfl
      · exact lv_tableIn X.1.1 X.1.2.1 dL_law_33 hk0 hk1 (off := 107) (tgt := 140) (by rw [hz]; rfl) (by decide) (lw_c_letter X hl hj h_letter hI G kk)
      · exact lv_tableIn X.1.1 X.1.2.1 dL_law_33 hk0 hk1 (off := 130) (tgt := 163) (by rw [hz]; rfl) (by decide) (lw_c_hall X hl hj h_hall hI G kk)
      · exact lv_tableIn X.1.1 X.1.2.1 dL_law_33 hk0 hk1 (off := 143) (tgt := 176) (by rw [hz]; rfl) (by decide) (lw_c_player X hl hj h_player hI G kk)
      · exact lv_tableIn X.1.1 X.1.2.1 dL_law_33 hk0 hk1 (off := 176) (tgt := 209) (by rw [hz]; rfl) (by decide) (lw_c_ball X hl hj h_ball hI G kk)
      · exact lv_tableIn X.1.1 X.1.2.1 dL_law_33 hk0 hk1 (off := 209) (tgt := 242) (by rw [hz]; rfl) (by decide) (lw_c_odds X hl hj h_odds hI G kk)
      · exact lv_tableIn X.1.1 X.1.2.1 dL_law_33 hk0 hk1 (off := 262) (tgt := 295) (by rw [hz]; rfl) (by decide) (lw_c_throwIt X hl hj h_throwIt hI G kk)
      · exact lv_tableIn X.1.1 X.1.2.1 dL_law_33 hk0 hk1 (off := 315) (tgt := 348) (by rw [hz]; rfl) (by decide) (lw_c_take X hl hj h_take hI G kk)
      · exact lv_tableIn X.1.1 X.1.2.1 dL_law_33 hk0 hk1 (off := 348) (tgt := 381) (by rw [hz]; rfl) (by decide) (lw_c_pass X hl hj h_pass hI G kk)
      · exact lv_tableIn X.1.1 X.1.2.1 dL_law_33 hk0 hk1 (off := 371) (tgt := 404) (by rw [hz]; rfl) (by decide) (lw_c_best X hl hj h_best hI G kk)
      · exact lv_tableIn X.1.1 X.1.2.1 dL_law_33 hk0 hk1 (off := 404) (tgt := 437) (by rw [hz]; rfl) (by decide) (lw_c_two X hl hj h_two hI G kk)
      · exact lv_tableIn X.1.1 X.1.2.1 dL_law_33 hk0 hk1 (off := 457) (tgt := 490) (by rw [hz]; rfl) (by decide) (lw_c_worth X hl hj h_worth hI G kk)
      · exact lv_tableIn X.1.1 X.1.2.1 dL_law_33 hk0 hk1 (off := 480) (tgt := 513) (by rw [hz]; rfl) (by decide) (lw_c_duel X hl hj h_duel hI G kk)
      · exact lv_tableIn X.1.1 X.1.2.1 dL_law_33 hk0 hk1 (off := 556) (tgt := 589) (by rw [hz]; rfl) (by decide) (lw_c_game X hl hj h_game hI G kk)
      · exact lv_tableIn X.1.1 X.1.2.1 dL_law_33 hk0 hk1 (off := 600) (tgt := 633) (by rw [hz]; rfl) (by decide) (lw_c_row X hl hj h_row hI G kk)
      · exact lv_tableIn X.1.1 X.1.2.1 dL_law_33 hk0 hk1 (off := 623) (tgt := 656) (by rw [hz]; rfl) (by decide) (lw_c_judge X hl hj h_judge hI G kk)
      · exact lv_tableIn X.1.1 X.1.2.1 dL_law_33 hk0 hk1 (off := 636) (tgt := 669) (by rw [hz]; rfl) (by decide) (lw_c_ends X hl hj h_ends hI G kk)
      · exact lv_tableIn X.1.1 X.1.2.1 dL_law_33 hk0 hk1 (off := 649) (tgt := 682) (by rw [hz]; rfl) (by decide) (lw_c_clear X hl hj h_clear hI G kk)
      · exact lv_tableIn X.1.1 X.1.2.1 dL_law_33 hk0 hk1 (off := 662) (tgt := 695) (by rw [hz]; rfl) (by decide) (lw_c_whose X hl hj h_whose hI G kk)
      · exact lv_tableIn X.1.1 X.1.2.1 dL_law_33 hk0 hk1 (off := 685) (tgt := 718) (by rw [hz]; rfl) (by decide) (lw_c_waits X hl hj h_waits hI G kk)
      · exact lv_tableIn X.1.1 X.1.2.1 dL_law_33 hk0 hk1 (off := 718) (tgt := 751) (by rw [hz]; rfl) (by decide) (lw_c_lots X hl hj h_lots hI G kk)
      · exact lv_tableIn X.1.1 X.1.2.1 dL_law_33 hk0 hk1 (off := 751) (tgt := 784) (by rw [hz]; rfl) (by decide) (lw_c_image X hl hj h_image hI G kk)
      · exact lv_tableIn X.1.1 X.1.2.1 dL_law_33 hk0 hk1 (off := 764) (tgt := 797) (by rw [hz]; rfl) (by decide) (lw_c_on X hl hj h_on hI G kk)
      · exact lv_tableIn X.1.1 X.1.2.1 dL_law_33 hk0 hk1 (off := 777) (tgt := 810) (by rw [hz]; rfl) (by decide) (lw_c_count X hl hj h_count hI G kk)
end LWC
