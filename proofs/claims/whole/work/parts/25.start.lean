def lw_adr (u v w : Nat → Nat) (k : Nat) : Nat := bif Nat.blt k 100 then u k else bif Nat.blt k 120 then v (k - 100) else w (k - 120)
def lw_tm (i : Nat) : Term := .string RX7 ([23, 80, 85, 87, 89].getD i 0)
theorem lw_adr1 (u v w : Nat → Nat) {i : Nat} (h : i < 5) : lw_adr u v w (100 + i) = v i := by
  rcases (show i = 0 ∨ i = 1 ∨ i = 2 ∨ i = 3 ∨ i = 4 by omega) with rfl | rfl | rfl | rfl | rfl <;> rfl
theorem lw_adr2 (u v w : Nat → Nat) {i : Nat} (h : i < 5) : lw_adr u v w (120 + i) = w i := by
  rcases (show i = 0 ∨ i = 1 ∨ i = 2 ∨ i = 3 ∨ i = 4 by omega) with rfl | rfl | rfl | rfl | rfl <;> rfl
def lw_need : List Cond := [.instantiable RX0 4, .instantiable RX1 8, .instantiable RX2 6, .instantiable RX3 4, .instantiable RX4 4, .instantiable RX5 4, .instantiable RX6 3, .instantiable RX7 2, .instantiable RX8 4, .instantiable RX9 4, .instantiable RX10 10, .instantiable RX11 28, .arrayClass .int, .arrayClass .long, .arrayClass .char, .arrayOver (.object RX4), .laysStatic RX10 "HIT_BY_HOW" "[I", .laysStatic RX10 "CAUGHT_BY_HOW" "[I", .laysStatic "java/lang/String" "COMPACT_STRINGS" "Z", .laysStatic "jdk/internal/util/Preconditions" "SIOOBE_FORMATTER" "Ljava/util/function/BiFunction;", .initialized RX10, .initialized "java/lang/String", .initialized "jdk/internal/util/Preconditions", .initialized RX11, .stringRef RX7 23 "", .stringRef RX7 80 "pqctwl", .stringRef RX7 85 "dkdd;", .stringRef RX7 87 "dd;", .stringRef RX7 89 "d;", .classLink RL 7 RX10, .classLink RL 10 RX11, .methodLink RL 9 yX10_init, .methodLink RL 12 yX11_init, .instanceMethod yX10_init, .instanceMethod yX11_init]
theorem lw_needs : ∀ w ∈ lw_need, w ∈ lw_tbl := by decide +kernel
theorem lw_nests : ∀ w ∈ cc_Nws, w ∈ lw_tbl := by decide +kernel
theorem lw_arr {args : Array Value} {s : State} {ty : FieldType} (hk : ∀ C, ty ≠ .object C) (h : (Cond.arrayClass ty).before args s = true) : ∃ cA : ClassId, ArrOfT s cA ty ∧ va_RA s cA ty := by
  obtain ⟨c, k, comp, h1, h2, h3⟩ := Cond.arrayClass_spec h
  refine ⟨c, fun n z => ⟨(fun k h => by cases h), k, h2, comp, h3⟩, ?_⟩
  cases ty <;> first | exact h1 | exact absurd rfl (hk _)
theorem lw_arrO {args : Array Value} {s : State} {C : String} (h : (Cond.arrayOver (.object C)).before args s = true) : ∃ cA : ClassId, ArrOfT s cA (.object C) ∧ va_RA s cA (.object C) := by
  obtain ⟨comp, c, k, h1, h2, h3, h4, h5⟩ := Cond.arrayOver_spec h
  exact ⟨c, fun n z => ⟨(fun k h => by cases h), k, h3, comp, h4⟩, k, comp, h3, h4, h1, h5⟩
theorem lw_know {args : Array Value} {s : State} (hts : ∀ w ∈ lw_tbl, w.before args s = true) : ∃ D cs, ck_K D cs s := by
  have hn : ∀ w ∈ lw_need, w.before args s = true := fun w h => hts w (lw_needs w h)
  obtain ⟨c0, i0, k0⟩ := u_known (C := RX0) (T := TX0) (N := 4) (n := 4) hts inX0 (hn (.instantiable RX0 4) (by decide +kernel))
  obtain ⟨c1, i1, k1⟩ := u_known (C := RX1) (T := TX1) (N := 8) (n := 8) hts inX1 (hn (.instantiable RX1 8) (by decide +kernel))
  obtain ⟨c2, i2, k2⟩ := u_known (C := RX2) (T := TX2) (N := 6) (n := 6) hts inX2 (hn (.instantiable RX2 6) (by decide +kernel))
  obtain ⟨c3, i3, k3⟩ := u_known (C := RX3) (T := TX3) (N := 4) (n := 4) hts inX3 (hn (.instantiable RX3 4) (by decide +kernel))
  obtain ⟨c4, i4, k4⟩ := u_known (C := RX4) (T := TX4) (N := 4) (n := 4) hts inX4 (hn (.instantiable RX4 4) (by decide +kernel))
  obtain ⟨c5, i5, k5⟩ := u_known (C := RX5) (T := TX5) (N := 4) (n := 4) hts inX5 (hn (.instantiable RX5 4) (by decide +kernel))
  obtain ⟨c6, i6, k6⟩ := u_known (C := RX6) (T := TX6) (N := 3) (n := 3) hts inX6 (hn (.instantiable RX6 3) (by decide +kernel))
  obtain ⟨c7, i7, k7⟩ := u_known (C := RX7) (T := TX7) (N := 2) (n := 2) hts inX7 (hn (.instantiable RX7 2) (by decide +kernel))
  obtain ⟨c8, i8, k8⟩ := u_known (C := RX8) (T := TX8) (N := 4) (n := 4) hts inX8 (hn (.instantiable RX8 4) (by decide +kernel))
  obtain ⟨c9, i9, k9⟩ := u_known (C := RX9) (T := TX9) (N := 4) (n := 4) hts inX9 (hn (.instantiable RX9 4) (by decide +kernel))
  obtain ⟨c10, i10, k10⟩ := u_known (C := RX10) (T := TX10) (N := 10) (n := 10) hts inX10 (hn (.instantiable RX10 10) (by decide +kernel))
  obtain ⟨c11, i11, k11⟩ := u_known (C := RX11) (T := TX11) (N := 28) (n := 28) hts inX11 (hn (.instantiable RX11 28) (by decide +kernel))
  obtain ⟨cI, hI, rI⟩ := lw_arr (fun _ h => by cases h) (hn (.arrayClass .int) (by decide +kernel))
  obtain ⟨cJ, hJ, rJ⟩ := lw_arr (fun _ h => by cases h) (hn (.arrayClass .long) (by decide +kernel))
  obtain ⟨cC, hC, rC⟩ := lw_arr (fun _ h => by cases h) (hn (.arrayClass .char) (by decide +kernel))
  have hO := hn (.arrayOver (.object RX4)) (by decide +kernel)
  obtain ⟨cP, hP, rP⟩ := lw_arrO hO
  refine ⟨(fun k => match k with | 0 => c0 | 1 => c1 | 2 => c2 | 3 => c3 | 4 => c4 | 5 => c5 | 6 => c6 | 7 => c7 | 8 => c8 | 9 => c9 | 10 => c10 | _ => c11, fun k => match k with | 0 => i0 | 1 => i1 | 2 => i2 | 3 => i3 | 4 => i4 | 5 => i5 | 6 => i6 | 7 => i7 | 8 => i8 | 9 => i9 | 10 => i10 | _ => i11), (cI, cJ, cC, cP), ⟨fun c q hq => ?_, fun k q hq => ?_⟩, fun w hw => va_Nw.of (cc_N_tabs w hw) (hts w (lw_nests w hw)), va_AO.of hO⟩
  · rcases (show c = 0 ∨ c = 1 ∨ c = 2 ∨ c = 3 ∨ c = 4 ∨ c = 5 ∨ c = 6 ∨ c = 7 ∨ c = 8 ∨ c = 9 ∨ c = 10 ∨ c = 11 ∨ 12 ≤ c by omega) with rfl | rfl | rfl | rfl | rfl | rfl | rfl | rfl | rfl | rfl | rfl | rfl | h
    · cases hq; exact k0
    · cases hq; exact k1
    · cases hq; exact k2
    · cases hq; exact k3
    · cases hq; exact k4
    · cases hq; exact k5
    · cases hq; exact k6
    · cases hq; exact k7
    · cases hq; exact k8
    · cases hq; exact k9
    · cases hq; exact k10
    · cases hq; exact k11
    · rw [List.getElem?_eq_none (by exact h)] at hq; cases hq
  · rcases (show k = 0 ∨ k = 1 ∨ k = 2 ∨ k = 3 ∨ 4 ≤ k by omega) with rfl | rfl | rfl | rfl | h
    · cases hq; exact ⟨hI, rI⟩
    · cases hq; exact ⟨hJ, rJ⟩
    · cases hq; exact ⟨hC, rC⟩
    · cases hq; exact ⟨hP, rP⟩
    · rw [List.getElem?_eq_none (by exact h)] at hq; cases hq
theorem lw_texts {b : Nat} {s : State} (hts : ∀ w ∈ lw_tbl, w.before #[Value.ref b] s = true) (hgv : (Jvm.Cond.and given_1 narrow_1).before #[Value.ref b] s = true) (D : va_G) (cs : ClassId × ClassId × ClassId × ClassId) (u : Nat → Nat) : ∃ (v w : Nat → Nat) (hb kb : Nat), cc_TB ((D, cs, lw_adr u v w, hb, kb) : cc_G) (lw_A s) s s.heap ∧ js_R (lw_adr u v w) s := by
  have hs := flat_of_before _ hgv
  have hn : ∀ w ∈ lw_need, w.before #[Value.ref b] s = true := fun w h => hts w (lw_needs w h)
  have hA : ∀ a : Nat, a < s.heap.size → ¬ lw_A s a := fun a h h' => absurd h (Nat.not_lt.mpr h')
  obtain ⟨h, hv, hT⟩ := va_Tof (tm := .static RX10 "HIT_BY_HOW" "[I") (ty := .int) (N := 3) (f := fun j => .int (cc_hb j)) (A := lw_A s) (by decide) (hs _ (by decide +kernel)) (va_eqt (hs (.eq (.length (.static RX10 "HIT_BY_HOW" "[I")) (.int 3)) (by decide +kernel))) (fun j hj => by
    rcases (show j = 0 ∨ j = 1 ∨ j = 2 by omega) with rfl | rfl | rfl
    · exact va_eqt (hs (.eq (.elem (.static RX10 "HIT_BY_HOW" "[I") (.int 0)) (.int (cc_hb 0))) (by decide +kernel))
    · exact va_eqt (hs (.eq (.elem (.static RX10 "HIT_BY_HOW" "[I") (.int 1)) (.int (cc_hb 1))) (by decide +kernel))
    · exact va_eqt (hs (.eq (.elem (.static RX10 "HIT_BY_HOW" "[I") (.int 2)) (.int (cc_hb 2))) (by decide +kernel))) hA
  have hZ := va_Zof (hn (.laysStatic RX10 "HIT_BY_HOW" "[I") (by decide +kernel)) (hn (.initialized RX10) (by decide +kernel)) hv hA
  obtain ⟨k, kv, kT⟩ := va_Tof (tm := .static RX10 "CAUGHT_BY_HOW" "[I") (ty := .int) (N := 3) (f := fun j => .int (cc_kb j)) (A := lw_A s) (by decide) (hs _ (by decide +kernel)) (va_eqt (hs (.eq (.length (.static RX10 "CAUGHT_BY_HOW" "[I")) (.int 3)) (by decide +kernel))) (fun j hj => by
    rcases (show j = 0 ∨ j = 1 ∨ j = 2 by omega) with rfl | rfl | rfl
    · exact va_eqt (hs (.eq (.elem (.static RX10 "CAUGHT_BY_HOW" "[I") (.int 0)) (.int (cc_kb 0))) (by decide +kernel))
    · exact va_eqt (hs (.eq (.elem (.static RX10 "CAUGHT_BY_HOW" "[I") (.int 1)) (.int (cc_kb 1))) (by decide +kernel))
    · exact va_eqt (hs (.eq (.elem (.static RX10 "CAUGHT_BY_HOW" "[I") (.int 2)) (.int (cc_kb 2))) (by decide +kernel))) hA
  have kZ := va_Zof (hn (.laysStatic RX10 "CAUGHT_BY_HOW" "[I") (by decide +kernel)) (hn (.initialized RX10) (by decide +kernel)) kv hA
  obtain ⟨v, w, hS, hv⟩ := vk_Sof (N := 5) (tm := lw_tm) (len := js_len) (byt := js_byt) (A := lw_A s) (fun i hi => by rcases (show i = 0 ∨ i = 1 ∨ i = 2 ∨ i = 3 ∨ i = 4 by omega) with rfl | rfl | rfl | rfl | rfl <;> decide)
    (fun i hi => by rcases (show i = 0 ∨ i = 1 ∨ i = 2 ∨ i = 3 ∨ i = 4 by omega) with rfl | rfl | rfl | rfl | rfl <;> exact hs _ (by decide +kernel))
    (fun i hi => by rcases (show i = 0 ∨ i = 1 ∨ i = 2 ∨ i = 3 ∨ i = 4 by omega) with rfl | rfl | rfl | rfl | rfl <;> exact hs _ (by decide +kernel))
    (fun i hi => by rcases (show i = 0 ∨ i = 1 ∨ i = 2 ∨ i = 3 ∨ i = 4 by omega) with rfl | rfl | rfl | rfl | rfl <;> exact hs _ (by decide +kernel))
    (fun i hi => by rcases (show i = 0 ∨ i = 1 ∨ i = 2 ∨ i = 3 ∨ i = 4 by omega) with rfl | rfl | rfl | rfl | rfl <;> exact hs _ (by decide +kernel))
    (fun i hi j hj => by
      have h6 : j < 6 := by rcases (show i = 0 ∨ i = 1 ∨ i = 2 ∨ i = 3 ∨ i = 4 by omega) with rfl | rfl | rfl | rfl | rfl <;> exact Nat.lt_of_lt_of_le hj (by decide)
      rcases (show i = 0 ∨ i = 1 ∨ i = 2 ∨ i = 3 ∨ i = 4 by omega) with rfl | rfl | rfl | rfl | rfl <;> rcases (show j = 0 ∨ j = 1 ∨ j = 2 ∨ j = 3 ∨ j = 4 ∨ j = 5 by omega) with rfl | rfl | rfl | rfl | rfl | rfl <;> first | exact absurd hj (by decide) | exact hs _ (by decide +kernel))
    (fun i j hi hj hne => by
      rcases (show i = 0 ∨ i = 1 ∨ i = 2 ∨ i = 3 ∨ i = 4 by omega) with rfl | rfl | rfl | rfl | rfl <;> rcases (show j = 0 ∨ j = 1 ∨ j = 2 ∨ j = 3 ∨ j = 4 by omega) with rfl | rfl | rfl | rfl | rfl <;> first | exact absurd rfl hne | exact Or.inl (hs _ (by decide +kernel)) | exact Or.inr (hs _ (by decide +kernel))) hA
  refine ⟨v, w, h, k, ⟨hZ, hT, kZ, kT, ⟨fun i hi => ?_, fun i j hi hj he => ?_⟩, ?_, ?_⟩, ?_⟩
  · show va_O _ (lw_adr u v w (100 + i)) _ _ _ ∧ va_OF _ _ _ _ (lw_adr u v w (100 + i)) _ _ _ ∧ va_OF _ _ _ (.ref (lw_adr u v w (120 + i))) (lw_adr u v w (100 + i)) _ _ _ ∧ va_T .byte (lw_adr u v w (120 + i)) _ _ _ _ _
    rw [lw_adr1 u v w hi, lw_adr2 u v w hi]
    exact hS.1 i hi
  · have he : lw_adr u v w (100 + i) = lw_adr u v w (100 + j) := he
    rw [lw_adr1 u v w hi, lw_adr1 u v w hj] at he
    exact hS.2 i j hi hj he
  · exact va_Zof (hn (.laysStatic "java/lang/String" "COMPACT_STRINGS" "Z") (by decide +kernel)) (hn (.initialized "java/lang/String") (by decide +kernel)) (va_eqi (hs _ (by decide +kernel))) hA
  · exact va_Zqof (hn (.laysStatic "jdk/internal/util/Preconditions" "SIOOBE_FORMATTER" "Ljava/util/function/BiFunction;") (by decide +kernel)) (hn (.initialized "jdk/internal/util/Preconditions") (by decide +kernel)) (hs _ (by decide +kernel)) hA
  · exact ⟨vk_R.of (hn (.stringRef RX7 23 "") (by decide +kernel)) (hv 0 (by decide)), vk_R.of (hn (.stringRef RX7 80 "pqctwl") (by decide +kernel)) (hv 1 (by decide)), vk_R.of (hn (.stringRef RX7 85 "dkdd;") (by decide +kernel)) (hv 2 (by decide)), vk_R.of (hn (.stringRef RX7 87 "dd;") (by decide +kernel)) (hv 3 (by decide)), vk_R.of (hn (.stringRef RX7 89 "d;") (by decide +kernel)) (hv 4 (by decide))⟩
theorem va_P.left {D : va_G} {cl : List vw_C} {w1 w2 : va_W} {H : Heap} (h : va_P D cl (w1 ++ w2) H) : va_P D cl w1 H := fun k q hk => h k q (by rw [List.getElem?_append_left (List.getElem?_eq_some_iff.mp hk).1]; exact hk)
theorem va_P.last {D : va_G} {cl : List vw_C} {w1 : va_W} {x : Nat × va_E} {H : Heap} (h : va_P D cl (w1 ++ [x]) H) : va_P D cl [x] H := fun k q hk => by
  rcases k with _ | k
  · exact h w1.length q (by rw [List.getElem?_append_right (Nat.le_refl _), Nat.sub_self]; exact hk)
  · cases hk
theorem va_D.left {A : Nat → Prop} {w1 w2 : va_W} (h : va_D A (w1 ++ w2)) : va_D A w1 := by
  have e : ∀ (k : Nat) (q : Nat × va_E), w1[k]? = some q → (w1 ++ w2)[k]? = some q := fun k q hk => by rw [List.getElem?_append_left (List.getElem?_eq_some_iff.mp hk).1]; exact hk
  exact ⟨fun i j p q hi hj he => h.1 i j p q (e i p hi) (e j q hj) he, fun k q hk => h.2 k q (e k q hk)⟩
theorem va_D.ne {A : Nat → Prop} {w1 : va_W} {x : Nat × va_E} (h : va_D A (w1 ++ [x])) {k : Nat} {q : Nat × va_E} (hk : w1[k]? = some q) : q.1 ≠ x.1 := fun he => by
  have hlt := (List.getElem?_eq_some_iff.mp hk).1
  have e1 : (w1 ++ [x])[k]? = some q := by rw [List.getElem?_append_left hlt]; exact hk
  have e2 : (w1 ++ [x])[w1.length]? = some x := by rw [List.getElem?_append_right (Nat.le_refl _), Nat.sub_self]; rfl
  have := h.1 k w1.length q x e1 e2 he
  omega
theorem va_D.lastA {A : Nat → Prop} {w1 : va_W} {x : Nat × va_E} (h : va_D A (w1 ++ [x])) : A x.1 := h.2 w1.length x (by rw [List.getElem?_append_right (Nat.le_refl _), Nat.sub_self]; rfl)
theorem va_P.nil {D : va_G} {cl : List vw_C} {H : Heap} : va_P D cl [] H := fun _ _ h => by cases h
theorem va_D.nil {A : Nat → Prop} : va_D A [] := ⟨fun _ _ _ _ h _ _ => (by cases h), fun _ _ h => (by cases h)⟩
abbrev lw_e10 : va_E := .inr (10, [.null, .null, .null, .null, .int 0, .null, .null, .int 0, .null, .int 0])
abbrev lw_e11 : va_E := .inr (11, [.null, .null, .null, .null, .null, .null, .null, .null, .null, .int 0, .int 0, .int 0, .null, .null, .null, .null, .int 0, .int 0, .int 0, .null, .int 0, .int 0, .int 0, .null, .null, .null, .int 0, .int 0])
abbrev lw_pls (u : Nat → Nat) : va_W := [(u 200, .inr (4, [.int 0, .int 0, .int 0, .int 0])), (u 201, .inr (4, [.int 0, .int 0, .int 0, .int 0])), (u 202, .inr (4, [.int 0, .int 0, .int 0, .int 0]))]
theorem lw_ok0 (u : Nat → Nat) : cc_ok (fun c _ => u (200 + c)) (lw_pls u) cc_q0 := by
  refine ⟨fun c hc j _ => ?_, fun x hx => ?_⟩
  · rcases (show c = 0 ∨ c = 1 ∨ c = 2 by omega) with rfl | rfl | rfl
    · exact List.mem_of_getElem? (i := 0) rfl
    · exact List.mem_of_getElem? (i := 1) rfl
    · exact List.mem_of_getElem? (i := 2) rfl
  · refine ⟨(4, fun _ => 0), ?_, Or.inr (Or.inr (Or.inl rfl))⟩
    rcases List.mem_cons.mp hx with rfl | hx
    · rfl
    rcases List.mem_cons.mp hx with rfl | hx
    · rfl
    rcases List.mem_cons.mp hx with rfl | hx
    · rfl
    · cases hx
theorem lw_begin {p : Program} {e : Env} {s : State} {m : MethodId} {below : List Frame} {meth : Method} {c : Code} (l : Launch) {b L : Nat} {xs : Nat → Int32} (hL : L ≤ 3584) (C0 : lw_At p s m meth c b L xs) {Inv : Nat → cc_S → rr_S → Prop} (hI0 : Inv 0 cc_q0 rr_q0) (h_skip : ∀ (j : Nat) (q : cc_S) (r : rr_S), j < 512 → Inv j q r → Inv (j + 1) q r) (h_letter : lw_S1 Inv C_letter R_letter) (h_hall : lw_S0 Inv C_hall R_hall) (h_player : lw_S2 Inv C_player R_player) (h_ball : lw_S2 Inv C_ball R_ball) (h_odds : lw_S4 Inv C_odds R_odds) (h_throwIt : lw_S4 Inv C_throwIt R_throwIt) (h_take : lw_S2 Inv C_take R_take) (h_pass : lw_S1 Inv C_pass R_pass) (h_best : lw_S2 Inv C_best R_best) (h_two : lw_S4 Inv C_two R_two) (h_worth : lw_S1 Inv C_worth R_worth) (h_duel : lw_S6 Inv C_duel R_duel) (h_game : lw_S3 Inv C_game R_game) (h_row : lw_S1 Inv C_row R_row) (h_judge : lw_S0 Inv C_judge R_judge) (h_ends : lw_S0 Inv C_ends R_ends) (h_clear : lw_S0 Inv C_clear R_clear) (h_whose : lw_S1 Inv C_whose R_whose) (h_waits : lw_S2 Inv C_waits R_waits) (h_lots : lw_S2 Inv C_lots R_lots) (h_image : lw_S0 Inv C_image R_image) (h_on : lw_S0 Inv C_on R_on) (h_count : lw_Sc Inv) : W p l e room_1 s m #[Value.ref b] below meth c s.heap [] 0 0 (lw_Z below #[Value.ref b] s) (entryFrame m ([Value.ref b] : List Value).toArray 4) := by
  obtain ⟨hx, hcd, hr, hml, hown, hts, hX, hbl, hlk, hgv⟩ := C0
  have hb : c.code = cL_law := hcd.trans rfl
  have S : CallFix p m c cL_law 4 s #[Value.ref b] lw_tbl RL := ⟨hx, hb, hml, hown, hts⟩
  have hn : ∀ w ∈ lw_need, w.before #[Value.ref b] s = true := fun w h => hts w (lw_needs w h)
  obtain ⟨D, cs, hK⟩ := lw_know hts
  have hl := lv_entry ([.ref b]) (n := 4) (Nat.le_of_ble_eq_true rfl)
  rw [lg_entry_eq]
  generalize (lg_sl ([.ref b]) ++ List.replicate (4 - (lg_sl ([.ref b])).length) Slot.unset).toArray = ls at hl ⊢
  have hl : lv_has ls 4 [(0, .ref b)] := hl
  have hA : ∀ q : Nat, s.heap.size ≤ q → lw_A s q := fun q h => h
  have hS : va_S (lw_A s) s.heap s.heap [] := va_S.rf
  refine va_new (D := D) (ws := []) (A := lw_A s) (ci := 10) (fs := [.null, .null, .null, .null, .int 0, .null, .null, .int 0, .null, .int 0]) (C := RX10) (T := TX10) (N := 10) hx hb hts inX10 tyX10 tyX10_ok hown (hn (.classLink RL 7 RX10) (by decide +kernel)) (hn (.instantiable RX10 10) (by decide +kernel)) (hn (.initialized RX10) (by decide +kernel)) hK.1 va_P.nil va_D.nil hS hA rfl (fun j hj => by rcases (show j = 0 ∨ j = 1 ∨ j = 2 ∨ j = 3 ∨ j = 4 ∨ j = 5 ∨ j = 6 ∨ j = 7 ∨ j = 8 ∨ j = 9 by omega) with rfl | rfl | rfl | rfl | rfl | rfl | rfl | rfl | rfl | rfl <;> rfl) (Nat.le_of_ble_eq_true rfl) (Nat.le_of_ble_eq_true rfl) dL_law_0 (fun q1 H hP hD hS => ?_)
  have hP : va_P D vwCl [(q1, lw_e10)] H := hP
  have hD : va_D (lw_A s) [(q1, lw_e10)] := hD
  refine lv_dup hx hb dL_law_3 rfl ?_
  have hFc := va_free (wc := [(q1, lw_e10)]) hD hS hA [0] rfl
  refine va_callv (va_runI (As := []) (rest := [.ref q1]) S (ctX10_init l D cs q1 _) (cwI 0 hts tg_X10_init rfl rfl rfl (hn (.initialized RX10) (by decide +kernel)) (hn (.methodLink RL 9 yX10_init) (by decide +kernel)) (hn (.instanceMethod yX10_init) (by decide +kernel)) rfl (by decide +kernel) ⟨(Nat.le_of_ble_eq_true rfl), (Nat.le_of_ble_eq_true rfl)⟩) ⟨ck_blind _ _ _, fun U hU hW => ⟨rfl, by rw [hU], by rw [hU]; exact hP, ck_at hK hW⟩⟩ rfl rfl hl.1 rfl (lv_room (Nat.le_of_ble_eq_true rfl)) dL_law_4 ⟨(Nat.le_of_ble_eq_true rfl), (Nat.le_of_ble_eq_true rfl)⟩) hS (fun q _ h => hFc q h) hFc (fun u t H1 locs ht hvm hw hB hz1 hk1 hS => ?_)
  obtain ⟨hP1, hD1⟩ := hB
  rw [ht] at hP1
  have hD1 := hD1.weaken (B := lw_A s) (fun _ q _ h => hFc q.1 h)
  refine lv_astore_n (lv' := [(1, .ref q1), (0, .ref b)]) hx hb dL_law_7 rfl hl (by decide) rfl (fun ls hl => ?_)
  refine va_new (ci := 11) (fs := [.null, .null, .null, .null, .null, .null, .null, .null, .null, .int 0, .int 0, .int 0, .null, .null, .null, .null, .int 0, .int 0, .int 0, .null, .int 0, .int 0, .int 0, .null, .null, .null, .int 0, .int 0]) (C := RX11) (T := TX11) (N := 28) hx hb hts inX11 tyX11 tyX11_ok hown (hn (.classLink RL 10 RX11) (by decide +kernel)) (hn (.instantiable RX11 28) (by decide +kernel)) (hn (.initialized RX11) (by decide +kernel)) hK.1 hP1 hD1 hS hA rfl (fun j hj => by rcases (show j = 0 ∨ j = 1 ∨ j = 2 ∨ j = 3 ∨ j = 4 ∨ j = 5 ∨ j = 6 ∨ j = 7 ∨ j = 8 ∨ j = 9 ∨ j = 10 ∨ j = 11 ∨ j = 12 ∨ j = 13 ∨ j = 14 ∨ j = 15 ∨ j = 16 ∨ j = 17 ∨ j = 18 ∨ j = 19 ∨ j = 20 ∨ j = 21 ∨ j = 22 ∨ j = 23 ∨ j = 24 ∨ j = 25 ∨ j = 26 ∨ j = 27 by omega) with rfl | rfl | rfl | rfl | rfl | rfl | rfl | rfl | rfl | rfl | rfl | rfl | rfl | rfl | rfl | rfl | rfl | rfl | rfl | rfl | rfl | rfl | rfl | rfl | rfl | rfl | rfl | rfl <;> rfl) (Nat.le_of_ble_eq_true rfl) (Nat.le_of_ble_eq_true rfl) dL_law_8 (fun q2 H2 hP2 hD2 hS => ?_)
  refine lv_dup hx hb dL_law_11 rfl ?_
  have hF2 : ∀ q, va_A [(q2, lw_e11)] H2.size q → lw_A s q := fun q h => by
    rcases h with ⟨k, e, hk⟩ | h
    · rcases k with _ | k
      · cases hk; exact hD2.lastA
      · cases hk
    · exact Nat.le_trans hS.1 h
  refine va_callv (va_runI (As := []) (rest := [.ref q2]) S (ctX11_init l D cs q2 _) (cwI 0 hts tg_X11_init rfl rfl rfl (hn (.initialized RX11) (by decide +kernel)) (hn (.methodLink RL 12 yX11_init) (by decide +kernel)) (hn (.instanceMethod yX11_init) (by decide +kernel)) rfl (by decide +kernel) ⟨(Nat.le_of_ble_eq_true rfl), (Nat.le_of_ble_eq_true rfl)⟩) ⟨ck_blind _ _ _, fun U hU hW => ⟨rfl, by rw [hU], by rw [hU]; exact hP2.last, ck_at hK hW⟩⟩ rfl rfl hl.1 rfl (lv_room (Nat.le_of_ble_eq_true rfl)) dL_law_12 ⟨(Nat.le_of_ble_eq_true rfl), (Nat.le_of_ble_eq_true rfl)⟩) hS (fun q _ h => hF2 q h) hF2 (fun ad t3 H3 locs3 ht3 hvm3 hw3 hB3 hz3 hk3 hS3 => ?_)
  obtain ⟨hP3, hD3⟩ := hB3
  rw [ht3] at hP3
  refine lv_astore_n (lv' := [(2, .ref q2), (1, .ref q1), (0, .ref b)]) hx hb dL_law_15 rfl hl (by decide) rfl (fun ls hl => ?_)
  refine lv_iconst (v := 0) hx hb dL_law_16 (by decide) ?_
  refine lv_istore_n (lv' := [(3, .int 0), (2, .ref q2), (1, .ref q1), (0, .ref b)]) hx hb dL_law_17 rfl hl (by decide) rfl (fun ls hl => ?_)
  obtain ⟨v, w, hb', kb, hTB, hR⟩ := lw_texts hts hgv D cs (lw_o 0 q1 u)
  have G : lw_H ((D, cs, lw_adr (lw_o 0 q1 u) v w, hb', kb) : cc_G) (lw_o 28 q2 ad) (lw_A s) (lw_pls u) cc_q0 rr_q0 s H3 locs3 := by
    have hPl := hP2.left
    have hDl := hD2.left
    refine ⟨⟨fun c _ => u (200 + c), lw_ok0 u, ?_, hDl, fun i j z y hz hy => ?_⟩, hP3, hD3.weaken (fun k z _ h => hF2 z.1 h), hS3⟩
    · refine va_P.kept (H := H2) hPl (fun k x hx => ?_)
      have hx1 : x.1 < H2.size := va_at.lt (hPl k x hx)
      refine hk3 x.1 hx1 (fun h => ?_)
      rcases h with ⟨k2, e2, hk2⟩ | h
      · rcases k2 with _ | k2
        · cases hk2; exact hD2.ne hx rfl
        · cases hk2
      · omega
    · have hz1 : z.1 < H2.size := va_at.lt (hPl i z hz)
      rcases hD3.2 j y hy with ⟨k2, e2, hk2⟩ | h
      · rcases k2 with _ | k2
        · cases hk2; exact hD2.ne hz
        · cases hk2
      · intro he; omega
  have X : lw_Ctx p s m c b L xs ((D, cs, lw_adr (lw_o 0 q1 u) v w, hb', kb) : cc_G) := ⟨S, ⟨hK.1, hK.2.1, hTB, hR⟩, hX, hbl, hL⟩
  have hl' : lv_has ls 4 (lw_ls ((D, cs, lw_adr (lw_o 0 q1 u) v w, hb', kb) : cc_G) (lw_o 28 q2 ad) b 0) := by
    exact hl
  exact W.widen (Nat.le_of_ble_eq_true rfl) (Nat.le_of_ble_eq_true rfl) (lw_loop hr hlk hcd X h_skip h_letter h_hall h_player h_ball h_odds h_throwIt h_take h_pass h_best h_two h_worth h_duel h_game h_row h_judge h_ends h_clear h_whose h_waits h_lots h_image h_on h_count L 0 ls (lw_pls u) cc_q0 rr_q0 H3 locs3 (by omega) (by decide) hl' hI0 G)
