/-! the landed side: its state, the cells that hold it, rows for its methods -/
abbrev cc_PD : Type := Nat × (Nat → Int32)
abbrev cc_CT : Type := rr_S × (Nat → rr_S) × (Nat → cc_PD)
abbrev cc_S : Type := rr_S × rr_S × (Nat → cc_CT) × rr_S
abbrev cc_G : Type := va_G × (ClassId × ClassId × ClassId × ClassId) × (Nat → Nat) × Nat × Nat
abbrev cc_cI (g : cc_G) : ClassId := g.2.1.1
abbrev cc_cJ (g : cc_G) : ClassId := g.2.1.2.1
abbrev cc_cC (g : cc_G) : ClassId := g.2.1.2.2.1
abbrev cc_cP (g : cc_G) : ClassId := g.2.1.2.2.2
abbrev cc_ad (g : cc_G) (k : Nat) : Nat := g.2.2.1 k
def cc_mi (q : cc_S) (k : Nat) (v : Int32) : cc_S := (rr_I q.1 k v, q.2)
def cc_ma (q : cc_S) (k i : Nat) (v : Int32) : cc_S := (rr_A q.1 k i v, q.2)
def cc_gC (q : cc_S) (c : Nat) : cc_CT := q.2.2.1 c
def cc_gT (q : cc_S) : rr_S := q.2.1
def cc_gD (q : cc_S) : rr_S := q.2.2.2
def cc_pC (q : cc_S) (c : Nat) (x : cc_CT) : cc_S := (q.1, q.2.1, (fun j => if j = c then x else q.2.2.1 j), q.2.2.2)
def cc_pT (q : cc_S) (x : rr_S) : cc_S := (q.1, x, q.2.2)
def cc_pD (q : cc_S) (x : rr_S) : cc_S := (q.1, q.2.1, q.2.2.1, x)
def cc_ci (x : cc_CT) (k : Nat) (v : Int32) : cc_CT := (rr_I x.1 k v, x.2)
def cc_ca (x : cc_CT) (k i : Nat) (v : Int32) : cc_CT := (rr_A x.1 k i v, x.2)
def cc_gS (x : cc_CT) (sd : Nat) : rr_S := x.2.1 sd
def cc_kS (x : cc_CT) (sd : Nat) (y : rr_S) : cc_CT := (x.1, (fun j => if j = sd then y else x.2.1 j), x.2.2)
def cc_kP (x : cc_CT) (i : Nat) (d : cc_PD) : cc_CT := (x.1, x.2.1, fun j => if j = i then d else x.2.2 j)
def cc_pS (q : cc_S) (c : Nat) (x : cc_CT) (sd : Nat) (y : rr_S) : cc_S := cc_pC q c (cc_kS x sd y)
def cc_id (q : cc_S) : cc_S := q
theorem cc_pgC (q : cc_S) (c : Nat) : cc_pC q c (cc_gC q c) = q := by
  obtain ⟨a, b, f, d⟩ := q
  show (a, b, (fun j => if j = c then f c else f j), d) = (a, b, f, d)
  have h : (fun j => if j = c then f c else f j) = f := by
    funext j
    by_cases h : j = c
    · rw [if_pos h, h]
    · rw [if_neg h]
  rw [h]
theorem cc_kgS (x : cc_CT) (sd : Nat) : cc_kS x sd (cc_gS x sd) = x := by
  obtain ⟨a, f, d⟩ := x
  show (a, (fun j => if j = sd then f sd else f j), d) = (a, f, d)
  have h : (fun j => if j = sd then f sd else f j) = f := by
    funext j
    by_cases h : j = sd
    · rw [if_pos h, h]
    · rw [if_neg h]
  rw [h]
theorem cc_pgS (q : cc_S) (c : Nat) (x : cc_CT) (sd : Nat) : cc_pS q c x sd (cc_gS x sd) = cc_pC q c x := by unfold cc_pS; rw [cc_kgS]
theorem cc_pgS0 (q : cc_S) (c : Nat) (sd : Nat) : cc_pS q c (cc_gC q c) sd (cc_gS (cc_gC q c) sd) = q := by rw [cc_pgS, cc_pgC]
theorem cc_pgT (q : cc_S) : cc_pT q (cc_gT q) = q := rfl
theorem cc_pgD (q : cc_S) : cc_pD q (cc_gD q) = q := rfl
def cc_plc (d : cc_PD) : va_E := .inr (d.1, [.int (d.2 0), .int (d.2 1), .int (d.2 2), .int (d.2 3)])
def cc_mF (g : cc_G) (q : cc_S) : List Value := [.ref (cc_ad g 1), .ref (cc_ad g 10), .ref (cc_ad g 30), .ref (cc_ad g 50), .int (q.1.1 4), .ref (cc_ad g 3), .ref (cc_ad g 6), .int (q.1.1 7), .ref (cc_ad g 7), .int (q.1.1 9)]
def cc_tF (g : cc_G) (x : rr_S) : List Value := [.ref (cc_ad g 2), .int (x.1 1)]
def cc_dF (g : cc_G) (x : rr_S) : List Value := [.ref (cc_ad g 4), .ref (cc_ad g 5), .int (x.1 2), .int (x.1 3), .int (x.1 4), .long (x.2.2 5 0)]
def cc_cF (g : cc_G) (b : Nat) (x : cc_CT) : List Value := [.ref (cc_ad g (b + 1)), .int (x.1.1 1), .ref (cc_ad g (b + 2)), .ref (cc_ad g (b + 4)), .ref (cc_ad g (b + 6)), .ref (cc_ad g (b + 7)), .ref (cc_ad g (b + 8)), .int (x.1.1 7)]
def cc_sF (g : cc_G) (b : Nat) (y : rr_S) : List Value := [.int (y.1 0), .ref (cc_ad g (b + 1)), .int (y.1 2)]
def cc_cW (g : cc_G) (b : Nat) (pa : Nat → Nat) (x : cc_CT) (r : va_W) : va_W := (cc_ad g b, .inr (1, cc_cF g b x)) :: (cc_ad g (b + 1), .inl (cc_cP g, 8, .inr (.inr (.inr (.inr (fun j => some (pa j))))))) :: (cc_ad g (b + 2), .inr (6, cc_sF g (b + 2) (x.2.1 0))) :: (cc_ad g (b + 3), .inl (cc_cI g, 8, .inl ((x.2.1 0).2.1 1))) :: (cc_ad g (b + 4), .inr (6, cc_sF g (b + 4) (x.2.1 1))) :: (cc_ad g (b + 5), .inl (cc_cI g, 8, .inl ((x.2.1 1).2.1 1))) :: (cc_ad g (b + 6), .inl (cc_cI g, 6, .inl (x.1.2.1 4))) :: (cc_ad g (b + 7), .inl (cc_cI g, 6, .inl (x.1.2.1 5))) :: (cc_ad g (b + 8), .inl (cc_cI g, 6, .inl (x.1.2.1 6))) :: r
def cc_F (g : cc_G) (pa : Nat → Nat → Nat) (pls : va_W) (q : cc_S) : va_W := (cc_ad g 0, .inr (10, cc_mF g q)) :: (cc_ad g 6, .inl (cc_cI g, 12, .inl (q.1.2.1 6))) :: (cc_ad g 7, .inl (cc_cI g, 7, .inl (q.1.2.1 8))) :: (cc_ad g 1, .inr (7, cc_tF g q.2.1)) :: (cc_ad g 2, .inl (cc_cC g, 80, .inl (q.2.1.2.1 0))) :: (cc_ad g 3, .inr (2, cc_dF g q.2.2.2)) :: (cc_ad g 4, .inl (cc_cJ g, 25, .inr (.inl (q.2.2.2.2.2 0)))) :: (cc_ad g 5, .inl (cc_cJ g, 25, .inr (.inl (q.2.2.2.2.2 1)))) :: cc_cW g 10 (pa 0) (q.2.2.1 0) (cc_cW g 30 (pa 1) (q.2.2.1 1) (cc_cW g 50 (pa 2) (q.2.2.1 2) pls))
abbrev cc_T (g : cc_G) : List (ClassId × FieldType) := [(cc_cI g, .int), (cc_cJ g, .long), (cc_cC g, .char), (cc_cP g, .object RX4)]
def cc_isP (k : Nat) : Prop := k = 0 ∨ k = 3 ∨ k = 4 ∨ k = 5 ∨ k = 8 ∨ k = 9
def cc_okp (pls : va_W) : Prop := ∀ x ∈ pls, ∃ d, x.2 = cc_plc d ∧ cc_isP d.1
def cc_ok (pa : Nat → Nat → Nat) (pls : va_W) (q : cc_S) : Prop := (∀ c, c < 3 → ∀ j, j < 8 → (pa c j, cc_plc ((q.2.2.1 c).2.2 j)) ∈ pls) ∧ cc_okp pls
def cc_Nws : List Cond := [.fieldLinkNest RX10 132 RX1 "tenth" "I" RX10, .fieldLinkNest RX10 182 RX2 "all" "J" RX10, .fieldLinkNest RX10 202 RX1 "playerCount" "I" RX10, .fieldLinkNest RX10 55 RX7 "length" "I" RX10, .fieldLinkNest RX1 131 RX10 "HIT_BY_HOW" "[I" RX10, .fieldLinkNest RX1 140 RX10 "CAUGHT_BY_HOW" "[I" RX10, .fieldLinkNest RX1 69 RX6 "in" "I" RX10, .fieldLinkNest RX1 72 RX4 "side" "I" RX10, .fieldLinkNest RX1 75 RX4 "kind" "I" RX10, .methodLinkNest RX1 128 yX10_isHow RX10, .methodLinkNest RX1 134 yX10_withinOdds RX10, .methodLinkNest RX1 154 yX10_isSide RX10, .methodLinkNest RX1 95 yX10_isBall RX10, .methodLinkNest RX7 59 yX10_newPlayer RX10, .castable RX0 RX4, .castable RX3 RX4, .castable RX5 RX4, .castable RX8 RX4, .castable RX9 RX4, .methodLinkNest RX10 31 yX2_init RX10, .methodLinkNest RX10 9 yX7_init RX10, .methodLinkNest RX1 19 yX6_init RX10]
def cc_N (U : State) : Prop := ∀ w ∈ cc_Nws, va_Nw w U
theorem cc_N_tabs : ∀ w ∈ cc_Nws, w.onTables = true := by decide +kernel
theorem cc_N.same {u U : State} (h : u.vm = U.vm) (hN : cc_N u) : cc_N U := fun w hw => va_Nw.same (cc_N_tabs w hw) h (hN w hw)
theorem cc_N.warm {s U : State} (hW : s.WarmedH U.vm) (hN : cc_N s) : cc_N U := by
  have f : ∀ {a : String} {i : Nat} {b n d h : String}, va_Nw (.fieldLinkNest a i b n d h) s → va_Nw (.fieldLinkNest a i b n d h) U := fun z => va_Nw.warmF hW z
  have m : ∀ {a : String} {i : Nat} {x : MethodName} {h : String}, va_Nw (.methodLinkNest a i x h) s → va_Nw (.methodLinkNest a i x h) U := fun z => va_Nw.warmM hW z
  have k : ∀ {a b : String}, va_Nw (.castable a b) s → va_Nw (.castable a b) U := fun z => va_Nw.warmC hW z
  intro w hw
  have hn := hN w hw
  simp only [cc_Nws, List.mem_cons, List.not_mem_nil, or_false] at hw
  rcases hw with rfl | rfl | rfl | rfl | rfl | rfl | rfl | rfl | rfl | rfl | rfl | rfl | rfl | rfl | rfl | rfl | rfl | rfl | rfl | rfl | rfl | rfl <;> first | exact f hn | exact m hn | exact k hn
def cc_hb (j : Nat) : Int32 := if j = 0 then 4 else if j = 1 then 2 else -4
def cc_kb (j : Nat) : Int32 := if j = 0 then -3 else if j = 1 then 0 else 8
/-! the five texts of the landed side: "", "pqctwl", "dkdd;", "dd;", "d;" -/
def js_len : List Nat := [0, 6, 5, 3, 2]
def js_byt : List (List Int32) := [[], [112, 113, 99, 116, 119, 108], [100, 107, 100, 100, 59], [100, 100, 59], [100, 59]]
def js_R (ad : Nat → Nat) (U : State) : Prop := vk_R RX7 23 "" (ad 100) U ∧ vk_R RX7 80 "pqctwl" (ad 101) U ∧ vk_R RX7 85 "dkdd;" (ad 102) U ∧ vk_R RX7 87 "dd;" (ad 103) U ∧ vk_R RX7 89 "d;" (ad 104) U
theorem js_R.same {ad : Nat → Nat} {u U : State} (hv : U.vm = u.vm) (h : js_R ad u) : js_R ad U := ⟨h.1.same hv, h.2.1.same hv, h.2.2.1.same hv, h.2.2.2.1.same hv, h.2.2.2.2.same hv⟩
theorem js_R.warm {ad : Nat → Nat} {s U : State} (hW : s.WarmedH U.vm) (h : js_R ad s) : js_R ad U := ⟨h.1.warm hW, h.2.1.warm hW, h.2.2.1.warm hW, h.2.2.2.1.warm hW, h.2.2.2.2.warm hW⟩
def js_Z (ad : Nat → Nat) (A : Nat → Prop) (U : State) (H : Heap) : Prop := vk_S 5 js_len js_byt (fun i => ad (100 + i)) (fun i => ad (120 + i)) A U H ∧ va_Z "java/lang/String" "COMPACT_STRINGS" "Z" (.int 1) A U H ∧ va_Zq "jdk/internal/util/Preconditions" "SIOOBE_FORMATTER" "Ljava/util/function/BiFunction;" A U H
theorem js_Z.moved {ad : Nat → Nat} {A : Nat → Prop} {u U : State} {H : Heap} (hvm : u.vm.Alike U.vm) (h : js_Z ad A u H) : js_Z ad A U H := ⟨h.1.moved hvm, h.2.1.moved hvm, h.2.2.moved hvm⟩
theorem js_Z.kept {ad : Nat → Nat} {A : Nat → Prop} {U : State} {H H1 : Heap} (h : js_Z ad A U H) (hq : ∀ a : Nat, a < H.size → ¬ A a → H1[a]? = H[a]?) : js_Z ad A U H1 := ⟨h.1.kept hq, h.2.1.kept hq, h.2.2.kept hq⟩
def js_K (ad : Nat → Nat) (A : Nat → Prop) (U : State) (H : Heap) : Prop := js_Z ad A U H ∧ js_R ad U
def cc_TB (g : cc_G) (A : Nat → Prop) (U : State) (H : Heap) : Prop := va_Z RX10 "HIT_BY_HOW" "[I" (.ref g.2.2.2.1) A U H ∧ va_T .int g.2.2.2.1 3 (fun j => .int (cc_hb j)) A U H ∧ va_Z RX10 "CAUGHT_BY_HOW" "[I" (.ref g.2.2.2.2) A U H ∧ va_T .int g.2.2.2.2 3 (fun j => .int (cc_kb j)) A U H ∧ js_Z g.2.2.1 A U H
theorem cc_TB.moved {g : cc_G} {A : Nat → Prop} {u U : State} {H : Heap} (hvm : u.vm.Alike U.vm) (h : cc_TB g A u H) : cc_TB g A U H := ⟨h.1.moved hvm, h.2.1.moved hvm, h.2.2.1.moved hvm, h.2.2.2.1.moved hvm, h.2.2.2.2.moved hvm⟩
theorem cc_TB.kept {g : cc_G} {A : Nat → Prop} {U : State} {H H1 : Heap} (h : cc_TB g A U H) (hq : ∀ a : Nat, a < H.size → ¬ A a → H1[a]? = H[a]?) : cc_TB g A U H1 := ⟨h.1.kept hq, h.2.1.kept hq, h.2.2.1.kept hq, h.2.2.2.1.kept hq, h.2.2.2.2.kept hq⟩
/-- what the machine knows: kinds, links between nest mates, the two tables -/
def cc_K (g : cc_G) (A : Nat → Prop) (U : State) (H : Heap) : Prop := va_K g.1 vwCl (cc_T g) U ∧ cc_N U ∧ cc_TB g A U H ∧ js_R g.2.2.1 U
def cc_X (p : Program) (m : MethodId) (c : Code) (cc : ByteArray) (nL : Nat) (s : State) (args : Array Value) (Ts : List Cond) (own : String) (g : cc_G) (A : Nat → Prop) : Prop := CallFix p m c cc nL s args Ts own ∧ cc_K g A s s.heap ∧ ∀ x, s.heap.size ≤ x → A x
def cc_H (g : cc_G) (A : Nat → Prop) (pls : va_W) (q : cc_S) (s : State) (H : Heap) (locs : List Loc) : Prop := (∃ pa, cc_ok pa pls q ∧ va_P g.1 vwCl (cc_F g pa pls q) H ∧ va_D A (cc_F g pa pls q)) ∧ va_S A s.heap H locs
abbrev cc_B (g : cc_G) (A : Nat → Prop) (pls : va_W) (q : cc_S) (U : State) : Prop := (∃ pa, cc_ok pa pls q ∧ va_P g.1 vwCl (cc_F g pa pls q) U.heap ∧ va_D A (cc_F g pa pls q)) ∧ cc_K g A U U.heap
abbrev cc_Pre (g : cc_G) (A : Nat → Prop) (pls : va_W) (q : cc_S) (av : List Value) (sz : Nat) : Array Value → State → Prop := va_Pc av (fun U => U.heap.size = sz ∧ cc_B g A pls q U)
def cc_Mi (l : Launch) (y : MethodName) (ws : List Cond) (rm : Room) (g : cc_G) (pls : va_W) (av : List Value) (q : cc_S) (r : Int32) (q1 : cc_S) : Prop := ∀ (sz : Nat) (A : Nat → Prop), (∀ x, sz ≤ x → A x) → Met l y ws rm (cc_Pre g A pls q av sz) (va_Qi (fun (x : Int32) (u : cc_S) => x = r ∧ u = q1) (cc_B g A pls) A) 0 0 A
def cc_Ml (l : Launch) (y : MethodName) (ws : List Cond) (rm : Room) (g : cc_G) (pls : va_W) (av : List Value) (q : cc_S) (r : Int64) (q1 : cc_S) : Prop := ∀ (sz : Nat) (A : Nat → Prop), (∀ x, sz ≤ x → A x) → Met l y ws rm (cc_Pre g A pls q av sz) (va_Ql (fun (x : Int64) (u : cc_S) => x = r ∧ u = q1) (cc_B g A pls) A) 0 0 A
def cc_Mv (l : Launch) (y : MethodName) (ws : List Cond) (rm : Room) (g : cc_G) (pls : va_W) (av : List Value) (q : cc_S) (q1 : cc_S) : Prop := ∀ (sz : Nat) (A : Nat → Prop), (∀ x, sz ≤ x → A x) → Met l y ws rm (cc_Pre g A pls q av sz) (va_Qv (fun (u : cc_S) => u = q1) (cc_B g A pls) A) 0 0 A
def cc_Mo (l : Launch) (y : MethodName) (ws : List Cond) (rm : Room) (g : cc_G) (pls : va_W) (av : List Value) (q : cc_S) (r : Nat) (q1 : cc_S) : Prop := ∀ (sz : Nat) (A : Nat → Prop), (∀ x, sz ≤ x → A x) → Met l y ws rm (cc_Pre g A pls q av sz) (va_Qr (fun (u : cc_S) => u = q1) (fun u a t => a = r ∧ cc_B g A pls u t) A) 0 0 A
/-- a method of a player (its one cell is read, nothing is written) -/
def cp_Mi (l : Launch) (y : MethodName) (ws : List Cond) (rm : Room) (D : va_G) (av : List Value) (a : Nat) (d : cc_PD) (r : Int32) : Prop := ∀ sz, Met l y ws rm (va_Pc av (fun U => U.heap.size = sz ∧ va_P D vwCl [(a, cc_plc d)] U.heap ∧ va_K D vwCl [] U)) (va_Qi (fun (x : Int32) (_ : Unit) => x = r) (fun _ _ => True) (fun _ => False)) 0 0 (fun _ => False)
/-- where an object, an array stands in the cells of w x, for any x -/
def cc_Ob {T : Type} (g : cc_G) (w : T → cc_S) (id ci : Nat) (fs : T → List Value) : Prop := ∃ pl : Nat, ∀ pa pls x, (cc_F g pa pls (w x))[pl]? = some (cc_ad g id, .inr (ci, fs x))
def cc_Oi {T : Type} (g : cc_G) (w : T → cc_S) (id ci : Nat) (fs : T → List Value) (k : Nat) (wr : T → Int32 → T) : Prop := ∃ pl : Nat, (∀ pa pls x, (cc_F g pa pls (w x))[pl]? = some (cc_ad g id, .inr (ci, fs x))) ∧ (∀ pa pls x v, (cc_F g pa pls (w x)).set pl (cc_ad g id, .inr (ci, (fs x).set k (.int v))) = cc_F g pa pls (w (wr x v))) ∧ (∀ x, k < (fs x).length) ∧ ∀ x v c j, ((w (wr x v)).2.2.1 c).2.2 j = ((w x).2.2.1 c).2.2 j
def cc_Ok {T : Type} (g : cc_G) (w : T → cc_S) (id ci : Nat) (fs : T → List Value) (k : Nat) (wr : T → Int64 → T) : Prop := ∃ pl : Nat, (∀ pa pls x, (cc_F g pa pls (w x))[pl]? = some (cc_ad g id, .inr (ci, fs x))) ∧ (∀ pa pls x v, (cc_F g pa pls (w x)).set pl (cc_ad g id, .inr (ci, (fs x).set k (.long v))) = cc_F g pa pls (w (wr x v))) ∧ ∀ x v c j, ((w (wr x v)).2.2.1 c).2.2 j = ((w x).2.2.1 c).2.2 j
def cc_Ai {T : Type} (g : cc_G) (w : T → cc_S) (id n : Nat) (rd : T → Nat → Int32) (wr : T → Nat → Int32 → T) : Prop := ∃ pl : Nat, (∀ pa pls x, (cc_F g pa pls (w x))[pl]? = some (cc_ad g id, .inl (cc_cI g, n, .inl (rd x)))) ∧ (∀ pa pls x i v, (cc_F g pa pls (w x)).set pl (cc_ad g id, .inl (cc_cI g, n, .inl (upd (rd x) i v))) = cc_F g pa pls (w (wr x i v))) ∧ ∀ x i v c j, ((w (wr x i v)).2.2.1 c).2.2 j = ((w x).2.2.1 c).2.2 j
def cc_Ac {T : Type} (g : cc_G) (w : T → cc_S) (id n : Nat) (rd : T → Nat → Int32) (wr : T → Nat → Int32 → T) : Prop := ∃ pl : Nat, (∀ pa pls x, (cc_F g pa pls (w x))[pl]? = some (cc_ad g id, .inl (cc_cC g, n, .inl (rd x)))) ∧ (∀ pa pls x i v, (cc_F g pa pls (w x)).set pl (cc_ad g id, .inl (cc_cC g, n, .inl (upd (rd x) i v))) = cc_F g pa pls (w (wr x i v))) ∧ ∀ x i v c j, ((w (wr x i v)).2.2.1 c).2.2 j = ((w x).2.2.1 c).2.2 j
def cc_Al {T : Type} (g : cc_G) (w : T → cc_S) (id n : Nat) (rd : T → Nat → Int64) (wr : T → Nat → Int64 → T) : Prop := ∃ pl : Nat, (∀ pa pls x, (cc_F g pa pls (w x))[pl]? = some (cc_ad g id, .inl (cc_cJ g, n, .inr (.inl (rd x))))) ∧ (∀ pa pls x i v, (cc_F g pa pls (w x)).set pl (cc_ad g id, .inl (cc_cJ g, n, .inr (.inl (vp_updL (rd x) i v)))) = cc_F g pa pls (w (wr x i v))) ∧ ∀ x i v c j, ((w (wr x i v)).2.2.1 c).2.2 j = ((w x).2.2.1 c).2.2 j
theorem cc_Oi.ob {T : Type} {g : cc_G} {w : T → cc_S} {id ci : Nat} {fs : T → List Value} {k : Nat} {wr : T → Int32 → T} (h : cc_Oi g w id ci fs k wr) : cc_Ob g w id ci fs := by obtain ⟨pl, h1, _⟩ := h; exact ⟨pl, h1⟩
