abbrev vwCl : List vw_C := [(RX0, TX0, 4), (RX1, TX1, 8), (RX2, TX2, 6), (RX3, TX3, 4), (RX4, TX4, 4), (RX5, TX5, 4), (RX6, TX6, 3), (RX7, TX7, 2), (RX8, TX8, 4), (RX9, TX9, 4), (RX10, TX10, 10), (RX11, TX11, 28)]
/-! the pure words: named values, optional runs, guards, loops with a bound -/
def pp_lj {α β : Type} (F : α) (G : α → β) : β := G F
theorem pp_lj_ex {α β : Type} {F : α} {G : α → Option β} {r : β} (h : pp_lj F G = some r) : ∃ j, j = F ∧ G j = some r := ⟨F, rfl, h⟩
def pp_ob {α β : Type} (o : Option α) (f : α → Option β) : Option β := match o with
  | none => none
  | some a => f a
theorem pp_ob_ex {α β : Type} {o : Option α} {f : α → Option β} {r : β} (h : pp_ob o f = some r) : ∃ q, o = some q ∧ f q = some r := by
  cases o with
  | none => exact absurd h (by simp [pp_ob])
  | some a => exact ⟨a, rfl, h⟩
def pp_ix {β : Type} (i : Int32) (n : Nat) (a : Option β) : Option β := if i < 0 ∨ n ≤ i.toNatClampNeg then none else a
theorem pp_ix_ex {β : Type} {i : Int32} {n : Nat} {a : Option β} {r : β} (h : pp_ix i n a = some r) : vp_in i n ∧ a = some r := by
  unfold pp_ix at h
  by_cases q : i < 0 ∨ n ≤ i.toNatClampNeg
  · rw [if_pos q] at h; cases h
  · rw [if_neg q] at h; exact ⟨q, h⟩
def pp_dz {β : Type} (y : Int32) (a : Option β) : Option β := if y = 0 then none else a
theorem pp_dz_ex {β : Type} {y : Int32} {a : Option β} {r : β} (h : pp_dz y a = some r) : ¬ y = 0 ∧ a = some r := by
  unfold pp_dz at h
  by_cases q : y = 0
  · rw [if_pos q] at h; cases h
  · rw [if_neg q] at h; exact ⟨q, h⟩
def pp_dl {β : Type} (y : Int64) (a : Option β) : Option β := if y = 0 then none else a
theorem pp_dl_ex {β : Type} {y : Int64} {a : Option β} {r : β} (h : pp_dl y a = some r) : ¬ y = 0 ∧ a = some r := by
  unfold pp_dl at h
  by_cases q : y = 0
  · rw [if_pos q] at h; cases h
  · rw [if_neg q] at h; exact ⟨q, h⟩
def pp_bz {β : Type} (v : Int32) (a : Option β) : Option β := if v = 0 ∨ v = 1 then a else none
theorem pp_nz {v : Int32} (h : v = 0 ∨ v = 1) : narrow .boolean (.int v) = .int v := by
  rcases h with rfl | rfl <;> decide +kernel
theorem pp_fz {v : Int32} (h : v = 0 ∨ v = 1) : fits .boolean (.int v) = true := by
  rcases h with rfl | rfl <;> decide +kernel
theorem pp_bz_ex {β : Type} {v : Int32} {a : Option β} {r : β} (h : pp_bz v a = some r) : (narrow .boolean (.int v) = .int v ∧ fits .boolean (.int v) = true) ∧ a = some r := by
  unfold pp_bz at h
  by_cases q : v = 0 ∨ v = 1
  · rw [if_pos q] at h; exact ⟨⟨pp_nz q, pp_fz q⟩, h⟩
  · rw [if_neg q] at h; cases h
def pp_it {α β : Type} (F : (α → Option β) → α → Option β) : Nat → α → Option β
  | 0 => fun _ => none
  | n + 1 => F (pp_it F n)
theorem pp_jmp {α β : Type} {j F : α → Option β} {a : α} {r : β} (e : j = F) (h : j a = some r) : F a = some r := e ▸ h
theorem pp_loop {α β : Type} {F : (α → Option β) → α → Option β} {r : β} (I : α → Prop) (hstep : ∀ (self : α → Option β), (∀ a, self a = some r → I a) → ∀ a, F self a = some r → I a) (n : Nat) : ∀ (a : α), pp_it F n a = some r → I a := by
  induction n with
  | zero => intro a h; cases h
  | succ n ih => exact fun a h => hstep (pp_it F n) ih a h
theorem pp_t {β : Type} {c : Prop} {_ : Decidable c} {a b : Option β} {r : β} (hc : c) (h : (if c then a else b) = some r) : a = some r := by rw [if_pos hc] at h; exact h
theorem pp_f {β : Type} {c : Prop} {_ : Decidable c} {a b : Option β} {r : β} (hc : ¬ c) (h : (if c then a else b) = some r) : b = some r := by rw [if_neg hc] at h; exact h
/-! the reference's state: whole numbers by their slots, arrays by their slots -/
abbrev rr_S : Type := (Nat → Int32) × (Nat → Nat → Int32) × (Nat → Nat → Int64)
def rr_I (q : rr_S) (k : Nat) (v : Int32) : rr_S := (fun j => if j = k then v else q.1 j, q.2)
def rr_A (q : rr_S) (k i : Nat) (x : Int32) : rr_S := (q.1, fun j => if j = k then upd (q.2.1 k) i x else q.2.1 j, q.2.2)
def rr_L (q : rr_S) (k i : Nat) (x : Int64) : rr_S := (q.1, q.2.1, fun j => if j = k then vp_updL (q.2.2 k) i x else q.2.2 j)
abbrev rr_G : Type := va_G × ClassId × ClassId × (Nat → Nat)
def rr_F (g : rr_G) (q : rr_S) : List Value := [.ref (g.2.2.2 0), .ref (g.2.2.2 1), .ref (g.2.2.2 2), .ref (g.2.2.2 3), .ref (g.2.2.2 4), .ref (g.2.2.2 5), .ref (g.2.2.2 6), .ref (g.2.2.2 7), .ref (g.2.2.2 8), .int (q.1 9), .int (q.1 10), .int (q.1 11), .ref (g.2.2.2 12), .ref (g.2.2.2 13), .ref (g.2.2.2 14), .ref (g.2.2.2 15), .int (q.1 16), .int (q.1 17), .int (q.1 18), .ref (g.2.2.2 19), .int (q.1 20), .int (q.1 21), .int (q.1 22), .ref (g.2.2.2 23), .ref (g.2.2.2 24), .ref (g.2.2.2 25), .int (q.1 26), .int (q.1 27)]
def rr_R (g : rr_G) (q : (Nat → Nat → Int32) × (Nat → Nat → Int64)) : va_W := [(g.2.2.2 0, .inl (g.2.1, 7, .inl (q.1 0))), (g.2.2.2 1, .inl (g.2.1, 8, .inl (q.1 1))), (g.2.2.2 2, .inl (g.2.1, 8, .inl (q.1 2))), (g.2.2.2 3, .inl (g.2.1, 8, .inl (q.1 3))), (g.2.2.2 4, .inl (g.2.1, 8, .inl (q.1 4))), (g.2.2.2 5, .inl (g.2.1, 8, .inl (q.1 5))), (g.2.2.2 6, .inl (g.2.1, 6, .inl (q.1 6))), (g.2.2.2 7, .inl (g.2.1, 6, .inl (q.1 7))), (g.2.2.2 8, .inl (g.2.1, 6, .inl (q.1 8))), (g.2.2.2 12, .inl (g.2.1, 80, .inl (q.1 12))), (g.2.2.2 13, .inl (g.2.1, 40, .inl (q.1 13))), (g.2.2.2 14, .inl (g.2.1, 40, .inl (q.1 14))), (g.2.2.2 15, .inl (g.2.1, 160, .inl (q.1 15))), (g.2.2.2 19, .inl (g.2.1, 130, .inl (q.1 19))), (g.2.2.2 25, .inl (g.2.1, 12, .inl (q.1 25))), (g.2.2.2 23, .inl (g.2.2.1, 25, .inr (.inl (q.2 23)))), (g.2.2.2 24, .inl (g.2.2.1, 25, .inr (.inl (q.2 24))))]
def rr_W (g : rr_G) (q : rr_S) : va_W := (g.2.2.2 28, .inr (11, rr_F g q)) :: rr_R g q.2
abbrev rr_T (g : rr_G) : List (ClassId × FieldType) := [(g.2.1, .int), (g.2.2.1, .long)]
def rr_Ai (pl k n : Nat) : Prop := ∀ (g : rr_G) (q : rr_S), (rr_W g q)[pl]? = some (g.2.2.2 k, .inl (g.2.1, n, .inl (q.2.1 k))) ∧ ∀ i x, (rr_W g q).set pl (g.2.2.2 k, .inl (g.2.1, n, .inl (upd (q.2.1 k) i x))) = rr_W g (rr_A q k i x)
def rr_Al (pl k n : Nat) : Prop := ∀ (g : rr_G) (q : rr_S), (rr_W g q)[pl]? = some (g.2.2.2 k, .inl (g.2.2.1, n, .inr (.inl (q.2.2 k)))) ∧ ∀ i x, (rr_W g q).set pl (g.2.2.2 k, .inl (g.2.2.1, n, .inr (.inl (vp_updL (q.2.2 k) i x)))) = rr_W g (rr_L q k i x)
theorem ra_0 : rr_Ai 1 0 7 := fun g q => ⟨rfl, fun i x => rfl⟩
theorem ra_1 : rr_Ai 2 1 8 := fun g q => ⟨rfl, fun i x => rfl⟩
theorem ra_2 : rr_Ai 3 2 8 := fun g q => ⟨rfl, fun i x => rfl⟩
theorem ra_3 : rr_Ai 4 3 8 := fun g q => ⟨rfl, fun i x => rfl⟩
theorem ra_4 : rr_Ai 5 4 8 := fun g q => ⟨rfl, fun i x => rfl⟩
theorem ra_5 : rr_Ai 6 5 8 := fun g q => ⟨rfl, fun i x => rfl⟩
theorem ra_6 : rr_Ai 7 6 6 := fun g q => ⟨rfl, fun i x => rfl⟩
theorem ra_7 : rr_Ai 8 7 6 := fun g q => ⟨rfl, fun i x => rfl⟩
theorem ra_8 : rr_Ai 9 8 6 := fun g q => ⟨rfl, fun i x => rfl⟩
theorem ra_12 : rr_Ai 10 12 80 := fun g q => ⟨rfl, fun i x => rfl⟩
theorem ra_13 : rr_Ai 11 13 40 := fun g q => ⟨rfl, fun i x => rfl⟩
theorem ra_14 : rr_Ai 12 14 40 := fun g q => ⟨rfl, fun i x => rfl⟩
theorem ra_15 : rr_Ai 13 15 160 := fun g q => ⟨rfl, fun i x => rfl⟩
theorem ra_19 : rr_Ai 14 19 130 := fun g q => ⟨rfl, fun i x => rfl⟩
theorem ra_25 : rr_Ai 15 25 12 := fun g q => ⟨rfl, fun i x => rfl⟩
theorem ra_23 : rr_Al 16 23 25 := fun g q => ⟨rfl, fun i x => rfl⟩
theorem ra_24 : rr_Al 17 24 25 := fun g q => ⟨rfl, fun i x => rfl⟩
theorem ri_9 (g : rr_G) (q : rr_S) (v : Int32) : (rr_F g q).set 9 (.int v) = rr_F g (rr_I q 9 v) := rfl
theorem ri_10 (g : rr_G) (q : rr_S) (v : Int32) : (rr_F g q).set 10 (.int v) = rr_F g (rr_I q 10 v) := rfl
theorem ri_11 (g : rr_G) (q : rr_S) (v : Int32) : (rr_F g q).set 11 (.int v) = rr_F g (rr_I q 11 v) := rfl
theorem ri_16 (g : rr_G) (q : rr_S) (v : Int32) : (rr_F g q).set 16 (.int v) = rr_F g (rr_I q 16 v) := rfl
theorem ri_17 (g : rr_G) (q : rr_S) (v : Int32) : (rr_F g q).set 17 (.int v) = rr_F g (rr_I q 17 v) := rfl
theorem ri_18 (g : rr_G) (q : rr_S) (v : Int32) : (rr_F g q).set 18 (.int v) = rr_F g (rr_I q 18 v) := rfl
theorem ri_20 (g : rr_G) (q : rr_S) (v : Int32) : (rr_F g q).set 20 (.int v) = rr_F g (rr_I q 20 v) := rfl
theorem ri_21 (g : rr_G) (q : rr_S) (v : Int32) : (rr_F g q).set 21 (.int v) = rr_F g (rr_I q 21 v) := rfl
theorem ri_22 (g : rr_G) (q : rr_S) (v : Int32) : (rr_F g q).set 22 (.int v) = rr_F g (rr_I q 22 v) := rfl
theorem ri_26 (g : rr_G) (q : rr_S) (v : Int32) : (rr_F g q).set 26 (.int v) = rr_F g (rr_I q 26 v) := rfl
theorem ri_27 (g : rr_G) (q : rr_S) (v : Int32) : (rr_F g q).set 27 (.int v) = rr_F g (rr_I q 27 v) := rfl
def rr_0 : rr_S := (fun _ => 0, fun _ _ => 0, fun _ _ => 0)
def rr_Ad (g : rr_G) (sz : Nat) : Nat → Prop := va_A (rr_W g rr_0) sz
theorem rr_fst (g : rr_G) (q : rr_S) : (rr_W g q).map (fun x => x.1) = (rr_W g rr_0).map (fun x => x.1) := rfl
theorem rr_fst_get {g : rr_G} {q : rr_S} {k : Nat} {x : Nat × va_E} (h : (rr_W g q)[k]? = some x) : ∃ e, (rr_W g rr_0)[k]? = some (x.1, e) := by
  have h1 : ((rr_W g q).map (fun x => x.1))[k]? = some x.1 := by rw [List.getElem?_map, h]; rfl
  rw [rr_fst, List.getElem?_map] at h1
  cases h2 : (rr_W g rr_0)[k]? with
  | none => rw [h2] at h1; cases h1
  | some y =>
    rw [h2] at h1
    obtain ⟨y1, y2⟩ := y
    have h3 : y1 = x.1 := Option.some.inj h1
    exact ⟨y2, by rw [← h3]⟩
theorem rr_Dself {g : rr_G} {q : rr_S} {A : Nat → Prop} {sz : Nat} (h : va_D A (rr_W g q)) : va_D (rr_Ad g sz) (rr_W g q) := h.weaken (fun k x hk _ => by
  obtain ⟨e, he⟩ := rr_fst_get hk
  exact Or.inl ⟨k, e, he⟩)
theorem rr_Ad_sub {g : rr_G} {q : rr_S} {a b : Nat} (hD : va_D (rr_Ad g a) (rr_W g q)) (h : a ≤ b) : ∀ x, rr_Ad g b x → rr_Ad g a x := fun x hx => hx.elim Or.inl (fun z => Or.inr (Nat.le_trans h z))
abbrev rr_B (g : rr_G) (A : Nat → Prop) (q : rr_S) (U : State) : Prop := va_P g.1 vwCl (rr_W g q) U.heap ∧ va_K g.1 vwCl (rr_T g) U ∧ va_D A (rr_W g q)
/-- the heap behind some steps of a method of the reference that began at s -/
def rr_H (g : rr_G) (q : rr_S) (s : State) (H : Heap) (locs : List Loc) : Prop := va_P g.1 vwCl (rr_W g q) H ∧ va_D (rr_Ad g s.heap.size) (rr_W g q) ∧ va_S (rr_Ad g s.heap.size) s.heap H locs
/-- what stays in a method of the reference -/
def rr_X (p : Program) (m : MethodId) (c : Code) (cc : ByteArray) (nL : Nat) (s : State) (args : Array Value) (Ts : List Cond) (g : rr_G) : Prop := CallFix p m c cc nL s args Ts RX11 ∧ va_K g.1 vwCl (rr_T g) s ∧ ∀ w ∈ wsX110, w ∈ Ts
abbrev rr_Pre (g : rr_G) (q : rr_S) (As : List Value) (sz : Nat) : Array Value → State → Prop := va_Pc (.ref (g.2.2.2 28) :: As) (fun U => U.heap.size = sz ∧ rr_B g (fun _ => True) q U)
/-- contracts: an int, a long, nothing; of static methods -/
def rr_Mi (l : Launch) (y : MethodName) (ws : List Cond) (rm : Room) (g : rr_G) (q : rr_S) (As : List Value) (res : Int32 × rr_S) : Prop := ∀ sz, Met l y ws rm (rr_Pre g q As sz) (va_Qi (fun (r : Int32) (u : rr_S) => r = res.1 ∧ u = res.2) (rr_B g (rr_Ad g sz)) (rr_Ad g sz)) 0 0 (rr_Ad g sz)
def rr_Ml (l : Launch) (y : MethodName) (ws : List Cond) (rm : Room) (g : rr_G) (q : rr_S) (As : List Value) (res : Int64 × rr_S) : Prop := ∀ sz, Met l y ws rm (rr_Pre g q As sz) (va_Ql (fun (r : Int64) (u : rr_S) => r = res.1 ∧ u = res.2) (rr_B g (rr_Ad g sz)) (rr_Ad g sz)) 0 0 (rr_Ad g sz)
def rr_Mv (l : Launch) (y : MethodName) (ws : List Cond) (rm : Room) (g : rr_G) (q : rr_S) (As : List Value) (res : rr_S) : Prop := ∀ sz, Met l y ws rm (rr_Pre g q As sz) (va_Qv (fun (u : rr_S) => u = res) (rr_B g (rr_Ad g sz)) (rr_Ad g sz)) 0 0 (rr_Ad g sz)
def xs_Mi (l : Launch) (y : MethodName) (ws : List Cond) (rm : Room) (As : List Value) (r : Int32) : Prop := ∀ sz, Met l y ws rm (va_Pc As (fun U => U.heap.size = sz)) (va_Qi (fun (x : Int32) (_ : Unit) => x = r) (fun _ _ => True) (fun _ => False)) 0 0 (fun _ => False)
def xs_Ml (l : Launch) (y : MethodName) (ws : List Cond) (rm : Room) (As : List Value) (r : Int64) : Prop := ∀ sz, Met l y ws rm (va_Pc As (fun U => U.heap.size = sz)) (va_Ql (fun (x : Int64) (_ : Unit) => x = r) (fun _ _ => True) (fun _ => False)) 0 0 (fun _ => False)
section RK
variable {p : Program} {l : Launch} {e : Env} {R : Room} {s : State} {m : MethodId} {args : Array Value} {below : List Frame} {meth : Method} {c : Code} {H : Heap} {locs : List Loc} {cells slots : Nat} {Q : State → Prop}
variable {cc : ByteArray} {pc nL : Nat} {ls : Array Slot} {rest : List Value} {Ts : List Cond} {g : rr_G} {q : rr_S}
theorem lv_nmi {x y : Int32} (h : y = x) (k : W p l e R s m args below meth c H locs cells slots Q (F0 m pc ls (.int y :: rest))) : W p l e R s m args below meth c H locs cells slots Q (F0 m pc ls (.int x :: rest)) := h ▸ k
theorem lv_nml {x y : Int64} (h : y = x) (k : W p l e R s m args below meth c H locs cells slots Q (F0 m pc ls (.long y :: rest))) : W p l e R s m args below meth c H locs cells slots Q (F0 m pc ls (.long x :: rest)) := h ▸ k
theorem rr_get (X : rr_X p m c cc nL s args Ts g) (G : rr_H g q s H locs) (k : Nat) (hk : k < 28) {index : Nat} (hl : Cond.fieldLink RX11 index (TX11 k).1 (TX11 k).2.1 (TX11 k).2.2.1 ∈ Ts) {v : Value} (hv : (rr_F g q)[k]? = some v) (hdg : decode cc pc = .ok (.getfield index, 3))
    (kk : W p l e R s m args below meth c H locs cells slots Q (F0 m (pc + 3) ls (v :: rest))) : W p l e R s m args below meth c H locs cells slots Q (F0 m pc ls (.ref (g.2.2.2 28) :: rest)) :=
  va_get (D := g.1) (cl := vwCl) (ci := 11) (C := RX11) (T := TX11) (N := 28) (ref := (TX11 k).1) X.1.1 X.1.2.1 X.1.2.2.2.2 X.2.2 X.1.2.2.2.1 X.2.1 G.1 0 rfl rfl k hk (X.1.2.2.2.2 _ hl) (fun _ h => h) hv hdg kk
theorem rr_put (X : rr_X p m c cc nL s args Ts g) (G : rr_H g q s H locs) (k : Nat) (hk : k < 28) {index : Nat} (hl : Cond.fieldLink RX11 index (TX11 k).1 (TX11 k).2.1 (TX11 k).2.2.1 ∈ Ts) (hfin : (TX11 k).2.2.2 = false) {ty : FieldType} {v : Int32} (hd : parseFieldDescriptor (TX11 k).2.2.1 = some ty) (hn : narrow ty (.int v) = .int v) (hfit : fits ty (.int v) = true)
    (hset : (rr_F g q).set k (.int v) = rr_F g (rr_I q k v)) {q1 : rr_S} (eq : q1 = rr_I q k v) (hdg : decode cc pc = .ok (.putfield index, 3))
    (kk : ∀ (H1 : Heap) (locs1 : List Loc), rr_H g q1 s H1 locs1 → W p l e R s m args below meth c H1 locs1 cells slots Q (F0 m (pc + 3) ls rest)) : W p l e R s m args below meth c H locs cells slots Q (F0 m pc ls (.int v :: .ref (g.2.2.2 28) :: rest)) := by
  subst eq
  have hw : (rr_W g q).set 0 (g.2.2.2 28, .inr (11, (rr_F g q).set k (.int v))) = rr_W g (rr_I q k v) := by rw [hset]; rfl
  refine va_put (D := g.1) (cl := vwCl) (ci := 11) (C := RX11) (T := TX11) (N := 28) (ref := (TX11 k).1) X.1.1 X.1.2.1 X.1.2.2.2.2 X.2.2 tyX11 tyX11_ok nmX11 X.1.2.2.2.1 X.2.1 G.1 G.2.1 G.2.2 0 rfl rfl k hk (X.1.2.2.2.2 _ hl) (fun _ h => h) hfin hd hn hfit hk hdg (fun H1 locs1 hP hD hS => kk H1 locs1 ⟨?_, ?_, hS⟩)
  · rw [← hw]; exact hP
  · rw [← hw]; exact hD
theorem rr_iald (X : rr_X p m c cc nL s args Ts g) (G : rr_H g q s H locs) {pl k n : Nat} (ha : rr_Ai pl k n) {i : Int32} (hin : vp_in i n) (hdg : decode cc pc = .ok (.iaload, 1))
    (kk : W p l e R s m args below meth c H locs cells slots Q (F0 m (pc + 1) ls (.int (q.2.1 k i.toNatClampNeg) :: rest))) : W p l e R s m args below meth c H locs cells slots Q (F0 m pc ls (.int i :: .ref (g.2.2.2 k) :: rest)) :=
  va_iald X.1.1 X.1.2.1 X.2.1 G.1 pl 0 (ha g q).1 rfl hin hdg kk
theorem rr_lald (X : rr_X p m c cc nL s args Ts g) (G : rr_H g q s H locs) {pl k n : Nat} (ha : rr_Al pl k n) {i : Int32} (hin : vp_in i n) (hdg : decode cc pc = .ok (.laload, 1))
    (kk : W p l e R s m args below meth c H locs cells slots Q (F0 m (pc + 1) ls (.long (q.2.2 k i.toNatClampNeg) :: rest))) : W p l e R s m args below meth c H locs cells slots Q (F0 m pc ls (.int i :: .ref (g.2.2.2 k) :: rest)) :=
  va_lald X.1.1 X.1.2.1 X.2.1 G.1 pl 1 (ha g q).1 rfl hin hdg kk
theorem rr_iast (X : rr_X p m c cc nL s args Ts g) (G : rr_H g q s H locs) {pl k n : Nat} (ha : rr_Ai pl k n) {i x : Int32} (hin : vp_in i n) {q1 : rr_S} (eq : q1 = rr_A q k i.toNatClampNeg x) (hdg : decode cc pc = .ok (.iastore, 1))
    (kk : ∀ (H1 : Heap) (locs1 : List Loc), rr_H g q1 s H1 locs1 → W p l e R s m args below meth c H1 locs1 cells slots Q (F0 m (pc + 1) ls rest)) : W p l e R s m args below meth c H locs cells slots Q (F0 m pc ls (.int x :: .int i :: .ref (g.2.2.2 k) :: rest)) := by
  subst eq
  have hw := (ha g q).2 i.toNatClampNeg x
  refine va_iast X.1.1 X.1.2.1 X.2.1 G.1 G.2.1 G.2.2 pl 0 (ha g q).1 rfl hin hdg (fun H1 locs1 hP hD hS => kk H1 locs1 ⟨?_, ?_, hS⟩)
  · rw [← hw]; exact hP
  · rw [← hw]; exact hD
theorem rr_last (X : rr_X p m c cc nL s args Ts g) (G : rr_H g q s H locs) {pl k n : Nat} (ha : rr_Al pl k n) {i : Int32} {x : Int64} (hin : vp_in i n) {q1 : rr_S} (eq : q1 = rr_L q k i.toNatClampNeg x) (hdg : decode cc pc = .ok (.lastore, 1))
    (kk : ∀ (H1 : Heap) (locs1 : List Loc), rr_H g q1 s H1 locs1 → W p l e R s m args below meth c H1 locs1 cells slots Q (F0 m (pc + 1) ls rest)) : W p l e R s m args below meth c H locs cells slots Q (F0 m pc ls (.long x :: .int i :: .ref (g.2.2.2 k) :: rest)) := by
  subst eq
  have hw := (ha g q).2 i.toNatClampNeg x
  refine va_last X.1.1 X.1.2.1 X.2.1 G.1 G.2.1 G.2.2 pl 1 (ha g q).1 rfl hin hdg (fun H1 locs1 hP hD hS => kk H1 locs1 ⟨?_, ?_, hS⟩)
  · rw [← hw]; exact hP
  · rw [← hw]; exact hD
theorem rr_alen (X : rr_X p m c cc nL s args Ts g) (G : rr_H g q s H locs) {pl k n : Nat} (ha : rr_Ai pl k n) {v : Int32} (hv : Int32.ofNat n = v) (hdg : decode cc pc = .ok (.arraylength, 1))
    (kk : W p l e R s m args below meth c H locs cells slots Q (F0 m (pc + 1) ls (.int v :: rest))) : W p l e R s m args below meth c H locs cells slots Q (F0 m pc ls (.ref (g.2.2.2 k) :: rest)) :=
  va_alen X.1.1 X.1.2.1 X.2.1 G.1 pl 0 (ha g q).1 rfl hv hdg kk
theorem rr_blind (As : List Value) (sz : Nat) : FrameBlind (rr_Pre g q As sz) := fun a U f mk z => by
  obtain ⟨q0, q1, qP, qK, qD⟩ := z
  exact ⟨q0, q1, qP, va_K.moved (u := U) (U := U.calling f mk a) (Vm.Alike.refl U.vm) qK, qD⟩
theorem rr_pre (X : rr_X p m c cc nL s args Ts g) (G : rr_H g q s H locs) (As : List Value) : PreV s H RX11 (g.2.2.2 28) (rr_Pre g q As H.size) As :=
  ⟨rr_blind As H.size, va_recv X.2.1 G.1 (ci := 11) (q0 := 0) rfl rfl, fun U hU hW => ⟨rfl, by rw [hU], by rw [hU]; exact G.1, va_K.moved hW.alike X.2.1, G.2.1.weaken (fun _ _ _ _ => trivial)⟩⟩
theorem rr_cali (X : rr_X p m c cc nL s args Ts g) (G : rr_H g q s H locs) {y : MethodName} {bytes : ByteArray} {maxL n index : Nat} {ret : Option FieldType} {wsc : List Cond} {rmc : Room} {As st0 : List Value} {res : Int32 × rr_S} (hM : rr_Mi l y wsc rmc g q As res) (cw : CallW R s args RX11 RX11 index y bytes maxL ret wsc rmc 0 0 n) (hn : As.length = n) (hsz : ls.size = nL) (hst : st0 = As.reverse ++ .ref (g.2.2.2 28) :: rest) (hW : (rest.map fun v => v.category).sum ≤ 8) (hdg : decode cc pc = .ok (.invokevirtual index, 3))
    (kk : ∀ (H1 : Heap) (locs1 : List Loc), rr_H g res.2 s H1 locs1 → W p l e R s m args below meth c H1 locs1 0 0 Q (F0 m (pc + 3) ls (.int res.1 :: rest))) : W p l e R s m args below meth c H locs 0 0 Q (F0 m pc ls st0) := by
  have hFc : ∀ x, rr_Ad g H.size x → rr_Ad g s.heap.size x := rr_Ad_sub G.2.1 G.2.2.1
  refine va_calli (va_runV (As := As) (rest := rest) X.1 (hM H.size) cw (rr_pre X G As) rfl hn hsz hst (lv_room hW) hdg ⟨Nat.zero_le _, Nat.zero_le _⟩) G.2.2 (fun x _ h => hFc x h) hFc (fun r u t H1 locs1 ht hvm hw hB hz hk hS => ?_)
  obtain ⟨rfl, rfl⟩ := hw
  exact kk H1 locs1 ⟨by rw [← ht]; exact hB.1, hB.2.2.weaken (fun _ x _ h => hFc x.1 h), hS⟩
theorem rr_call (X : rr_X p m c cc nL s args Ts g) (G : rr_H g q s H locs) {y : MethodName} {bytes : ByteArray} {maxL n index : Nat} {ret : Option FieldType} {wsc : List Cond} {rmc : Room} {As st0 : List Value} {res : Int64 × rr_S} (hM : rr_Ml l y wsc rmc g q As res) (cw : CallW R s args RX11 RX11 index y bytes maxL ret wsc rmc 0 0 n) (hn : As.length = n) (hsz : ls.size = nL) (hst : st0 = As.reverse ++ .ref (g.2.2.2 28) :: rest) (hW : (rest.map fun v => v.category).sum ≤ 8) (hdg : decode cc pc = .ok (.invokevirtual index, 3))
    (kk : ∀ (H1 : Heap) (locs1 : List Loc), rr_H g res.2 s H1 locs1 → W p l e R s m args below meth c H1 locs1 0 0 Q (F0 m (pc + 3) ls (.long res.1 :: rest))) : W p l e R s m args below meth c H locs 0 0 Q (F0 m pc ls st0) := by
  have hFc : ∀ x, rr_Ad g H.size x → rr_Ad g s.heap.size x := rr_Ad_sub G.2.1 G.2.2.1
  refine va_calll (va_runV (As := As) (rest := rest) X.1 (hM H.size) cw (rr_pre X G As) rfl hn hsz hst (lv_room hW) hdg ⟨Nat.zero_le _, Nat.zero_le _⟩) G.2.2 (fun x _ h => hFc x h) hFc (fun r u t H1 locs1 ht hvm hw hB hz hk hS => ?_)
  obtain ⟨rfl, rfl⟩ := hw
  exact kk H1 locs1 ⟨by rw [← ht]; exact hB.1, hB.2.2.weaken (fun _ x _ h => hFc x.1 h), hS⟩
theorem rr_calv (X : rr_X p m c cc nL s args Ts g) (G : rr_H g q s H locs) {y : MethodName} {bytes : ByteArray} {maxL n index : Nat} {ret : Option FieldType} {wsc : List Cond} {rmc : Room} {As st0 : List Value} {res : rr_S} (hM : rr_Mv l y wsc rmc g q As res) (cw : CallW R s args RX11 RX11 index y bytes maxL ret wsc rmc 0 0 n) (hn : As.length = n) (hsz : ls.size = nL) (hst : st0 = As.reverse ++ .ref (g.2.2.2 28) :: rest) (hW : (rest.map fun v => v.category).sum ≤ 8) (hdg : decode cc pc = .ok (.invokevirtual index, 3))
    (kk : ∀ (H1 : Heap) (locs1 : List Loc), rr_H g res s H1 locs1 → W p l e R s m args below meth c H1 locs1 0 0 Q (F0 m (pc + 3) ls rest)) : W p l e R s m args below meth c H locs 0 0 Q (F0 m pc ls st0) := by
  have hFc : ∀ x, rr_Ad g H.size x → rr_Ad g s.heap.size x := rr_Ad_sub G.2.1 G.2.2.1
  refine va_callv (va_runV (As := As) (rest := rest) X.1 (hM H.size) cw (rr_pre X G As) rfl hn hsz hst (lv_room hW) hdg ⟨Nat.zero_le _, Nat.zero_le _⟩) G.2.2 (fun x _ h => hFc x h) hFc (fun u t H1 locs1 ht hvm hw hB hz hk hS => ?_)
  obtain rfl := hw
  exact kk H1 locs1 ⟨by rw [← ht]; exact hB.1, hB.2.2.weaken (fun _ x _ h => hFc x.1 h), hS⟩
theorem xs_pre (As : List Value) : PreS s H (va_Pc As (fun U => U.heap.size = H.size)) As := ⟨fun _ _ _ _ z => ⟨z.1, z.2⟩, fun U hU _ => ⟨rfl, by show U.heap.size = H.size; rw [hU]⟩⟩
theorem rr_kept {H1 : Heap} {locs1 : List Loc} (G : rr_H g q s H locs) (hk : ∀ x : Nat, x < H.size → ¬ False → H1[x]? = H[x]?) (hS : va_S (rr_Ad g s.heap.size) s.heap H1 locs1) : rr_H g q s H1 locs1 :=
  ⟨G.1.kept (fun k x hx => hk x.1 (va_at.lt (G.1 k x hx)) (fun z => z)), G.2.1, hS⟩
theorem rr_csi (X : rr_X p m c cc nL s args Ts g) (G : rr_H g q s H locs) {y : MethodName} {bytes : ByteArray} {maxL n index : Nat} {ret : Option FieldType} {wsc : List Cond} {rmc : Room} {As st0 : List Value} {res : Int32} (hM : xs_Mi l y wsc rmc As res) (cw : CallB R s args RX11 index y bytes maxL ret wsc rmc 0 0 n ∧ (Cond.static y).before args s = true) (hn : As.length = n) (hsz : ls.size = nL) (hst : st0 = As.reverse ++ rest) (hW : (rest.map fun v => v.category).sum ≤ 8) (hdg : decode cc pc = .ok (.invokestatic index, 3))
    (kk : ∀ (H1 : Heap) (locs1 : List Loc), rr_H g q s H1 locs1 → W p l e R s m args below meth c H1 locs1 0 0 Q (F0 m (pc + 3) ls (.int res :: rest))) : W p l e R s m args below meth c H locs 0 0 Q (F0 m pc ls st0) := by
  refine va_calli (va_runS (As := As) (rest := rest) X.1 (hM H.size) cw (xs_pre As) rfl hn hsz hst (lv_room hW) hdg ⟨Nat.zero_le _, Nat.zero_le _⟩) G.2.2 (fun _ _ h => h.elim) (fun _ h => h.elim) (fun r u t H1 locs1 ht hvm hw hB hz hk hS => ?_)
  obtain rfl := hw
  exact kk H1 locs1 (rr_kept G hk hS)
theorem rr_csl (X : rr_X p m c cc nL s args Ts g) (G : rr_H g q s H locs) {y : MethodName} {bytes : ByteArray} {maxL n index : Nat} {ret : Option FieldType} {wsc : List Cond} {rmc : Room} {As st0 : List Value} {res : Int64} (hM : xs_Ml l y wsc rmc As res) (cw : CallB R s args RX11 index y bytes maxL ret wsc rmc 0 0 n ∧ (Cond.static y).before args s = true) (hn : As.length = n) (hsz : ls.size = nL) (hst : st0 = As.reverse ++ rest) (hW : (rest.map fun v => v.category).sum ≤ 8) (hdg : decode cc pc = .ok (.invokestatic index, 3))
    (kk : ∀ (H1 : Heap) (locs1 : List Loc), rr_H g q s H1 locs1 → W p l e R s m args below meth c H1 locs1 0 0 Q (F0 m (pc + 3) ls (.long res :: rest))) : W p l e R s m args below meth c H locs 0 0 Q (F0 m pc ls st0) := by
  refine va_calll (va_runS (As := As) (rest := rest) X.1 (hM H.size) cw (xs_pre As) rfl hn hsz hst (lv_room hW) hdg ⟨Nat.zero_le _, Nat.zero_le _⟩) G.2.2 (fun _ _ h => h.elim) (fun _ h => h.elim) (fun r u t H1 locs1 ht hvm hw hB hz hk hS => ?_)
  obtain rfl := hw
  exact kk H1 locs1 (rr_kept G hk hS)
theorem rr_iret {ty : FieldType} {res : Int32 × rr_S} {v : Int32} (X : rr_X p m c cc nL s args Ts g) (hr : meth.sig.returnType = some ty) (hlk : meth.locks = false) (hn : narrow ty (.int v) = .int v) (G : rr_H g q s H locs) (h : some (v, q) = some res) (hQ : Q = MQ below (va_Qi (fun (r : Int32) (u : rr_S) => r = res.1 ∧ u = res.2) (rr_B g (rr_Ad g s.heap.size)) (rr_Ad g s.heap.size)) args s 0 0 (rr_Ad g s.heap.size)) (hdg : decode cc pc = .ok (.ireturn, 1)) : W p l e R s m args below meth c H locs 0 0 Q (F0 m pc ls [.int v]) := by
  subst hQ
  obtain rfl := Option.some.inj h
  exact W.zret X.1.1 X.1.2.1 hr hn (fun t ht hW => ⟨⟨v, q, rfl, ⟨rfl, rfl⟩, by rw [ht]; exact G.1, va_K.moved hW.alike X.2.1, G.2.1⟩, G.2.2.F ht⟩) G.2.2.2.2 hdg hlk
theorem rr_iretR {ty : FieldType} {r v : Int32} (X : rr_X p m c cc nL s args Ts g) (hr : meth.sig.returnType = some ty) (hlk : meth.locks = false) (hn : narrow ty (.int v) = .int v) (G : rr_H g q s H locs) (h : some v = some r) (hQ : Q = MQ below (va_Qi (fun (x : Int32) (u : rr_S) => x = ((r, q) : Int32 × rr_S).1 ∧ u = ((r, q) : Int32 × rr_S).2) (rr_B g (rr_Ad g s.heap.size)) (rr_Ad g s.heap.size)) args s 0 0 (rr_Ad g s.heap.size)) (hdg : decode cc pc = .ok (.ireturn, 1)) : W p l e R s m args below meth c H locs 0 0 Q (F0 m pc ls [.int v]) :=
  rr_iret X hr hlk hn G (by rw [Option.some.inj h]) hQ hdg
theorem rr_lret {res : Int64 × rr_S} {v : Int64} (X : rr_X p m c cc nL s args Ts g) (hr : meth.sig.returnType = some .long) (hlk : meth.locks = false) (G : rr_H g q s H locs) (h : some (v, q) = some res) (hQ : Q = MQ below (va_Ql (fun (r : Int64) (u : rr_S) => r = res.1 ∧ u = res.2) (rr_B g (rr_Ad g s.heap.size)) (rr_Ad g s.heap.size)) args s 0 0 (rr_Ad g s.heap.size)) (hdg : decode cc pc = .ok (.lreturn, 1)) : W p l e R s m args below meth c H locs 0 0 Q (F0 m pc ls [.long v]) := by
  subst hQ
  obtain rfl := Option.some.inj h
  exact W.lret X.1.1 X.1.2.1 hr (fun t ht hW => ⟨⟨v, q, rfl, ⟨rfl, rfl⟩, by rw [ht]; exact G.1, va_K.moved hW.alike X.2.1, G.2.1⟩, G.2.2.F ht⟩) G.2.2.2.2 hdg hlk
theorem rr_vret {res : rr_S} (X : rr_X p m c cc nL s args Ts g) (hr : meth.sig.returnType = none) (hlk : meth.locks = false) (G : rr_H g q s H locs) (h : some q = some res) (hQ : Q = MQ below (va_Qv (fun (u : rr_S) => u = res) (rr_B g (rr_Ad g s.heap.size)) (rr_Ad g s.heap.size)) args s 0 0 (rr_Ad g s.heap.size)) (hdg : decode cc pc = .ok (.return_, 1)) : W p l e R s m args below meth c H locs 0 0 Q (F0 m pc ls []) := by
  subst hQ
  obtain rfl := Option.some.inj h
  exact W.vret X.1.1 X.1.2.1 hr (fun t ht hW => ⟨⟨q, rfl, rfl, by rw [ht]; exact G.1, va_K.moved hW.alike X.2.1, G.2.1⟩, G.2.2.F ht⟩) G.2.2.2.2 hdg hlk
theorem xs_iret {ty : FieldType} {r v : Int32} (hx : p.tables.exec = Jvm.exec) (hb : c.code = cc) (hr : meth.sig.returnType = some ty) (hlk : meth.locks = false) (hn : narrow ty (.int v) = .int v) (h : some v = some r) (hQ : Q = MQ below (va_Qi (fun (x : Int32) (_ : Unit) => x = r) (fun _ _ => True) (fun _ => False)) args s 0 0 (fun _ => False)) (hdg : decode cc pc = .ok (.ireturn, 1)) : W p l e R s m args below meth c s.heap [] 0 0 Q (F0 m pc ls [.int v]) := by
  subst hQ
  obtain rfl := Option.some.inj h
  exact W.zret hx hb hr hn (fun t ht hW => ⟨⟨v, (), rfl, rfl, trivial⟩, va_S.rf.F ht⟩) (fun _ z => by cases z) hdg hlk
theorem xs_lret {r v : Int64} (hx : p.tables.exec = Jvm.exec) (hb : c.code = cc) (hr : meth.sig.returnType = some .long) (hlk : meth.locks = false) (h : some v = some r) (hQ : Q = MQ below (va_Ql (fun (x : Int64) (_ : Unit) => x = r) (fun _ _ => True) (fun _ => False)) args s 0 0 (fun _ => False)) (hdg : decode cc pc = .ok (.lreturn, 1)) : W p l e R s m args below meth c s.heap [] 0 0 Q (F0 m pc ls [.long v]) := by
  subst hQ
  obtain rfl := Option.some.inj h
  exact W.lret hx hb hr (fun t ht hW => ⟨⟨v, (), rfl, rfl, trivial⟩, va_S.rf.F ht⟩) (fun _ z => by cases z) hdg hlk
theorem rr_ofW {y : MethodName} {ws ws' : List Cond} {rm : Room} {maxL : Nat} {ret : Option FieldType} {As : List Value} {Qc : Array Value → State → Outcome → State → Prop} {free : Addr → Prop} {sz : Nat} (hy : plainName y.cls = true) (hw : ws = Cond.code y cc maxL ret :: ws') (hcls : y.cls = RX11) (hfl : ∀ w ∈ wsX110, w ∈ ws) (hmx : (lg_sl (.ref (g.2.2.2 28) :: As)).length ≤ maxL)
    (body : ∀ (p : Program) (e : Env) (s : State) (m : MethodId) (args : Array Value) (below : List Frame) (meth : Method) (c : Code) (ls : Array Slot), rr_X p m c cc maxL s args ws g → meth.sig.returnType = ret → meth.locks = false → s.heap.size = sz → rr_H g q s s.heap [] → lv_has ls maxL (lv_args 0 (.ref (g.2.2.2 28) :: As)) → ∀ (Q : State → Prop), Q = MQ below Qc args s 0 0 free → W p l e (headSpec ws rm).room s m args below meth c s.heap [] 0 0 Q (F0 m 0 ls [])) : Met l y ws rm (rr_Pre g q As sz) Qc 0 0 free := by
  refine Met.ofW (cc := cc) (maxL := maxL) (ret := ret) hy hw ?_
  intro p e s m args below meth c s₁ B hml hv
  obtain ⟨rfl, hsz, hP, hK, hD0⟩ := hv
  have hts := atoms_spec (ws := ws) B.pre
  have hown : s.vm.findClass RX11 = some m.cls := hcls ▸ findClass_of_methodNamed B.named
  have hl := lv_entry (.ref (g.2.2.2 28) :: As) (n := maxL) hmx
  rw [lg_entry_eq]
  exact body p e s m _ below meth c _ ⟨⟨B.exec, B.bytes, hml, hown, hts⟩, hK, hfl⟩ B.returns B.notSynchronized hsz ⟨hP, rr_Dself hD0, va_S.rf⟩ hl _ rfl
theorem xs_ofW {y : MethodName} {ws ws' : List Cond} {rm : Room} {maxL : Nat} {ret : Option FieldType} {As : List Value} {Qc : Array Value → State → Outcome → State → Prop} {free : Addr → Prop} {sz : Nat} {own : String} (hy : plainName y.cls = true) (hw : ws = Cond.code y cc maxL ret :: ws') (hcls : y.cls = own) (hmx : (lg_sl As).length ≤ maxL)
    (body : ∀ (p : Program) (e : Env) (s : State) (m : MethodId) (args : Array Value) (below : List Frame) (meth : Method) (c : Code) (ls : Array Slot), CallFix p m c cc maxL s args ws own → meth.sig.returnType = ret → meth.locks = false → lv_has ls maxL (lv_args 0 As) → ∀ (Q : State → Prop), Q = MQ below Qc args s 0 0 free → W p l e (headSpec ws rm).room s m args below meth c s.heap [] 0 0 Q (F0 m 0 ls [])) : Met l y ws rm (va_Pc As (fun U => U.heap.size = sz)) Qc 0 0 free := by
  refine Met.ofW (cc := cc) (maxL := maxL) (ret := ret) hy hw ?_
  intro p e s m args below meth c s₁ B hml hv
  obtain ⟨rfl, hsz⟩ := hv
  have hts := atoms_spec (ws := ws) B.pre
  have hown : s.vm.findClass own = some m.cls := hcls ▸ findClass_of_methodNamed B.named
  have hl := lv_entry As (n := maxL) hmx
  rw [lg_entry_eq]
  exact body p e s m _ below meth c _ ⟨B.exec, B.bytes, hml, hown, hts⟩ B.returns B.notSynchronized hl _ rfl
end RK
