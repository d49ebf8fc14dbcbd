section CR
variable {p : Program} {l : Launch} {e : Env} {R : Room} {s : State} {m : MethodId} {args : Array Value} {below : List Frame} {meth : Method} {c : Code} {H : Heap} {locs : List Loc} {cells slots : Nat} {Q : State → Prop}
variable {cc : ByteArray} {pc nL : Nat} {ls : Array Slot} {rest : List Value} {Ts : List Cond} {own : String} {g : cc_G} {A : Nat → Prop} {pls : va_W} {T : Type} {w : T → cc_S} {id ci : Nat} {fs : T → List Value} {x : T}
theorem cc_get (ho : cc_Ob g w id ci fs) (X : cc_X p m c cc nL s args Ts own g A) (G : cc_H g A pls (w x) s H locs) {C : String} {TT : u_T} {N : Nat} (hcl : vwCl[ci]? = some (C, TT, N)) (hin : ∀ y ∈ u_ws C TT N, y ∈ Ts) (k : Nat) (hk : k < N) {index : Nat} (hl : Cond.fieldLink own index (TT k).1 (TT k).2.1 (TT k).2.2.1 ∈ Ts) {v : Value} (hv : (fs x)[k]? = some v) (hdg : decode cc pc = .ok (.getfield index, 3))
    (kk : W p l e R s m args below meth c H locs cells slots Q (F0 m (pc + 3) ls (v :: rest))) : W p l e R s m args below meth c H locs cells slots Q (F0 m pc ls (.ref (cc_ad g id) :: rest)) := by
  obtain ⟨pl, hp⟩ := ho
  obtain ⟨⟨pa, -, hP, -⟩, -⟩ := G
  exact va_get (D := g.1) (cl := vwCl) (ci := ci) (C := C) (T := TT) (N := N) (ref := (TT k).1) X.1.1 X.1.2.1 X.1.2.2.2.2 hin X.1.2.2.2.1 X.2.1.1 hP pl (hp pa pls x) hcl k hk (X.1.2.2.2.2 _ hl) (fun _ h => h) hv hdg kk
theorem cc_getN (ho : cc_Ob g w id ci fs) (X : cc_X p m c cc nL s args Ts own g A) (G : cc_H g A pls (w x) s H locs) {C : String} {TT : u_T} {N : Nat} (hcl : vwCl[ci]? = some (C, TT, N)) (hin : ∀ y ∈ u_ws C TT N, y ∈ Ts) (k : Nat) (hk : k < N) {index : Nat} (hl : Cond.fieldLinkNest own index (TT k).1 (TT k).2.1 (TT k).2.2.1 RX10 ∈ cc_Nws) {v : Value} (hv : (fs x)[k]? = some v) (hdg : decode cc pc = .ok (.getfield index, 3))
    (kk : W p l e R s m args below meth c H locs cells slots Q (F0 m (pc + 3) ls (v :: rest))) : W p l e R s m args below meth c H locs cells slots Q (F0 m pc ls (.ref (cc_ad g id) :: rest)) := by
  obtain ⟨pl, hp⟩ := ho
  obtain ⟨⟨pa, -, hP, -⟩, -⟩ := G
  exact va_getN (D := g.1) (cl := vwCl) (ci := ci) (C := C) (T := TT) (N := N) (ref := (TT k).1) X.1.1 X.1.2.1 X.1.2.2.2.2 hin X.1.2.2.2.1 X.2.1.1 hP pl (hp pa pls x) hcl k hk (va_Nw.use rfl (X.2.1.2.1 _ hl)) (fun _ h => h) hv hdg kk
theorem cc_ok.put {pa : Nat → Nat → Nat} {q q1 : cc_S} (h : cc_ok pa pls q) (he : ∀ c j, ((q1.2.2.1 c).2.2 j) = ((q.2.2.1 c).2.2 j)) : cc_ok pa pls q1 := ⟨fun c hc j hj => by rw [he c j]; exact h.1 c hc j hj, h.2⟩
theorem cc_put {k : Nat} {wr : T → Int32 → T} (ho : cc_Oi g w id ci fs k wr) (X : cc_X p m c cc nL s args Ts own g A) (G : cc_H g A pls (w x) s H locs) {C : String} {TT : u_T} {N : Nat} (hcl : vwCl[ci]? = some (C, TT, N)) (hin : ∀ y ∈ u_ws C TT N, y ∈ Ts) (ty0 : Nat → FieldType) (hty : ∀ k, k < N → parseFieldDescriptor (TT k).2.2.1 = some (ty0 k)) (hnm : ∀ a, a < N → ∀ b, b < N → a ≠ b → (TT a).2.1 ≠ (TT b).2.1) (hk : k < N) {index : Nat} (hl : Cond.fieldLink own index (TT k).1 (TT k).2.1 (TT k).2.2.1 ∈ Ts) (hfin : (TT k).2.2.2 = false) {ty : FieldType} {v : Int32} (hd : parseFieldDescriptor (TT k).2.2.1 = some ty) (hn : narrow ty (.int v) = .int v) (hfit : fits ty (.int v) = true) {x1 : T} (eq : x1 = wr x v) (hdg : decode cc pc = .ok (.putfield index, 3))
    (kk : ∀ (H1 : Heap) (locs1 : List Loc), cc_H g A pls (w x1) s H1 locs1 → W p l e R s m args below meth c H1 locs1 cells slots Q (F0 m (pc + 3) ls rest)) : W p l e R s m args below meth c H locs cells slots Q (F0 m pc ls (.int v :: .ref (cc_ad g id) :: rest)) := by
  subst eq
  obtain ⟨pl, hp, hs, hlen, hpl⟩ := ho
  obtain ⟨⟨pa, hok, hP, hD⟩, hS⟩ := G
  have hw := hs pa pls x v
  refine va_put (D := g.1) (cl := vwCl) (ci := ci) (C := C) (T := TT) (N := N) (ref := (TT k).1) X.1.1 X.1.2.1 X.1.2.2.2.2 hin ty0 hty hnm X.1.2.2.2.1 X.2.1.1 hP hD hS pl (hp pa pls x) hcl k hk (X.1.2.2.2.2 _ hl) (fun _ h => h) hfin hd hn hfit (hlen x) hdg (fun H1 locs1 hP hD hS => kk H1 locs1 ⟨⟨pa, hok.put (hpl x v), ?_, ?_⟩, hS⟩)
  · rw [← hw]; exact hP
  · rw [← hw]; exact hD
theorem cc_putl {k : Nat} {wr : T → Int64 → T} (ho : cc_Ok g w id ci fs k wr) (X : cc_X p m c cc nL s args Ts own g A) (G : cc_H g A pls (w x) s H locs) {C : String} {TT : u_T} {N : Nat} (hcl : vwCl[ci]? = some (C, TT, N)) (hin : ∀ y ∈ u_ws C TT N, y ∈ Ts) (ty0 : Nat → FieldType) (hty : ∀ k, k < N → parseFieldDescriptor (TT k).2.2.1 = some (ty0 k)) (hnm : ∀ a, a < N → ∀ b, b < N → a ≠ b → (TT a).2.1 ≠ (TT b).2.1) (hk : k < N) (hlen : k < (fs x).length) {index : Nat} (hl : Cond.fieldLink own index (TT k).1 (TT k).2.1 (TT k).2.2.1 ∈ Ts) (hfin : (TT k).2.2.2 = false) {v : Int64} (hd : parseFieldDescriptor (TT k).2.2.1 = some .long) {x1 : T} (eq : x1 = wr x v) (hdg : decode cc pc = .ok (.putfield index, 3))
    (kk : ∀ (H1 : Heap) (locs1 : List Loc), cc_H g A pls (w x1) s H1 locs1 → W p l e R s m args below meth c H1 locs1 cells slots Q (F0 m (pc + 3) ls rest)) : W p l e R s m args below meth c H locs cells slots Q (F0 m pc ls (.long v :: .ref (cc_ad g id) :: rest)) := by
  subst eq
  obtain ⟨pl, hp, hs, hpl⟩ := ho
  obtain ⟨⟨pa, hok, hP, hD⟩, hS⟩ := G
  have hw := hs pa pls x v
  refine va_put (D := g.1) (cl := vwCl) (ci := ci) (C := C) (T := TT) (N := N) (ref := (TT k).1) X.1.1 X.1.2.1 X.1.2.2.2.2 hin ty0 hty hnm X.1.2.2.2.1 X.2.1.1 hP hD hS pl (hp pa pls x) hcl k hk (X.1.2.2.2.2 _ hl) (fun _ h => h) hfin hd rfl rfl hlen hdg (fun H1 locs1 hP hD hS => kk H1 locs1 ⟨⟨pa, hok.put (hpl x v), ?_, ?_⟩, hS⟩)
  · rw [← hw]; exact hP
  · rw [← hw]; exact hD
theorem cc_iald {n : Nat} {rd : T → Nat → Int32} {wr : T → Nat → Int32 → T} (ha : cc_Ai g w id n rd wr) (X : cc_X p m c cc nL s args Ts own g A) (G : cc_H g A pls (w x) s H locs) {i : Int32} (hin : vp_in i n) (hdg : decode cc pc = .ok (.iaload, 1))
    (kk : W p l e R s m args below meth c H locs cells slots Q (F0 m (pc + 1) ls (.int (rd x i.toNatClampNeg) :: rest))) : W p l e R s m args below meth c H locs cells slots Q (F0 m pc ls (.int i :: .ref (cc_ad g id) :: rest)) := by
  obtain ⟨pl, hp, -⟩ := ha
  obtain ⟨⟨pa, -, hP, -⟩, -⟩ := G
  exact va_iald X.1.1 X.1.2.1 X.2.1.1 hP pl 0 (hp pa pls x) rfl hin hdg kk
theorem cc_cald {n : Nat} {rd : T → Nat → Int32} {wr : T → Nat → Int32 → T} (ha : cc_Ac g w id n rd wr) (X : cc_X p m c cc nL s args Ts own g A) (G : cc_H g A pls (w x) s H locs) {i : Int32} (hin : vp_in i n) (hdg : decode cc pc = .ok (.caload, 1))
    (kk : W p l e R s m args below meth c H locs cells slots Q (F0 m (pc + 1) ls (.int (rd x i.toNatClampNeg) :: rest))) : W p l e R s m args below meth c H locs cells slots Q (F0 m pc ls (.int i :: .ref (cc_ad g id) :: rest)) := by
  obtain ⟨pl, hp, -⟩ := ha
  obtain ⟨⟨pa, -, hP, -⟩, -⟩ := G
  exact va_cald X.1.1 X.1.2.1 X.2.1.1 hP pl 2 (hp pa pls x) rfl hin hdg kk
theorem cc_lald {n : Nat} {rd : T → Nat → Int64} {wr : T → Nat → Int64 → T} (ha : cc_Al g w id n rd wr) (X : cc_X p m c cc nL s args Ts own g A) (G : cc_H g A pls (w x) s H locs) {i : Int32} (hin : vp_in i n) (hdg : decode cc pc = .ok (.laload, 1))
    (kk : W p l e R s m args below meth c H locs cells slots Q (F0 m (pc + 1) ls (.long (rd x i.toNatClampNeg) :: rest))) : W p l e R s m args below meth c H locs cells slots Q (F0 m pc ls (.int i :: .ref (cc_ad g id) :: rest)) := by
  obtain ⟨pl, hp, -⟩ := ha
  obtain ⟨⟨pa, -, hP, -⟩, -⟩ := G
  exact va_lald X.1.1 X.1.2.1 X.2.1.1 hP pl 1 (hp pa pls x) rfl hin hdg kk
theorem cc_iast {n : Nat} {rd : T → Nat → Int32} {wr : T → Nat → Int32 → T} (ha : cc_Ai g w id n rd wr) (X : cc_X p m c cc nL s args Ts own g A) (G : cc_H g A pls (w x) s H locs) {i v : Int32} (hin : vp_in i n) {x1 : T} (eq : x1 = wr x i.toNatClampNeg v) (hdg : decode cc pc = .ok (.iastore, 1))
    (kk : ∀ (H1 : Heap) (locs1 : List Loc), cc_H g A pls (w x1) s H1 locs1 → W p l e R s m args below meth c H1 locs1 cells slots Q (F0 m (pc + 1) ls rest)) : W p l e R s m args below meth c H locs cells slots Q (F0 m pc ls (.int v :: .int i :: .ref (cc_ad g id) :: rest)) := by
  subst eq
  obtain ⟨pl, hp, hs, hpl⟩ := ha
  obtain ⟨⟨pa, hok, hP, hD⟩, hS⟩ := G
  have hw := hs pa pls x i.toNatClampNeg v
  refine va_iast X.1.1 X.1.2.1 X.2.1.1 hP hD hS pl 0 (hp pa pls x) rfl hin hdg (fun H1 locs1 hP hD hS => kk H1 locs1 ⟨⟨pa, hok.put (hpl x _ v), ?_, ?_⟩, hS⟩)
  · rw [← hw]; exact hP
  · rw [← hw]; exact hD
theorem cc_cast {n : Nat} {rd : T → Nat → Int32} {wr : T → Nat → Int32 → T} (ha : cc_Ac g w id n rd wr) (X : cc_X p m c cc nL s args Ts own g A) (G : cc_H g A pls (w x) s H locs) {i v : Int32} (hin : vp_in i n) {x1 : T} (eq : x1 = wr x i.toNatClampNeg (vp_nar .char v)) (hdg : decode cc pc = .ok (.castore, 1))
    (kk : ∀ (H1 : Heap) (locs1 : List Loc), cc_H g A pls (w x1) s H1 locs1 → W p l e R s m args below meth c H1 locs1 cells slots Q (F0 m (pc + 1) ls rest)) : W p l e R s m args below meth c H locs cells slots Q (F0 m pc ls (.int v :: .int i :: .ref (cc_ad g id) :: rest)) := by
  subst eq
  obtain ⟨pl, hp, hs, hpl⟩ := ha
  obtain ⟨⟨pa, hok, hP, hD⟩, hS⟩ := G
  have hw := hs pa pls x i.toNatClampNeg (vp_nar .char v)
  refine va_cast X.1.1 X.1.2.1 X.2.1.1 hP hD hS pl 2 (hp pa pls x) rfl hin hdg (fun H1 locs1 hP hD hS => kk H1 locs1 ⟨⟨pa, hok.put (hpl x _ _), ?_, ?_⟩, hS⟩)
  · rw [← hw]; exact hP
  · rw [← hw]; exact hD
theorem cc_last {n : Nat} {rd : T → Nat → Int64} {wr : T → Nat → Int64 → T} (ha : cc_Al g w id n rd wr) (X : cc_X p m c cc nL s args Ts own g A) (G : cc_H g A pls (w x) s H locs) {i : Int32} {v : Int64} (hin : vp_in i n) {x1 : T} (eq : x1 = wr x i.toNatClampNeg v) (hdg : decode cc pc = .ok (.lastore, 1))
    (kk : ∀ (H1 : Heap) (locs1 : List Loc), cc_H g A pls (w x1) s H1 locs1 → W p l e R s m args below meth c H1 locs1 cells slots Q (F0 m (pc + 1) ls rest)) : W p l e R s m args below meth c H locs cells slots Q (F0 m pc ls (.long v :: .int i :: .ref (cc_ad g id) :: rest)) := by
  subst eq
  obtain ⟨pl, hp, hs, hpl⟩ := ha
  obtain ⟨⟨pa, hok, hP, hD⟩, hS⟩ := G
  have hw := hs pa pls x i.toNatClampNeg v
  refine va_last X.1.1 X.1.2.1 X.2.1.1 hP hD hS pl 1 (hp pa pls x) rfl hin hdg (fun H1 locs1 hP hD hS => kk H1 locs1 ⟨⟨pa, hok.put (hpl x _ v), ?_, ?_⟩, hS⟩)
  · rw [← hw]; exact hP
  · rw [← hw]; exact hD
theorem cc_ialen {n : Nat} {rd : T → Nat → Int32} {wr : T → Nat → Int32 → T} (ha : cc_Ai g w id n rd wr) (X : cc_X p m c cc nL s args Ts own g A) (G : cc_H g A pls (w x) s H locs) {v : Int32} (hv : Int32.ofNat n = v) (hdg : decode cc pc = .ok (.arraylength, 1))
    (kk : W p l e R s m args below meth c H locs cells slots Q (F0 m (pc + 1) ls (.int v :: rest))) : W p l e R s m args below meth c H locs cells slots Q (F0 m pc ls (.ref (cc_ad g id) :: rest)) := by
  obtain ⟨pl, hp, -⟩ := ha
  obtain ⟨⟨pa, -, hP, -⟩, -⟩ := G
  exact va_alen X.1.1 X.1.2.1 X.2.1.1 hP pl 0 (hp pa pls x) rfl hv hdg kk
theorem cc_calen {n : Nat} {rd : T → Nat → Int32} {wr : T → Nat → Int32 → T} (ha : cc_Ac g w id n rd wr) (X : cc_X p m c cc nL s args Ts own g A) (G : cc_H g A pls (w x) s H locs) {v : Int32} (hv : Int32.ofNat n = v) (hdg : decode cc pc = .ok (.arraylength, 1))
    (kk : W p l e R s m args below meth c H locs cells slots Q (F0 m (pc + 1) ls (.int v :: rest))) : W p l e R s m args below meth c H locs cells slots Q (F0 m pc ls (.ref (cc_ad g id) :: rest)) := by
  obtain ⟨pl, hp, -⟩ := ha
  obtain ⟨⟨pa, -, hP, -⟩, -⟩ := G
  exact va_alen X.1.1 X.1.2.1 X.2.1.1 hP pl 2 (hp pa pls x) rfl hv hdg kk
theorem cc_lalen {n : Nat} {rd : T → Nat → Int64} {wr : T → Nat → Int64 → T} (ha : cc_Al g w id n rd wr) (X : cc_X p m c cc nL s args Ts own g A) (G : cc_H g A pls (w x) s H locs) {v : Int32} (hv : Int32.ofNat n = v) (hdg : decode cc pc = .ok (.arraylength, 1))
    (kk : W p l e R s m args below meth c H locs cells slots Q (F0 m (pc + 1) ls (.int v :: rest))) : W p l e R s m args below meth c H locs cells slots Q (F0 m pc ls (.ref (cc_ad g id) :: rest)) := by
  obtain ⟨pl, hp, -⟩ := ha
  obtain ⟨⟨pa, -, hP, -⟩, -⟩ := G
  exact va_alen X.1.1 X.1.2.1 X.2.1.1 hP pl 1 (hp pa pls x) rfl hv hdg kk
/-! players -/
theorem cc_tail (g : cc_G) (pa : Nat → Nat → Nat) (pls : va_W) (q : cc_S) : cc_F g pa pls q = cc_F g pa [] q ++ pls := rfl
theorem cc_mem {pa : Nat → Nat → Nat} {q : cc_S} {z : Nat × va_E} (hm : z ∈ pls) : ∃ k : Nat, (cc_F g pa pls q)[k]? = some z := by
  have h : z ∈ cc_F g pa pls q := by rw [cc_tail]; exact List.mem_append_right _ hm
  exact List.getElem?_of_mem h
theorem cc_cls {a : Nat} {d : cc_PD} (hok : cc_okp pls) (hm : (a, cc_plc d) ∈ pls) : cc_isP d.1 := by
  obtain ⟨d1, h1, h2⟩ := hok _ hm
  have h3 : d.1 = d1.1 := by
    have h4 : cc_plc d = cc_plc d1 := h1
    unfold cc_plc at h4
    injection h4 with h5
    injection h5
  rw [h3]; exact h2
def cc_pW (Ts : List Cond) : Prop := (∀ y ∈ wsX00, y ∈ Ts) ∧ (∀ y ∈ wsX30, y ∈ Ts) ∧ (∀ y ∈ wsX40, y ∈ Ts) ∧ (∀ y ∈ wsX50, y ∈ Ts) ∧ (∀ y ∈ wsX80, y ∈ Ts) ∧ ∀ y ∈ wsX90, y ∈ Ts
theorem cc_T0 : TX0 = TX4 := rfl
theorem cc_T3 : TX3 = TX4 := rfl
theorem cc_T5 : TX5 = TX4 := rfl
theorem cc_T8 : TX8 = TX4 := rfl
theorem cc_T9 : TX9 = TX4 := rfl
theorem cc_cl {k : Nat} (h : cc_isP k) (hpw : cc_pW Ts) : ∃ C : String, vwCl[k]? = some (C, TX4, 4) ∧ ∀ y ∈ u_ws C TX4 4, y ∈ Ts := by
  rcases h with rfl | rfl | rfl | rfl | rfl | rfl
  · exact ⟨RX0, rfl, hpw.1⟩
  · exact ⟨RX3, rfl, hpw.2.1⟩
  · exact ⟨RX4, rfl, hpw.2.2.1⟩
  · exact ⟨RX5, rfl, hpw.2.2.2.1⟩
  · exact ⟨RX8, rfl, hpw.2.2.2.2.1⟩
  · exact ⟨RX9, rfl, hpw.2.2.2.2.2⟩
theorem cp_get {D : va_G} {a : Nat} {d : cc_PD} (hx : p.tables.exec = Jvm.exec) (hb : c.code = cc) (hts : ∀ y ∈ Ts, y.before args s = true) (hown : s.vm.findClass own = some m.cls) {tys : List (ClassId × FieldType)} (hK : va_K D vwCl tys s) {ws : va_W} (hP : va_P D vwCl ws H) {q0 : Nat} (he : ws[q0]? = some (a, cc_plc d)) (hci : cc_isP d.1) (hpw : cc_pW Ts) (k : Nat) (hk : k < 4) {index : Nat} (hl : (Cond.fieldLink own index (TX4 k).1 (TX4 k).2.1 (TX4 k).2.2.1).before args s = true) {v : Value} (hv : ([.int (d.2 0), .int (d.2 1), .int (d.2 2), .int (d.2 3)] : List Value)[k]? = some v) (hdg : decode cc pc = .ok (.getfield index, 3))
    (kk : W p l e R s m args below meth c H locs cells slots Q (F0 m (pc + 3) ls (v :: rest))) : W p l e R s m args below meth c H locs cells slots Q (F0 m pc ls (.ref a :: rest)) := by
  obtain ⟨C, h1, h2⟩ := cc_cl hci hpw
  exact va_get (D := D) (cl := vwCl) (ci := d.1) (C := C) (T := TX4) (N := 4) (ref := (TX4 k).1) hx hb hts h2 hown hK hP q0 he h1 k hk hl (fun _ h => h) hv hdg kk
theorem cp_getN {D : va_G} {a : Nat} {d : cc_PD} (hx : p.tables.exec = Jvm.exec) (hb : c.code = cc) (hts : ∀ y ∈ Ts, y.before args s = true) (hown : s.vm.findClass own = some m.cls) {tys : List (ClassId × FieldType)} (hK : va_K D vwCl tys s) {ws : va_W} (hP : va_P D vwCl ws H) {q0 : Nat} (he : ws[q0]? = some (a, cc_plc d)) (hci : cc_isP d.1) (hpw : cc_pW Ts) (k : Nat) (hk : k < 4) {index : Nat} {host : String} (hl : (Cond.fieldLinkNest own index (TX4 k).1 (TX4 k).2.1 (TX4 k).2.2.1 host).before args s = true) {v : Value} (hv : ([.int (d.2 0), .int (d.2 1), .int (d.2 2), .int (d.2 3)] : List Value)[k]? = some v) (hdg : decode cc pc = .ok (.getfield index, 3))
    (kk : W p l e R s m args below meth c H locs cells slots Q (F0 m (pc + 3) ls (v :: rest))) : W p l e R s m args below meth c H locs cells slots Q (F0 m pc ls (.ref a :: rest)) := by
  obtain ⟨C, h1, h2⟩ := cc_cl hci hpw
  exact va_getN (D := D) (cl := vwCl) (ci := d.1) (C := C) (T := TX4) (N := 4) (ref := (TX4 k).1) hx hb hts h2 hown hK hP q0 he h1 k hk hl (fun _ h => h) hv hdg kk
theorem cc_getP {a : Nat} {d : cc_PD} {q : cc_S} (hm : (a, cc_plc d) ∈ pls) (X : cc_X p m c cc nL s args Ts own g A) (G : cc_H g A pls q s H locs) (hpw : cc_pW Ts) (k : Nat) (hk : k < 4) {index : Nat} (hl : Cond.fieldLinkNest own index (TX4 k).1 (TX4 k).2.1 (TX4 k).2.2.1 RX10 ∈ cc_Nws) {v : Value} (hv : ([.int (d.2 0), .int (d.2 1), .int (d.2 2), .int (d.2 3)] : List Value)[k]? = some v) (hdg : decode cc pc = .ok (.getfield index, 3))
    (kk : W p l e R s m args below meth c H locs cells slots Q (F0 m (pc + 3) ls (v :: rest))) : W p l e R s m args below meth c H locs cells slots Q (F0 m pc ls (.ref a :: rest)) := by
  obtain ⟨⟨pa, hok, hP, -⟩, -⟩ := G
  obtain ⟨k0, hk0⟩ := cc_mem (g := g) (pa := pa) (q := q) hm
  exact cp_getN X.1.1 X.1.2.1 X.1.2.2.2.2 X.1.2.2.2.1 X.2.1.1 hP hk0 (cc_cls hok.2 hm) hpw k hk (va_Nw.use rfl (X.2.1.2.1 _ hl)) hv hdg kk
theorem co_pl (g : cc_G) (q : cc_S) {c : Nat} (hc : c < 3) : ∃ pl : Nat, ∀ pa pls x, (cc_F g pa pls (cc_pC q c x))[pl]? = some (cc_ad g (10 + 20 * c + 1), .inl (cc_cP g, 8, .inr (.inr (.inr (.inr (fun j => some (pa c j))))))) := by
  rcases (show c = 0 ∨ c = 1 ∨ c = 2 by omega) with rfl | rfl | rfl
  · exact ⟨9, fun _ _ _ => rfl⟩
  · exact ⟨18, fun _ _ _ => rfl⟩
  · exact ⟨27, fun _ _ _ => rfl⟩
theorem cc_aald {q : cc_S} {k : Nat} {y : cc_CT} (hc : k < 3) (X : cc_X p m c cc nL s args Ts own g A) (G : cc_H g A pls (cc_pC q k y) s H locs) {i : Int32} (hin : vp_in i 8) (hdg : decode cc pc = .ok (.aaload, 1))
    (kk : ∀ a : Nat, (a, cc_plc (y.2.2 i.toNatClampNeg)) ∈ pls → W p l e R s m args below meth c H locs cells slots Q (F0 m (pc + 1) ls (.ref a :: rest))) : W p l e R s m args below meth c H locs cells slots Q (F0 m pc ls (.int i :: .ref (cc_ad g (10 + 20 * k + 1)) :: rest)) := by
  obtain ⟨pl, hp⟩ := co_pl g q hc
  obtain ⟨⟨pa, hok, hP, hD⟩, hS⟩ := G
  have h8 : i.toNatClampNeg < 8 := Nat.not_le.mp fun z => hin (Or.inr z)
  have hm := hok.1 k hc i.toNatClampNeg h8
  have he : ((cc_pC q k y).2.2.1 k) = y := by show (if k = k then y else _) = y; rw [if_pos rfl]
  rw [he] at hm
  exact va_aldq X.1.1 X.1.2.1 X.2.1.1 hP pl 3 (hp pa pls y) rfl hin hdg (kk (pa k i.toNatClampNeg) hm)
/-! calls -/
theorem cc_blind (q : cc_S) (av : List Value) (sz : Nat) : FrameBlind (cc_Pre g A pls q av sz) := fun a U f mk z => by
  obtain ⟨q0, q1, qW, qK, qN, qT, qR⟩ := z
  exact ⟨q0, q1, qW, va_K.moved (u := U) (U := U.calling f mk a) (Vm.Alike.refl U.vm) qK, cc_N.same (u := U) (U := U.calling f mk a) rfl qN, cc_TB.moved (u := U) (U := U.calling f mk a) (Vm.Alike.refl U.vm) qT, js_R.same (u := U) (U := U.calling f mk a) rfl qR⟩
theorem cc_Kat {q : cc_S} (X : cc_X p m c cc nL s args Ts own g A) (G : cc_H g A pls q s H locs) {U : State} (hU : U.heap = H) (hW : s.WarmedH U.vm) : cc_K g A U U.heap := by
  refine ⟨va_K.moved hW.alike X.2.1.1, cc_N.warm hW X.2.1.2.1, ?_, js_R.warm hW X.2.1.2.2.2⟩
  rw [hU]
  exact (X.2.1.2.2.1.moved hW.alike).kept G.2.2.1
theorem cc_preV {q : cc_S} (hq : q = w x) (ho : cc_Ob g w id ci fs) (X : cc_X p m c cc nL s args Ts own g A) (G : cc_H g A pls (w x) s H locs) {C : String} {TT : u_T} {N : Nat} (hcl : vwCl[ci]? = some (C, TT, N)) (As : List Value) : PreV s H C (cc_ad g id) (cc_Pre g A pls q (.ref (cc_ad g id) :: As) H.size) As := by
  subst hq
  refine ⟨cc_blind _ _ _, ?_, fun U hU hW => ⟨rfl, by show U.heap.size = H.size; rw [hU], by rw [hU]; exact G.1, cc_Kat X G hU hW⟩⟩
  obtain ⟨pl, hp⟩ := ho
  obtain ⟨⟨pa, -, hP, -⟩, -⟩ := G
  exact va_recv X.2.1.1 hP (q := (C, TT, N)) hcl (hp pa pls x)
theorem cc_cali {q q1 q2 : cc_S} {r : Int32} (hq : q = w x) (hq2 : q1 = q2) (ho : cc_Ob g w id ci fs) (X : cc_X p m c cc nL s args Ts own g A) (G : cc_H g A pls (w x) s H locs) {C : String} {TT : u_T} {N : Nat} (hcl : vwCl[ci]? = some (C, TT, N)) {y : MethodName} {bytes : ByteArray} {maxL n index : Nat} {ret : Option FieldType} {wsc : List Cond} {rmc : Room} {As st0 : List Value} (hM : cc_Mi l y wsc rmc g pls (.ref (cc_ad g id) :: As) q r q1) (cw : CallW R s args own C index y bytes maxL ret wsc rmc 0 0 n) (hn : As.length = n) (hsz : ls.size = nL) (hst : st0 = As.reverse ++ .ref (cc_ad g id) :: rest) (hW : (rest.map fun v => v.category).sum ≤ 8) (hdg : decode cc pc = .ok (.invokevirtual index, 3))
    (kk : ∀ (H1 : Heap) (locs1 : List Loc), cc_H g A pls q2 s H1 locs1 → W p l e R s m args below meth c H1 locs1 0 0 Q (F0 m (pc + 3) ls (.int r :: rest))) : W p l e R s m args below meth c H locs 0 0 Q (F0 m pc ls st0) := by
  subst hq2
  have hA : ∀ x, H.size ≤ x → A x := fun x h => X.2.2 x (Nat.le_trans G.2.1 h)
  refine va_calli (va_runV (As := As) (rest := rest) X.1 (hM H.size A hA) cw (cc_preV hq ho X G hcl As) rfl hn hsz hst (lv_room hW) hdg ⟨Nat.zero_le _, Nat.zero_le _⟩) G.2 (fun _ _ h => h) (fun _ h => h) (fun r1 u t H1 locs1 ht hvm hw hB hz hk hS => ?_)
  obtain ⟨rfl, rfl⟩ := hw
  exact kk H1 locs1 ⟨by rw [← ht]; exact hB.1, hS⟩
theorem cc_call {q q1 q2 : cc_S} {r : Int64} (hq : q = w x) (hq2 : q1 = q2) (ho : cc_Ob g w id ci fs) (X : cc_X p m c cc nL s args Ts own g A) (G : cc_H g A pls (w x) s H locs) {C : String} {TT : u_T} {N : Nat} (hcl : vwCl[ci]? = some (C, TT, N)) {y : MethodName} {bytes : ByteArray} {maxL n index : Nat} {ret : Option FieldType} {wsc : List Cond} {rmc : Room} {As st0 : List Value} (hM : cc_Ml l y wsc rmc g pls (.ref (cc_ad g id) :: As) q r q1) (cw : CallW R s args own C index y bytes maxL ret wsc rmc 0 0 n) (hn : As.length = n) (hsz : ls.size = nL) (hst : st0 = As.reverse ++ .ref (cc_ad g id) :: rest) (hW : (rest.map fun v => v.category).sum ≤ 8) (hdg : decode cc pc = .ok (.invokevirtual index, 3))
    (kk : ∀ (H1 : Heap) (locs1 : List Loc), cc_H g A pls q2 s H1 locs1 → W p l e R s m args below meth c H1 locs1 0 0 Q (F0 m (pc + 3) ls (.long r :: rest))) : W p l e R s m args below meth c H locs 0 0 Q (F0 m pc ls st0) := by
  subst hq2
  have hA : ∀ x, H.size ≤ x → A x := fun x h => X.2.2 x (Nat.le_trans G.2.1 h)
  refine va_calll (va_runV (As := As) (rest := rest) X.1 (hM H.size A hA) cw (cc_preV hq ho X G hcl As) rfl hn hsz hst (lv_room hW) hdg ⟨Nat.zero_le _, Nat.zero_le _⟩) G.2 (fun _ _ h => h) (fun _ h => h) (fun r1 u t H1 locs1 ht hvm hw hB hz hk hS => ?_)
  obtain ⟨rfl, rfl⟩ := hw
  exact kk H1 locs1 ⟨by rw [← ht]; exact hB.1, hS⟩
theorem cc_calv {q q1 q2 : cc_S} (hq : q = w x) (hq2 : q1 = q2) (ho : cc_Ob g w id ci fs) (X : cc_X p m c cc nL s args Ts own g A) (G : cc_H g A pls (w x) s H locs) {C : String} {TT : u_T} {N : Nat} (hcl : vwCl[ci]? = some (C, TT, N)) {y : MethodName} {bytes : ByteArray} {maxL n index : Nat} {ret : Option FieldType} {wsc : List Cond} {rmc : Room} {As st0 : List Value} (hM : cc_Mv l y wsc rmc g pls (.ref (cc_ad g id) :: As) q q1) (cw : CallW R s args own C index y bytes maxL ret wsc rmc 0 0 n) (hn : As.length = n) (hsz : ls.size = nL) (hst : st0 = As.reverse ++ .ref (cc_ad g id) :: rest) (hW : (rest.map fun v => v.category).sum ≤ 8) (hdg : decode cc pc = .ok (.invokevirtual index, 3))
    (kk : ∀ (H1 : Heap) (locs1 : List Loc), cc_H g A pls q2 s H1 locs1 → W p l e R s m args below meth c H1 locs1 0 0 Q (F0 m (pc + 3) ls rest)) : W p l e R s m args below meth c H locs 0 0 Q (F0 m pc ls st0) := by
  subst hq2
  have hA : ∀ x, H.size ≤ x → A x := fun x h => X.2.2 x (Nat.le_trans G.2.1 h)
  refine va_callv (va_runV (As := As) (rest := rest) X.1 (hM H.size A hA) cw (cc_preV hq ho X G hcl As) rfl hn hsz hst (lv_room hW) hdg ⟨Nat.zero_le _, Nat.zero_le _⟩) G.2 (fun _ _ h => h) (fun _ h => h) (fun u t H1 locs1 ht hvm hw hB hz hk hS => ?_)
  obtain rfl := hw
  exact kk H1 locs1 ⟨by rw [← ht]; exact hB.1, hS⟩
theorem cc_calo {q q1 q2 : cc_S} {r : Nat} (hq : q = w x) (hq2 : q1 = q2) (ho : cc_Ob g w id ci fs) (X : cc_X p m c cc nL s args Ts own g A) (G : cc_H g A pls (w x) s H locs) {C : String} {TT : u_T} {N : Nat} (hcl : vwCl[ci]? = some (C, TT, N)) {y : MethodName} {bytes : ByteArray} {maxL n index : Nat} {ret : Option FieldType} {wsc : List Cond} {rmc : Room} {As st0 : List Value} (hM : cc_Mo l y wsc rmc g pls (.ref (cc_ad g id) :: As) q r q1) (cw : CallW R s args own C index y bytes maxL ret wsc rmc 0 0 n) (hn : As.length = n) (hsz : ls.size = nL) (hst : st0 = As.reverse ++ .ref (cc_ad g id) :: rest) (hW : (rest.map fun v => v.category).sum ≤ 8) (hdg : decode cc pc = .ok (.invokevirtual index, 3))
    (kk : ∀ (H1 : Heap) (locs1 : List Loc), cc_H g A pls q2 s H1 locs1 → W p l e R s m args below meth c H1 locs1 0 0 Q (F0 m (pc + 3) ls (.ref r :: rest))) : W p l e R s m args below meth c H locs 0 0 Q (F0 m pc ls st0) := by
  subst hq2
  have hA : ∀ x, H.size ≤ x → A x := fun x h => X.2.2 x (Nat.le_trans G.2.1 h)
  refine va_callr (va_runV (As := As) (rest := rest) X.1 (hM H.size A hA) cw (cc_preV hq ho X G hcl As) rfl hn hsz hst (lv_room hW) hdg ⟨Nat.zero_le _, Nat.zero_le _⟩) G.2 (fun _ _ h => h) (fun _ h => h) (fun u a t H1 locs1 ht hvm hw hB hz hk hS => ?_)
  obtain rfl := hw
  obtain ⟨rfl, hB⟩ := hB
  exact kk H1 locs1 ⟨by rw [← ht]; exact hB.1, hS⟩
theorem cc_kept {q : cc_S} {H1 : Heap} {locs1 : List Loc} (G : cc_H g A pls q s H locs) (hk : ∀ x : Nat, x < H.size → ¬ False → H1[x]? = H[x]?) (hS : va_S A s.heap H1 locs1) : cc_H g A pls q s H1 locs1 := by
  obtain ⟨⟨pa, hok, hP, hD⟩, -⟩ := G
  exact ⟨⟨pa, hok, hP.kept (fun k x hx => hk x.1 (va_at.lt (hP k x hx)) (fun z => z)), hD⟩, hS⟩
theorem cc_csi {q : cc_S} (X : cc_X p m c cc nL s args Ts own g A) (G : cc_H g A pls q s H locs) {y : MethodName} {bytes : ByteArray} {maxL n index : Nat} {ret : Option FieldType} {wsc : List Cond} {rmc : Room} {As st0 : List Value} {res : Int32} (hM : xs_Mi l y wsc rmc As res) (cw : CallB R s args own index y bytes maxL ret wsc rmc 0 0 n ∧ (Cond.static y).before args s = true) (hn : As.length = n) (hsz : ls.size = nL) (hst : st0 = As.reverse ++ rest) (hW : (rest.map fun v => v.category).sum ≤ 8) (hdg : decode cc pc = .ok (.invokestatic index, 3))
    (kk : ∀ (H1 : Heap) (locs1 : List Loc), cc_H g A pls q s H1 locs1 → W p l e R s m args below meth c H1 locs1 0 0 Q (F0 m (pc + 3) ls (.int res :: rest))) : W p l e R s m args below meth c H locs 0 0 Q (F0 m pc ls st0) := by
  refine va_calli (va_runS (As := As) (rest := rest) X.1 (hM H.size) cw (xs_pre As) rfl hn hsz hst (lv_room hW) hdg ⟨Nat.zero_le _, Nat.zero_le _⟩) G.2 (fun _ _ h => h.elim) (fun _ h => h.elim) (fun r u t H1 locs1 ht hvm hw hB hz hk hS => ?_)
  obtain rfl := hw
  exact kk H1 locs1 (cc_kept G hk hS)
theorem cc_csl {q : cc_S} (X : cc_X p m c cc nL s args Ts own g A) (G : cc_H g A pls q s H locs) {y : MethodName} {bytes : ByteArray} {maxL n index : Nat} {ret : Option FieldType} {wsc : List Cond} {rmc : Room} {As st0 : List Value} {res : Int64} (hM : xs_Ml l y wsc rmc As res) (cw : CallB R s args own index y bytes maxL ret wsc rmc 0 0 n ∧ (Cond.static y).before args s = true) (hn : As.length = n) (hsz : ls.size = nL) (hst : st0 = As.reverse ++ rest) (hW : (rest.map fun v => v.category).sum ≤ 8) (hdg : decode cc pc = .ok (.invokestatic index, 3))
    (kk : ∀ (H1 : Heap) (locs1 : List Loc), cc_H g A pls q s H1 locs1 → W p l e R s m args below meth c H1 locs1 0 0 Q (F0 m (pc + 3) ls (.long res :: rest))) : W p l e R s m args below meth c H locs 0 0 Q (F0 m pc ls st0) := by
  refine va_calll (va_runS (As := As) (rest := rest) X.1 (hM H.size) cw (xs_pre As) rfl hn hsz hst (lv_room hW) hdg ⟨Nat.zero_le _, Nat.zero_le _⟩) G.2 (fun _ _ h => h.elim) (fun _ h => h.elim) (fun r u t H1 locs1 ht hvm hw hB hz hk hS => ?_)
  obtain rfl := hw
  exact kk H1 locs1 (cc_kept G hk hS)
theorem cc_csn {q : cc_S} (X : cc_X p m c cc nL s args Ts own g A) (G : cc_H g A pls q s H locs) {y : MethodName} {bytes : ByteArray} {maxL n index : Nat} {ret : Option FieldType} {wsc : List Cond} {rmc : Room} {As st0 : List Value} {res : Int32} {host : String} (hM : xs_Mi l y wsc rmc As res) (cw : va_CN R s args own index y host bytes maxL ret wsc rmc 0 0 n ∧ (Cond.static y).before args s = true ∧ True) (hn : As.length = n) (hsz : ls.size = nL) (hst : st0 = As.reverse ++ rest) (hW : (rest.map fun v => v.category).sum ≤ 8) (hdg : decode cc pc = .ok (.invokestatic index, 3))
    (kk : ∀ (H1 : Heap) (locs1 : List Loc), cc_H g A pls q s H1 locs1 → W p l e R s m args below meth c H1 locs1 0 0 Q (F0 m (pc + 3) ls (.int res :: rest))) : W p l e R s m args below meth c H locs 0 0 Q (F0 m pc ls st0) := by
  refine va_calli (va_runSN (As := As) (rest := rest) X.1 (hM H.size) cw (xs_pre As) rfl hn hsz hst (lv_room hW) hdg ⟨Nat.zero_le _, Nat.zero_le _⟩) G.2 (fun _ _ h => h.elim) (fun _ h => h.elim) (fun r u t H1 locs1 ht hvm hw hB hz hk hS => ?_)
  obtain rfl := hw
  exact kk H1 locs1 (cc_kept G hk hS)
/-! ends and starts -/
theorem cc_iret {ty : FieldType} {q q1 : cc_S} {r v : Int32} (X : cc_X p m c cc nL s args Ts own g A) (hr : meth.sig.returnType = some ty) (hlk : meth.locks = false) (hn : narrow ty (.int v) = .int v) (G : cc_H g A pls q s H locs) (h1 : v = r) (h2 : q = q1) (hQ : Q = MQ below (va_Qi (fun (x : Int32) (u : cc_S) => x = r ∧ u = q1) (cc_B g A pls) A) args s 0 0 A) (hdg : decode cc pc = .ok (.ireturn, 1)) : W p l e R s m args below meth c H locs 0 0 Q (F0 m pc ls [.int v]) := by
  subst hQ; subst h1; subst h2
  exact W.zret X.1.1 X.1.2.1 hr hn (fun t ht hW => ⟨⟨v, q, rfl, ⟨rfl, rfl⟩, by rw [ht]; exact G.1, cc_Kat X G ht hW⟩, G.2.F ht⟩) G.2.2.2 hdg hlk
theorem cc_lret {q q1 : cc_S} {r v : Int64} (X : cc_X p m c cc nL s args Ts own g A) (hr : meth.sig.returnType = some .long) (hlk : meth.locks = false) (G : cc_H g A pls q s H locs) (h1 : v = r) (h2 : q = q1) (hQ : Q = MQ below (va_Ql (fun (x : Int64) (u : cc_S) => x = r ∧ u = q1) (cc_B g A pls) A) args s 0 0 A) (hdg : decode cc pc = .ok (.lreturn, 1)) : W p l e R s m args below meth c H locs 0 0 Q (F0 m pc ls [.long v]) := by
  subst hQ; subst h1; subst h2
  exact W.lret X.1.1 X.1.2.1 hr (fun t ht hW => ⟨⟨v, q, rfl, ⟨rfl, rfl⟩, by rw [ht]; exact G.1, cc_Kat X G ht hW⟩, G.2.F ht⟩) G.2.2.2 hdg hlk
theorem cc_vret {q q1 : cc_S} (X : cc_X p m c cc nL s args Ts own g A) (hr : meth.sig.returnType = none) (hlk : meth.locks = false) (G : cc_H g A pls q s H locs) (h2 : q = q1) (hQ : Q = MQ below (va_Qv (fun (u : cc_S) => u = q1) (cc_B g A pls) A) args s 0 0 A) (hdg : decode cc pc = .ok (.return_, 1)) : W p l e R s m args below meth c H locs 0 0 Q (F0 m pc ls []) := by
  subst hQ; subst h2
  exact W.vret X.1.1 X.1.2.1 hr (fun t ht hW => ⟨⟨q, rfl, rfl, by rw [ht]; exact G.1, cc_Kat X G ht hW⟩, G.2.F ht⟩) G.2.2.2 hdg hlk
theorem cc_oret {rt : FieldType} {q q1 : cc_S} {r v : Nat} (X : cc_X p m c cc nL s args Ts own g A) (hr : meth.sig.returnType = some rt) (hrt : ∃ n, rt = .object n) (hlk : meth.locks = false) (G : cc_H g A pls q s H locs) (h1 : v = r) (h2 : q = q1) (hQ : Q = MQ below (va_Qr (fun (u : cc_S) => u = q1) (fun u a t => a = r ∧ cc_B g A pls u t) A) args s 0 0 A) (hdg : decode cc pc = .ok (.areturn, 1)) : W p l e R s m args below meth c H locs 0 0 Q (F0 m pc ls [.ref v]) := by
  subst hQ; subst h1; subst h2
  exact W.aret X.1.1 X.1.2.1 hr (Or.inl hrt) (Or.inr ⟨v, rfl⟩) (fun t ht hW => ⟨⟨q, v, rfl, rfl, rfl, by rw [ht]; exact G.1, cc_Kat X G ht hW⟩, G.2.F ht⟩) G.2.2.2 hdg hlk
theorem cc_ofW {y : MethodName} {ws ws' : List Cond} {rm : Room} {maxL : Nat} {ret : Option FieldType} {av : List Value} {q : cc_S} {Qc : Array Value → State → Outcome → State → Prop} {sz : Nat} (hA : ∀ x, sz ≤ x → A x) (hy : plainName y.cls = true) (hw : ws = Cond.code y cc maxL ret :: ws') (hcls : y.cls = own) (hmx : (lg_sl av).length ≤ maxL)
    (body : ∀ (p : Program) (e : Env) (s : State) (m : MethodId) (args : Array Value) (below : List Frame) (meth : Method) (c : Code) (ls : Array Slot), cc_X p m c cc maxL s args ws own g A → meth.sig.returnType = ret → meth.locks = false → cc_H g A pls q s s.heap [] → lv_has ls maxL (lv_args 0 av) → ∀ (Q : State → Prop), Q = MQ below Qc args s 0 0 A → W p l e (headSpec ws rm).room s m args below meth c s.heap [] 0 0 Q (F0 m 0 ls [])) : Met l y ws rm (cc_Pre g A pls q av sz) Qc 0 0 A := by
  refine Met.ofW (cc := cc) (maxL := maxL) (ret := ret) hy hw ?_
  intro p e s m args below meth c s₁ B hml hv
  obtain ⟨rfl, hsz, hW, hK⟩ := hv
  have hts := atoms_spec (ws := ws) B.pre
  have hown : s.vm.findClass own = some m.cls := hcls ▸ findClass_of_methodNamed B.named
  have hl := lv_entry av (n := maxL) hmx
  rw [lg_entry_eq]
  exact body p e s m _ below meth c _ ⟨⟨B.exec, B.bytes, hml, hown, hts⟩, hK, hsz ▸ hA⟩ B.returns B.notSynchronized ⟨hW, va_S.rf⟩ hl _ rfl
end CR
