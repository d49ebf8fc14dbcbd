def rr_AA (q : rr_S) (k : Nat) (f : Nat → Int32) : rr_S := (q.1, (fun j => if j = k then f else q.2.1 j), q.2.2)
def rr_LL (q : rr_S) (k : Nat) (f : Nat → Int64) : rr_S := (q.1, q.2.1, fun j => if j = k then f else q.2.2 j)
def cc_cA (x : cc_CT) (k : Nat) (f : Nat → Int32) : cc_CT := (rr_AA x.1 k f, x.2)
def cc_Aw {T : Type} (g : cc_G) (w : T → cc_S) (id n : Nat) (rd : T → Nat → Int32) (wr : T → (Nat → Int32) → T) : Prop := ∃ pl : Nat, (∀ pa pls x, (cc_F g pa pls (w x))[pl]? = some (cc_ad g id, .inl (cc_cI g, n, .inl (rd x)))) ∧ (∀ pa pls x f, (cc_F g pa pls (w x)).set pl (cc_ad g id, .inl (cc_cI g, n, .inl f)) = cc_F g pa pls (w (wr x f))) ∧ ∀ x f c j, ((w (wr x f)).2.2.1 c).2.2 j = ((w x).2.2.1 c).2.2 j
def cc_As {T : Type} (g : cc_G) (w : T → cc_S) (id n : Nat) (f : Nat → Int32) : Prop := ∃ pl : Nat, ∀ pa pls x, (cc_F g pa pls (w x))[pl]? = some (cc_ad g id, .inl (cc_cI g, n, .inl f))
theorem cw_4 (g : cc_G) (q : cc_S) {k : Nat} (hk : k < 3) : cc_Aw g (cc_pC q k) (10 + 20 * k + 6) 6 (fun x => x.1.2.1 4) (fun x f => cc_cA x 4 f) := by
  rcases (show k = 0 ∨ k = 1 ∨ k = 2 by omega) with rfl | rfl | rfl
  · exact ⟨14, fun _ _ _ => rfl, fun _ _ _ _ => rfl, (fun x f c2 j => by first | rfl | (show ((if c2 = _ then _ else q.2.2.1 c2) : cc_CT).2.2 j = ((if c2 = _ then _ else q.2.2.1 c2) : cc_CT).2.2 j; split <;> rfl))⟩
  · exact ⟨23, fun _ _ _ => rfl, fun _ _ _ _ => rfl, (fun x f c2 j => by first | rfl | (show ((if c2 = _ then _ else q.2.2.1 c2) : cc_CT).2.2 j = ((if c2 = _ then _ else q.2.2.1 c2) : cc_CT).2.2 j; split <;> rfl))⟩
  · exact ⟨32, fun _ _ _ => rfl, fun _ _ _ _ => rfl, (fun x f c2 j => by first | rfl | (show ((if c2 = _ then _ else q.2.2.1 c2) : cc_CT).2.2 j = ((if c2 = _ then _ else q.2.2.1 c2) : cc_CT).2.2 j; split <;> rfl))⟩
theorem cw_5 (g : cc_G) (q : cc_S) {k : Nat} (hk : k < 3) : cc_Aw g (cc_pC q k) (10 + 20 * k + 7) 6 (fun x => x.1.2.1 5) (fun x f => cc_cA x 5 f) := by
  rcases (show k = 0 ∨ k = 1 ∨ k = 2 by omega) with rfl | rfl | rfl
  · exact ⟨15, fun _ _ _ => rfl, fun _ _ _ _ => rfl, (fun x f c2 j => by first | rfl | (show ((if c2 = _ then _ else q.2.2.1 c2) : cc_CT).2.2 j = ((if c2 = _ then _ else q.2.2.1 c2) : cc_CT).2.2 j; split <;> rfl))⟩
  · exact ⟨24, fun _ _ _ => rfl, fun _ _ _ _ => rfl, (fun x f c2 j => by first | rfl | (show ((if c2 = _ then _ else q.2.2.1 c2) : cc_CT).2.2 j = ((if c2 = _ then _ else q.2.2.1 c2) : cc_CT).2.2 j; split <;> rfl))⟩
  · exact ⟨33, fun _ _ _ => rfl, fun _ _ _ _ => rfl, (fun x f c2 j => by first | rfl | (show ((if c2 = _ then _ else q.2.2.1 c2) : cc_CT).2.2 j = ((if c2 = _ then _ else q.2.2.1 c2) : cc_CT).2.2 j; split <;> rfl))⟩
theorem cw_6 (g : cc_G) (q : cc_S) {k : Nat} (hk : k < 3) : cc_Aw g (cc_pC q k) (10 + 20 * k + 8) 6 (fun x => x.1.2.1 6) (fun x f => cc_cA x 6 f) := by
  rcases (show k = 0 ∨ k = 1 ∨ k = 2 by omega) with rfl | rfl | rfl
  · exact ⟨16, fun _ _ _ => rfl, fun _ _ _ _ => rfl, (fun x f c2 j => by first | rfl | (show ((if c2 = _ then _ else q.2.2.1 c2) : cc_CT).2.2 j = ((if c2 = _ then _ else q.2.2.1 c2) : cc_CT).2.2 j; split <;> rfl))⟩
  · exact ⟨25, fun _ _ _ => rfl, fun _ _ _ _ => rfl, (fun x f c2 j => by first | rfl | (show ((if c2 = _ then _ else q.2.2.1 c2) : cc_CT).2.2 j = ((if c2 = _ then _ else q.2.2.1 c2) : cc_CT).2.2 j; split <;> rfl))⟩
  · exact ⟨34, fun _ _ _ => rfl, fun _ _ _ _ => rfl, (fun x f c2 j => by first | rfl | (show ((if c2 = _ then _ else q.2.2.1 c2) : cc_CT).2.2 j = ((if c2 = _ then _ else q.2.2.1 c2) : cc_CT).2.2 j; split <;> rfl))⟩
theorem sw_1 (g : cc_G) (q : cc_S) {k sd : Nat} (x : cc_CT) (hk : k < 3) (hs : sd < 2) : cc_Aw g (cc_pS q k x sd) (cs_id k sd + 1) 8 (fun y => y.2.1 1) (fun y f => rr_AA y 1 f) := by
  rcases (show k = 0 ∨ k = 1 ∨ k = 2 by omega) with rfl | rfl | rfl <;> rcases (show sd = 0 ∨ sd = 1 by omega) with rfl | rfl
  · exact ⟨11, fun _ _ _ => rfl, fun _ _ _ _ => rfl, (fun x f c2 j => by first | rfl | (show ((if c2 = _ then _ else q.2.2.1 c2) : cc_CT).2.2 j = ((if c2 = _ then _ else q.2.2.1 c2) : cc_CT).2.2 j; split <;> rfl))⟩
  · exact ⟨13, fun _ _ _ => rfl, fun _ _ _ _ => rfl, (fun x f c2 j => by first | rfl | (show ((if c2 = _ then _ else q.2.2.1 c2) : cc_CT).2.2 j = ((if c2 = _ then _ else q.2.2.1 c2) : cc_CT).2.2 j; split <;> rfl))⟩
  · exact ⟨20, fun _ _ _ => rfl, fun _ _ _ _ => rfl, (fun x f c2 j => by first | rfl | (show ((if c2 = _ then _ else q.2.2.1 c2) : cc_CT).2.2 j = ((if c2 = _ then _ else q.2.2.1 c2) : cc_CT).2.2 j; split <;> rfl))⟩
  · exact ⟨22, fun _ _ _ => rfl, fun _ _ _ _ => rfl, (fun x f c2 j => by first | rfl | (show ((if c2 = _ then _ else q.2.2.1 c2) : cc_CT).2.2 j = ((if c2 = _ then _ else q.2.2.1 c2) : cc_CT).2.2 j; split <;> rfl))⟩
  · exact ⟨29, fun _ _ _ => rfl, fun _ _ _ _ => rfl, (fun x f c2 j => by first | rfl | (show ((if c2 = _ then _ else q.2.2.1 c2) : cc_CT).2.2 j = ((if c2 = _ then _ else q.2.2.1 c2) : cc_CT).2.2 j; split <;> rfl))⟩
  · exact ⟨31, fun _ _ _ => rfl, fun _ _ _ _ => rfl, (fun x f c2 j => by first | rfl | (show ((if c2 = _ then _ else q.2.2.1 c2) : cc_CT).2.2 j = ((if c2 = _ then _ else q.2.2.1 c2) : cc_CT).2.2 j; split <;> rfl))⟩
theorem oc_crt (g : cc_G) (q : cc_S) {k k2 : Nat} (hk : k < 3) (hk2 : k2 < 3) (hne : k2 ≠ k) {x2 : cc_CT} (hx2 : x2 = cc_gC q k2) : cc_Ob g (cc_pC q k) (10 + 20 * k2) 1 (fun _ => cc_cF g (10 + 20 * k2) x2) := by
  subst hx2
  rcases (show k = 0 ∨ k = 1 ∨ k = 2 by omega) with rfl | rfl | rfl <;> rcases (show k2 = 0 ∨ k2 = 1 ∨ k2 = 2 by omega) with rfl | rfl | rfl
  · exact absurd rfl hne
  · exact ⟨17, fun _ _ _ => rfl⟩
  · exact ⟨26, fun _ _ _ => rfl⟩
  · exact ⟨8, fun _ _ _ => rfl⟩
  · exact absurd rfl hne
  · exact ⟨26, fun _ _ _ => rfl⟩
  · exact ⟨8, fun _ _ _ => rfl⟩
  · exact ⟨17, fun _ _ _ => rfl⟩
  · exact absurd rfl hne
theorem oc_a4 (g : cc_G) (q : cc_S) {k k2 : Nat} (hk : k < 3) (hk2 : k2 < 3) (hne : k2 ≠ k) {x2 : cc_CT} (hx2 : x2 = cc_gC q k2) : cc_As g (cc_pC q k) (10 + 20 * k2 + 6) 6 (x2.1.2.1 4) := by
  subst hx2
  rcases (show k = 0 ∨ k = 1 ∨ k = 2 by omega) with rfl | rfl | rfl <;> rcases (show k2 = 0 ∨ k2 = 1 ∨ k2 = 2 by omega) with rfl | rfl | rfl
  · exact absurd rfl hne
  · exact ⟨23, fun _ _ _ => rfl⟩
  · exact ⟨32, fun _ _ _ => rfl⟩
  · exact ⟨14, fun _ _ _ => rfl⟩
  · exact absurd rfl hne
  · exact ⟨32, fun _ _ _ => rfl⟩
  · exact ⟨14, fun _ _ _ => rfl⟩
  · exact ⟨23, fun _ _ _ => rfl⟩
  · exact absurd rfl hne
theorem oc_a5 (g : cc_G) (q : cc_S) {k k2 : Nat} (hk : k < 3) (hk2 : k2 < 3) (hne : k2 ≠ k) {x2 : cc_CT} (hx2 : x2 = cc_gC q k2) : cc_As g (cc_pC q k) (10 + 20 * k2 + 7) 6 (x2.1.2.1 5) := by
  subst hx2
  rcases (show k = 0 ∨ k = 1 ∨ k = 2 by omega) with rfl | rfl | rfl <;> rcases (show k2 = 0 ∨ k2 = 1 ∨ k2 = 2 by omega) with rfl | rfl | rfl
  · exact absurd rfl hne
  · exact ⟨24, fun _ _ _ => rfl⟩
  · exact ⟨33, fun _ _ _ => rfl⟩
  · exact ⟨15, fun _ _ _ => rfl⟩
  · exact absurd rfl hne
  · exact ⟨33, fun _ _ _ => rfl⟩
  · exact ⟨15, fun _ _ _ => rfl⟩
  · exact ⟨24, fun _ _ _ => rfl⟩
  · exact absurd rfl hne
theorem oc_a6 (g : cc_G) (q : cc_S) {k k2 : Nat} (hk : k < 3) (hk2 : k2 < 3) (hne : k2 ≠ k) {x2 : cc_CT} (hx2 : x2 = cc_gC q k2) : cc_As g (cc_pC q k) (10 + 20 * k2 + 8) 6 (x2.1.2.1 6) := by
  subst hx2
  rcases (show k = 0 ∨ k = 1 ∨ k = 2 by omega) with rfl | rfl | rfl <;> rcases (show k2 = 0 ∨ k2 = 1 ∨ k2 = 2 by omega) with rfl | rfl | rfl
  · exact absurd rfl hne
  · exact ⟨25, fun _ _ _ => rfl⟩
  · exact ⟨34, fun _ _ _ => rfl⟩
  · exact ⟨16, fun _ _ _ => rfl⟩
  · exact absurd rfl hne
  · exact ⟨34, fun _ _ _ => rfl⟩
  · exact ⟨16, fun _ _ _ => rfl⟩
  · exact ⟨25, fun _ _ _ => rfl⟩
  · exact absurd rfl hne
theorem os_side (g : cc_G) (q : cc_S) {k k2 sd : Nat} (x : cc_CT) (hk : k < 3) (hk2 : k2 < 3) (hne : k2 ≠ k) (hs : sd < 2) {y2 : rr_S} (hy2 : y2 = cc_gS (cc_gC q k2) sd) : cc_Ob g (cc_pS q k x sd) (cs_id k2 sd) 6 (fun _ => cc_sF g (cs_id k2 sd) y2) := by
  subst hy2
  rcases (show k = 0 ∨ k = 1 ∨ k = 2 by omega) with rfl | rfl | rfl <;> rcases (show k2 = 0 ∨ k2 = 1 ∨ k2 = 2 by omega) with rfl | rfl | rfl <;> rcases (show sd = 0 ∨ sd = 1 by omega) with rfl | rfl
  · exact absurd rfl hne
  · exact absurd rfl hne
  · exact ⟨19, fun _ _ _ => rfl⟩
  · exact ⟨21, fun _ _ _ => rfl⟩
  · exact ⟨28, fun _ _ _ => rfl⟩
  · exact ⟨30, fun _ _ _ => rfl⟩
  · exact ⟨10, fun _ _ _ => rfl⟩
  · exact ⟨12, fun _ _ _ => rfl⟩
  · exact absurd rfl hne
  · exact absurd rfl hne
  · exact ⟨28, fun _ _ _ => rfl⟩
  · exact ⟨30, fun _ _ _ => rfl⟩
  · exact ⟨10, fun _ _ _ => rfl⟩
  · exact ⟨12, fun _ _ _ => rfl⟩
  · exact ⟨19, fun _ _ _ => rfl⟩
  · exact ⟨21, fun _ _ _ => rfl⟩
  · exact absurd rfl hne
  · exact absurd rfl hne
theorem os_a1 (g : cc_G) (q : cc_S) {k k2 sd : Nat} (x : cc_CT) (hk : k < 3) (hk2 : k2 < 3) (hne : k2 ≠ k) (hs : sd < 2) {y2 : rr_S} (hy2 : y2 = cc_gS (cc_gC q k2) sd) : cc_As g (cc_pS q k x sd) (cs_id k2 sd + 1) 8 (y2.2.1 1) := by
  subst hy2
  rcases (show k = 0 ∨ k = 1 ∨ k = 2 by omega) with rfl | rfl | rfl <;> rcases (show k2 = 0 ∨ k2 = 1 ∨ k2 = 2 by omega) with rfl | rfl | rfl <;> rcases (show sd = 0 ∨ sd = 1 by omega) with rfl | rfl
  · exact absurd rfl hne
  · exact absurd rfl hne
  · exact ⟨20, fun _ _ _ => rfl⟩
  · exact ⟨22, fun _ _ _ => rfl⟩
  · exact ⟨29, fun _ _ _ => rfl⟩
  · exact ⟨31, fun _ _ _ => rfl⟩
  · exact ⟨11, fun _ _ _ => rfl⟩
  · exact ⟨13, fun _ _ _ => rfl⟩
  · exact absurd rfl hne
  · exact absurd rfl hne
  · exact ⟨29, fun _ _ _ => rfl⟩
  · exact ⟨31, fun _ _ _ => rfl⟩
  · exact ⟨11, fun _ _ _ => rfl⟩
  · exact ⟨13, fun _ _ _ => rfl⟩
  · exact ⟨20, fun _ _ _ => rfl⟩
  · exact ⟨22, fun _ _ _ => rfl⟩
  · exact absurd rfl hne
  · exact absurd rfl hne
theorem oc_pl (g : cc_G) (q : cc_S) {k k2 : Nat} (hk : k < 3) (hk2 : k2 < 3) : ∃ pl : Nat, ∀ pa pls x, (cc_F g pa pls (cc_pC q k x))[pl]? = some (cc_ad g (10 + 20 * k2 + 1), .inl (cc_cP g, 8, .inr (.inr (.inr (.inr (fun j => some (pa k2 j))))))) := by
  rcases (show k2 = 0 ∨ k2 = 1 ∨ k2 = 2 by omega) with rfl | rfl | rfl
  · exact ⟨9, fun _ _ _ => rfl⟩
  · exact ⟨18, fun _ _ _ => rfl⟩
  · exact ⟨27, fun _ _ _ => rfl⟩
theorem co_plS (g : cc_G) (q : cc_S) {k : Nat} (hk : k < 3) : ∃ pl : Nat, (∀ pa pls x, (cc_F g pa pls (cc_pC q k x))[pl]? = some (cc_ad g (10 + 20 * k + 1), .inl (cc_cP g, 8, .inr (.inr (.inr (.inr (fun j => some (pa k j)))))))) ∧ ∀ pa pls x i d (pk : Nat → Nat), (cc_F g pa pls (cc_pC q k x)).set pl (cc_ad g (10 + 20 * k + 1), .inl (cc_cP g, 8, .inr (.inr (.inr (.inr (fun j => some (pk j))))))) = cc_F g (fun c => if c = k then pk else pa c) pls (cc_pC q k (cc_kP x i d)) := by
  rcases (show k = 0 ∨ k = 1 ∨ k = 2 by omega) with rfl | rfl | rfl
  · exact ⟨9, fun _ _ _ => rfl, fun _ _ _ _ _ _ => rfl⟩
  · exact ⟨18, fun _ _ _ => rfl, fun _ _ _ _ _ _ => rfl⟩
  · exact ⟨27, fun _ _ _ => rfl, fun _ _ _ _ _ _ => rfl⟩
theorem dw_1 (g : cc_G) (q : cc_S) : ∃ pl : Nat, (∀ pa pls x, (cc_F g pa pls (cc_pD q x))[pl]? = some (cc_ad g 5, .inl (cc_cJ g, 25, .inr (.inl (x.2.2 1))))) ∧ ∀ pa pls x f, (cc_F g pa pls (cc_pD q x)).set pl (cc_ad g 5, .inl (cc_cJ g, 25, .inr (.inl f))) = cc_F g pa pls (cc_pD q (rr_LL x 1 f)) := ⟨7, fun _ _ _ => rfl, fun _ _ _ _ => rfl⟩
theorem dw_0 (g : cc_G) (q : cc_S) : ∃ pl : Nat, ∀ pa pls x, (cc_F g pa pls (cc_pD q x))[pl]? = some (cc_ad g 4, .inl (cc_cJ g, 25, .inr (.inl (x.2.2 0)))) := ⟨6, fun _ _ _ => rfl⟩
section C2
variable {p : Program} {l : Launch} {e : Env} {R : Room} {s : State} {m : MethodId} {args : Array Value} {below : List Frame} {meth : Method} {c : Code} {H : Heap} {locs : List Loc} {cells slots : Nat} {Q : State → Prop}
variable {cc : ByteArray} {pc nL : Nat} {ls : Array Slot} {rest : List Value} {Ts : List Cond} {own : String} {g : cc_G} {A : Nat → Prop} {pls : va_W} {T : Type} {w : T → cc_S} {id : Nat} {x : T}
def cc_cpw (Ts : List Cond) (own : String) (index : Nat) : Prop := Cond.methodLink own index arraycopyName ∈ Ts ∧ Cond.native arraycopyName ∈ Ts ∧ Cond.static arraycopyName ∈ Ts ∧ Cond.initialized "java/lang/System" ∈ Ts
theorem cc_cpyi {id0 n0 n1 : Nat} {f : Nat → Int32} {rd : T → Nat → Int32} {wr : T → (Nat → Int32) → T} (hsrc : cc_As g w id0 n0 f) (hdst : cc_Aw g w id n1 rd wr) (X : cc_X p m c cc nL s args Ts own g A) (hsz : ls.size = nL) (G : cc_H g A pls (w x) s H locs) {index : Nat} (hw : cc_cpw Ts own index) {sp dp n : Int32} (h1 : ¬ sp < 0) (h2 : ¬ dp < 0) (h3 : ¬ n < 0) (h4 : sp.toNatClampNeg + n.toNatClampNeg ≤ n0) (h5 : dp.toNatClampNeg + n.toNatClampNeg ≤ n1) (hframes : 1 ≤ R.frames) (hlocals : (rest.map fun v => v.category).sum + (nativeFrameWords "java/lang/System" "arraycopy" 5 + 11) ≤ R.locals) {x1 : T} (eq : x1 = wr x (va_cpy f (rd x) sp.toNatClampNeg dp.toNatClampNeg n.toNatClampNeg)) (hdg : decode cc pc = .ok (.invokestatic index, 3))
    (kk : ∀ (H1 : Heap) (locs1 : List Loc), cc_H g A pls (w x1) s H1 locs1 → W p l e R s m args below meth c H1 locs1 cells slots Q (F0 m (pc + 3) ls rest)) : W p l e R s m args below meth c H locs cells slots Q (F0 m pc ls (.int n :: .int dp :: .ref (cc_ad g id) :: .int sp :: .ref (cc_ad g id0) :: rest)) := by
  subst eq
  obtain ⟨p0, hp0⟩ := hsrc
  obtain ⟨p1, hp1, hs, hpl⟩ := hdst
  obtain ⟨⟨pa, hok, hP, hD⟩, hS⟩ := G
  have hts := X.1.2.2.2.2
  have hset := hs pa pls x (va_cpy f (rd x) sp.toNatClampNeg dp.toNatClampNeg n.toNatClampNeg)
  refine va_copyi X.1.1 X.1.2.1 (X.1.2.2.1.trans hsz.symm) X.1.2.2.2.1 (hts _ hw.1) (hts _ hw.2.1) (hts _ hw.2.2.1) (hts _ hw.2.2.2) X.2.1.1 hP hD hS p0 p1 0 0 (hp0 pa pls x) (hp1 pa pls x) rfl rfl rfl h1 h2 h3 h4 h5 (fun _ _ => rfl) hframes hlocals hdg (fun H1 locs1 hP hD hS => kk H1 locs1 ⟨⟨pa, hok.put (hpl x _), ?_, ?_⟩, hS⟩)
  · rw [← hset]; exact hP
  · rw [← hset]; exact hD
theorem cc_cpyd {q : cc_S} {x : rr_S} (X : cc_X p m c cc nL s args Ts own g A) (hsz : ls.size = nL) (G : cc_H g A pls (cc_pD q x) s H locs) {index : Nat} (hw : cc_cpw Ts own index) {sp dp n : Int32} (h1 : ¬ sp < 0) (h2 : ¬ dp < 0) (h3 : ¬ n < 0) (h4 : sp.toNatClampNeg + n.toNatClampNeg ≤ 25) (h5 : dp.toNatClampNeg + n.toNatClampNeg ≤ 25) (hframes : 1 ≤ R.frames) (hlocals : (rest.map fun v => v.category).sum + (nativeFrameWords "java/lang/System" "arraycopy" 5 + 11) ≤ R.locals) {x1 : rr_S} (eq : x1 = rr_LL x 1 (va_cpy (x.2.2 0) (x.2.2 1) sp.toNatClampNeg dp.toNatClampNeg n.toNatClampNeg)) (hdg : decode cc pc = .ok (.invokestatic index, 3))
    (kk : ∀ (H1 : Heap) (locs1 : List Loc), cc_H g A pls (cc_pD q x1) s H1 locs1 → W p l e R s m args below meth c H1 locs1 cells slots Q (F0 m (pc + 3) ls rest)) : W p l e R s m args below meth c H locs cells slots Q (F0 m pc ls (.int n :: .int dp :: .ref (cc_ad g 5) :: .int sp :: .ref (cc_ad g 4) :: rest)) := by
  subst eq
  obtain ⟨p0, hp0⟩ := dw_0 g q
  obtain ⟨p1, hp1, hs⟩ := dw_1 g q
  obtain ⟨⟨pa, hok, hP, hD⟩, hS⟩ := G
  have hts := X.1.2.2.2.2
  have hset := hs pa pls x (va_cpy (x.2.2 0) (x.2.2 1) sp.toNatClampNeg dp.toNatClampNeg n.toNatClampNeg)
  refine va_copyl X.1.1 X.1.2.1 (X.1.2.2.1.trans hsz.symm) X.1.2.2.2.1 (hts _ hw.1) (hts _ hw.2.1) (hts _ hw.2.2.1) (hts _ hw.2.2.2) X.2.1.1 hP hD hS p0 p1 1 1 (hp0 pa pls x) (hp1 pa pls x) rfl rfl rfl h1 h2 h3 h4 h5 (fun _ _ => rfl) hframes hlocals hdg (fun H1 locs1 hP hD hS => kk H1 locs1 ⟨⟨pa, hok.put (fun _ _ => rfl), ?_, ?_⟩, hS⟩)
  · rw [← hset]; exact hP
  · rw [← hset]; exact hD
theorem cc_aald2 {q : cc_S} {k k2 : Nat} {y x2 : cc_CT} (hk : k < 3) (hk2 : k2 < 3) (hne : k2 ≠ k) (hx2 : x2 = cc_gC q k2) (X : cc_X p m c cc nL s args Ts own g A) (G : cc_H g A pls (cc_pC q k y) s H locs) {i : Int32} (hin : vp_in i 8) (hdg : decode cc pc = .ok (.aaload, 1))
    (kk : ∀ a : Nat, (a, cc_plc (x2.2.2 i.toNatClampNeg)) ∈ pls → W p l e R s m args below meth c H locs cells slots Q (F0 m (pc + 1) ls (.ref a :: rest))) : W p l e R s m args below meth c H locs cells slots Q (F0 m pc ls (.int i :: .ref (cc_ad g (10 + 20 * k2 + 1)) :: rest)) := by
  obtain ⟨pl, hp⟩ := oc_pl g q hk hk2
  obtain ⟨⟨pa, hok, hP, hD⟩, hS⟩ := G
  have h8 : i.toNatClampNeg < 8 := Nat.not_le.mp fun z => hin (Or.inr z)
  have hm := hok.1 k2 hk2 i.toNatClampNeg h8
  have he : ((cc_pC q k y).2.2.1 k2) = x2 := by rw [hx2]; show (if k2 = k then y else q.2.2.1 k2) = q.2.2.1 k2; rw [if_neg hne]
  rw [he] at hm
  exact va_aldq X.1.1 X.1.2.1 X.2.1.1 hP pl 3 (hp pa pls y) rfl hin hdg (kk (pa k2 i.toNatClampNeg) hm)
theorem cc_aast {q : cc_S} {k : Nat} {y : cc_CT} (hk : k < 3) (X : cc_X p m c cc nL s args Ts own g A) (G : cc_H g A pls (cc_pC q k y) s H locs) {a : Nat} {d : cc_PD} (hm : (a, cc_plc d) ∈ pls) {i : Int32} (hin : vp_in i 8) {y1 : cc_CT} (eq : y1 = cc_kP y i.toNatClampNeg d) (hdg : decode cc pc = .ok (.aastore, 1))
    (kk : ∀ (H1 : Heap) (locs1 : List Loc), cc_H g A pls (cc_pC q k y1) s H1 locs1 → W p l e R s m args below meth c H1 locs1 cells slots Q (F0 m (pc + 1) ls rest)) : W p l e R s m args below meth c H locs cells slots Q (F0 m pc ls (.ref a :: .int i :: .ref (cc_ad g (10 + 20 * k + 1)) :: rest)) := by
  subst eq
  obtain ⟨pl, hp, hs⟩ := co_plS g q hk
  obtain ⟨⟨pa, hok, hP, hD⟩, hS⟩ := G
  obtain ⟨k0, hk0⟩ := cc_mem (g := g) (pa := pa) (q := cc_pC q k y) hm
  have hset := hs pa pls y i.toNatClampNeg d (va_up (pa k) i.toNatClampNeg a)
  have hfun : (va_up (fun j => some (pa k j)) i.toNatClampNeg (some a)) = fun j => some (va_up (pa k) i.toNatClampNeg a j) := by
    funext j
    by_cases h : j = i.toNatClampNeg <;> simp [va_up, h]
  have hok2 : cc_ok (fun c => if c = k then va_up (pa k) i.toNatClampNeg a else pa c) pls (cc_pC q k (cc_kP y i.toNatClampNeg d)) := by
    refine ⟨fun c hc j hj => ?_, hok.2⟩
    have h0 := hok.1 c hc j hj
    by_cases h : c = k
    · subst h
      have e1 : ((cc_pC q c (cc_kP y i.toNatClampNeg d)).2.2.1 c) = cc_kP y i.toNatClampNeg d := by show (if c = c then _ else _) = _; rw [if_pos rfl]
      have e2 : ((cc_pC q c y).2.2.1 c) = y := by show (if c = c then _ else _) = _; rw [if_pos rfl]
      rw [e1]; rw [e2] at h0
      simp only [if_pos rfl, if_true]
      by_cases hj2 : j = i.toNatClampNeg
      · subst hj2
        have e3 : va_up (pa c) i.toNatClampNeg a i.toNatClampNeg = a := by simp [va_up]
        have e4 : (cc_kP y i.toNatClampNeg d).2.2 i.toNatClampNeg = d := by show (if _ = _ then d else _) = d; rw [if_pos rfl]
        rw [e3, e4]; exact hm
      · have e3 : va_up (pa c) i.toNatClampNeg a j = pa c j := by simp [va_up, hj2]
        have e4 : (cc_kP y i.toNatClampNeg d).2.2 j = y.2.2 j := by show (if j = _ then d else _) = _; rw [if_neg hj2]
        rw [e3, e4]; exact h0
    · have e1 : ((cc_pC q k (cc_kP y i.toNatClampNeg d)).2.2.1 c) = (cc_pC q k y).2.2.1 c := by show (if c = k then _ else _) = (if c = k then _ else _); rw [if_neg h, if_neg h]
      rw [e1]
      simp only [if_neg h]
      exact h0
  have fin : ∀ (H1 : Heap) (locs1 : List Loc), va_P g.1 vwCl ((cc_F g pa pls (cc_pC q k y)).set pl (cc_ad g (10 + 20 * k + 1), .inl (cc_cP g, 8, .inr (.inr (.inr (.inr (va_up (fun j => some (pa k j)) i.toNatClampNeg (some a)))))))) H1 → va_D A ((cc_F g pa pls (cc_pC q k y)).set pl (cc_ad g (10 + 20 * k + 1), .inl (cc_cP g, 8, .inr (.inr (.inr (.inr (va_up (fun j => some (pa k j)) i.toNatClampNeg (some a)))))))) → va_S A s.heap H1 locs1 → W p l e R s m args below meth c H1 locs1 cells slots Q (F0 m (pc + 1) ls rest) := by
    intro H1 locs1 hP hD hS
    rw [hfun, hset] at hP hD
    exact kk H1 locs1 ⟨⟨_, hok2, hP, hD⟩, hS⟩
  have hN := X.2.1.2.1
  obtain ⟨ci, f⟩ := d
  rcases cc_cls hok.2 hm with h | h | h | h | h | h <;> simp only at h <;> subst h
  · exact va_astqO X.1.1 X.1.2.1 X.2.1.1 hP hD hS pl 3 k0 0 (r := (RX0, TX0, 4)) (hp pa pls y) rfl (hN _ (by decide +kernel)) hk0 rfl hin hdg fin
  · exact va_astqO X.1.1 X.1.2.1 X.2.1.1 hP hD hS pl 3 k0 3 (r := (RX3, TX3, 4)) (hp pa pls y) rfl (hN _ (by decide +kernel)) hk0 rfl hin hdg fin
  · exact va_astq X.1.1 X.1.2.1 X.2.1.1 hP hD hS pl 3 k0 4 (r := (RX4, TX4, 4)) (hp pa pls y) rfl hk0 rfl hin hdg fin
  · exact va_astqO X.1.1 X.1.2.1 X.2.1.1 hP hD hS pl 3 k0 5 (r := (RX5, TX5, 4)) (hp pa pls y) rfl (hN _ (by decide +kernel)) hk0 rfl hin hdg fin
  · exact va_astqO X.1.1 X.1.2.1 X.2.1.1 hP hD hS pl 3 k0 8 (r := (RX8, TX8, 4)) (hp pa pls y) rfl (hN _ (by decide +kernel)) hk0 rfl hin hdg fin
  · exact va_astqO X.1.1 X.1.2.1 X.2.1.1 hP hD hS pl 3 k0 9 (r := (RX9, TX9, 4)) (hp pa pls y) rfl (hN _ (by decide +kernel)) hk0 rfl hin hdg fin
end C2
