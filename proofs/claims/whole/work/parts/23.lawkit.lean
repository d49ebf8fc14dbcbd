theorem js_Z.narrow {ad : Nat → Nat} {A B : Nat → Prop} {U : State} {H : Heap} (h : js_Z ad A U H) (hAB : ∀ q, B q → A q) : js_Z ad B U H := ⟨h.1.narrow hAB, h.2.1.narrow hAB, h.2.2.narrow hAB⟩
theorem cc_TB.narrow {g : cc_G} {A B : Nat → Prop} {U : State} {H : Heap} (h : cc_TB g A U H) (hAB : ∀ q, B q → A q) : cc_TB g B U H := ⟨h.1.narrow hAB, h.2.1.narrow hAB, h.2.2.1.narrow hAB, h.2.2.2.1.narrow hAB, h.2.2.2.2.narrow hAB⟩
theorem rr_fst_get' {g : rr_G} {q : rr_S} {k : Nat} {x : Nat × va_E} (h : (rr_W g rr_0)[k]? = some x) : ∃ e, (rr_W g q)[k]? = some (x.1, e) := by
  have h1 : ((rr_W g rr_0).map (fun x => x.1))[k]? = some x.1 := by rw [List.getElem?_map, h]; rfl
  rw [← rr_fst g q, List.getElem?_map] at h1
  cases h2 : (rr_W g q)[k]? with
  | none => rw [h2] at h1; cases h1
  | some y =>
    rw [h2] at h1
    obtain ⟨y1, y2⟩ := y
    have h3 : y1 = x.1 := Option.some.inj h1
    exact ⟨y2, by rw [← h3]⟩
def lw_G (g : cc_G) (ad : Nat → Nat) : rr_G := (g.1, cc_cI g, cc_cJ g, ad)
/-- the law's world: the landed object's cells, the reference's cells, apart -/
def lw_H (g : cc_G) (ad : Nat → Nat) (A : Nat → Prop) (pls : va_W) (q : cc_S) (r : rr_S) (s : State) (H : Heap) (locs : List Loc) : Prop := (∃ pa, cc_ok pa pls q ∧ va_P g.1 vwCl (cc_F g pa pls q) H ∧ va_D A (cc_F g pa pls q) ∧ ∀ (i j : Nat) (z y : Nat × va_E), (cc_F g pa pls q)[i]? = some z → (rr_W (lw_G g ad) r)[j]? = some y → z.1 ≠ y.1) ∧ va_P g.1 vwCl (rr_W (lw_G g ad) r) H ∧ va_D A (rr_W (lw_G g ad) r) ∧ va_S A s.heap H locs
section LWR
variable {p : Program} {l : Launch} {e : Env} {R : Room} {s : State} {m : MethodId} {args : Array Value} {below : List Frame} {meth : Method} {c : Code} {H : Heap} {locs : List Loc} {cells slots : Nat} {Q : State → Prop}
variable {cc : ByteArray} {pc nL : Nat} {ls : Array Slot} {rest : List Value} {Ts : List Cond} {own : String} {g : cc_G} {ad : Nat → Nat} {A : Nat → Prop} {pls : va_W} {q : cc_S} {r : rr_S}
/-- behind a call of the landed object -/
theorem lw_aft {pa : Nat → Nat → Nat} {pls1 : va_W} {q1 : cc_S} {H1 : Heap} {locs1 : List Loc} (hAup : ∀ x, s.heap.size ≤ x → A x) (hP : va_P g.1 vwCl (cc_F g pa pls q) H) (hD : va_D A (cc_F g pa pls q)) (hdis : ∀ (i j : Nat) (z y : Nat × va_E), (cc_F g pa pls q)[i]? = some z → (rr_W (lw_G g ad) r)[j]? = some y → z.1 ≠ y.1) (hPr : va_P g.1 vwCl (rr_W (lw_G g ad) r) H) (hDr : va_D A (rr_W (lw_G g ad) r)) (hS : va_S A s.heap H locs) (hk : ∀ x : Nat, x < H.size → ¬ va_A (cc_F g pa pls q) H.size x → H1[x]? = H[x]?) (hS1 : va_S A s.heap H1 locs1) (hB : ∃ pa, cc_ok pa pls1 q1 ∧ va_P g.1 vwCl (cc_F g pa pls1 q1) H1 ∧ va_D (va_A (cc_F g pa (pls1) q1) 0) (cc_F g pa pls1 q1) ∧ ∀ (k : Nat) (z : Nat × va_E), (cc_F g pa pls1 q1)[k]? = some z → va_A (cc_F g (fun c j => pa c j) pls1 q1) 0 z.1) (hB2 : ∃ pa1, cc_ok pa1 pls1 q1 ∧ va_P g.1 vwCl (cc_F g pa1 pls1 q1) H1 ∧ va_D (va_A (cc_F g pa pls q) H.size) (cc_F g pa1 pls1 q1)) : lw_H g ad A pls1 q1 r s H1 locs1 := by
  obtain ⟨pa1, hok1, hP1, hD1⟩ := hB2
  have hF : ∀ x, va_A (cc_F g pa pls q) H.size x → A x := fun x hx => by
    rcases hx with ⟨k, e, hk⟩ | hx
    · exact hD.2 k _ hk
    · exact hAup x (Nat.le_trans hS.1 hx)
  refine ⟨⟨pa1, hok1, hP1, hD1.weaken (fun k z _ h => hF z.1 h), fun i j z y hz hy => ?_⟩, hPr.kept (fun k x hx => ?_), hDr, hS1⟩
  · have hy1 : y.1 < H.size := va_at.lt (hPr j y hy)
    rcases hD1.2 i z hz with ⟨k, e, hk2⟩ | h
    · exact fun he => hdis k j _ y hk2 hy he
    · intro he; omega
  · have hx1 : x.1 < H.size := va_at.lt (hPr k x hx)
    refine hk x.1 hx1 (fun h => ?_)
    rcases h with ⟨k2, e, hk2⟩ | h
    · exact hdis k2 k _ x hk2 hx rfl
    · omega
theorem lw_up {pa : Nat → Nat → Nat} (hAup : ∀ x, s.heap.size ≤ x → A x) (hD : va_D A (cc_F g pa pls q)) (hS : va_S A s.heap H locs) : ∀ x, va_A (cc_F g pa pls q) H.size x → A x := fun x hx => by
  rcases hx with ⟨k, e, hk⟩ | hx
  · exact hD.2 k _ hk
  · exact hAup x (Nat.le_trans hS.1 hx)
theorem lw_pre {pa : Nat → Nat → Nat} (hAup : ∀ x, s.heap.size ≤ x → A x) (hK : cc_K g A s s.heap) (hok : cc_ok pa pls q) (hP : va_P g.1 vwCl (cc_F g pa pls q) H) (hD : va_D A (cc_F g pa pls q)) (hS : va_S A s.heap H locs) (As : List Value) : PreV s H RX10 (cc_ad g 0) (cc_Pre g (va_A (cc_F g pa pls q) H.size) pls q (.ref (cc_ad g 0) :: As) H.size) As := by
  refine ⟨cc_blind _ _ _, va_recv hK.1 hP (ci := 10) (q0 := 0) rfl rfl, fun U hU hW => ⟨rfl, by show U.heap.size = H.size; rw [hU], ⟨pa, hok, by rw [hU]; exact hP, hD.self⟩, va_K.moved hW.alike hK.1, cc_N.warm hW hK.2.1, ?_, js_R.warm hW hK.2.2.2⟩⟩
  rw [hU]
  exact ((hK.2.2.1.moved hW.alike).kept hS.2.1).narrow (lw_up hAup hD hS)
theorem lw_cx {q1 : cc_S} {v : Int32} (hAup : ∀ x, s.heap.size ≤ x → A x) (S : CallFix p m c cc nL s args Ts own) (hK : cc_K g A s s.heap) (G : lw_H g ad A pls q r s H locs) {y : MethodName} {bytes : ByteArray} {maxL n index : Nat} {ret : Option FieldType} {wsc : List Cond} {rmc : Room} {As st0 : List Value} (hM : cc_Mi l y wsc rmc g pls (.ref (cc_ad g 0) :: As) q v q1) (cw : CallW R s args own RX10 index y bytes maxL ret wsc rmc 0 0 n) (hn : As.length = n) (hsz : ls.size = nL) (hst : st0 = As.reverse ++ .ref (cc_ad g 0) :: rest) (hW : (rest.map fun v => v.category).sum ≤ 8) (hdg : decode cc pc = .ok (.invokevirtual index, 3)) (hf : cells ≤ R.cells ∧ slots ≤ R.slots)
    (kk : ∀ (H1 : Heap) (locs1 : List Loc), lw_H g ad A pls q1 r s H1 locs1 → W p l e R s m args below meth c H1 locs1 cells slots Q (F0 m (pc + 3) ls (.int v :: rest))) : W p l e R s m args below meth c H locs cells slots Q (F0 m pc ls st0) := by
  obtain ⟨⟨pa, hok, hP, hD, hdis⟩, hPr, hDr, hS⟩ := G
  have hF := lw_up hAup hD hS
  refine va_calli (va_runV (As := As) (rest := rest) S (hM H.size _ (fun x h => Or.inr h)) cw (lw_pre hAup hK hok hP hD hS As) rfl hn hsz hst (lv_room hW) hdg hf) hS (fun x _ h => hF x h) hF (fun v1 u t H1 locs1 ht hvm hw hB hz hk hS1 => ?_)
  obtain ⟨rfl, rfl⟩ := hw
  obtain ⟨pa1, hok1, hP1, hD1⟩ := hB.1
  rw [ht] at hP1
  exact kk H1 locs1 (lw_aft hAup hP hD hdis hPr hDr hS hk hS1 ⟨pa1, hok1, hP1, hD1.self, fun k z hz => va_A.in hz⟩ ⟨pa1, hok1, hP1, hD1⟩)
theorem lw_cxl {q1 : cc_S} {v : Int64} (hAup : ∀ x, s.heap.size ≤ x → A x) (S : CallFix p m c cc nL s args Ts own) (hK : cc_K g A s s.heap) (G : lw_H g ad A pls q r s H locs) {y : MethodName} {bytes : ByteArray} {maxL n index : Nat} {ret : Option FieldType} {wsc : List Cond} {rmc : Room} {As st0 : List Value} (hM : cc_Ml l y wsc rmc g pls (.ref (cc_ad g 0) :: As) q v q1) (cw : CallW R s args own RX10 index y bytes maxL ret wsc rmc 0 0 n) (hn : As.length = n) (hsz : ls.size = nL) (hst : st0 = As.reverse ++ .ref (cc_ad g 0) :: rest) (hW : (rest.map fun v => v.category).sum ≤ 8) (hdg : decode cc pc = .ok (.invokevirtual index, 3)) (hf : cells ≤ R.cells ∧ slots ≤ R.slots)
    (kk : ∀ (H1 : Heap) (locs1 : List Loc), lw_H g ad A pls q1 r s H1 locs1 → W p l e R s m args below meth c H1 locs1 cells slots Q (F0 m (pc + 3) ls (.long v :: rest))) : W p l e R s m args below meth c H locs cells slots Q (F0 m pc ls st0) := by
  obtain ⟨⟨pa, hok, hP, hD, hdis⟩, hPr, hDr, hS⟩ := G
  have hF := lw_up hAup hD hS
  refine va_calll (va_runV (As := As) (rest := rest) S (hM H.size _ (fun x h => Or.inr h)) cw (lw_pre hAup hK hok hP hD hS As) rfl hn hsz hst (lv_room hW) hdg hf) hS (fun x _ h => hF x h) hF (fun v1 u t H1 locs1 ht hvm hw hB hz hk hS1 => ?_)
  obtain ⟨rfl, rfl⟩ := hw
  obtain ⟨pa1, hok1, hP1, hD1⟩ := hB.1
  rw [ht] at hP1
  exact kk H1 locs1 (lw_aft hAup hP hD hdis hPr hDr hS hk hS1 ⟨pa1, hok1, hP1, hD1.self, fun k z hz => va_A.in hz⟩ ⟨pa1, hok1, hP1, hD1⟩)
theorem lw_cxN {q1 : cc_S} {v : Int32} {mc ms : Nat} (hAup : ∀ x, s.heap.size ≤ x → A x) (S : CallFix p m c cc nL s args Ts own) (hK : cc_K g A s s.heap) (G : lw_H g ad A pls q r s H locs) {y : MethodName} {bytes : ByteArray} {maxL n index : Nat} {ret : Option FieldType} {wsc : List Cond} {rmc : Room} {As st0 : List Value} (hM : cc_Ni l y wsc rmc g pls (.ref (cc_ad g 0) :: As) q v q1 mc ms) (cw : CallW R s args own RX10 index y bytes maxL ret wsc rmc mc ms n) (hn : As.length = n) (hsz : ls.size = nL) (hst : st0 = As.reverse ++ .ref (cc_ad g 0) :: rest) (hW : (rest.map fun v => v.category).sum ≤ 8) (hdg : decode cc pc = .ok (.invokevirtual index, 3)) (hf : cells + mc ≤ R.cells ∧ slots + ms ≤ R.slots)
    (kk : ∀ (pls1 : va_W) (H1 : Heap) (locs1 : List Loc), lw_H g ad A pls1 q1 r s H1 locs1 → W p l e R s m args below meth c H1 locs1 (cells + mc) (slots + ms) Q (F0 m (pc + 3) ls (.int v :: rest))) : W p l e R s m args below meth c H locs cells slots Q (F0 m pc ls st0) := by
  obtain ⟨⟨pa, hok, hP, hD, hdis⟩, hPr, hDr, hS⟩ := G
  have hF := lw_up hAup hD hS
  refine va_calli (va_runV (As := As) (rest := rest) S (hM H.size _ (fun x h => Or.inr h)) cw (lw_pre hAup hK hok hP hD hS As) rfl hn hsz hst (lv_room hW) hdg hf) hS (fun x _ h => hF x h) hF (fun v1 u t H1 locs1 ht hvm hw hB hz hk hS1 => ?_)
  obtain ⟨rfl, rfl⟩ := hw
  obtain ⟨pls1, -, ⟨pa1, hok1, hP1, hD1⟩, -⟩ := hB
  rw [ht] at hP1
  exact kk pls1 H1 locs1 (lw_aft hAup hP hD hdis hPr hDr hS hk hS1 ⟨pa1, hok1, hP1, hD1.self, fun k z hz => va_A.in hz⟩ ⟨pa1, hok1, hP1, hD1⟩)
theorem lw_upr (hAup : ∀ x, s.heap.size ≤ x → A x) (hDr : va_D A (rr_W (lw_G g ad) r)) (hS : va_S A s.heap H locs) : ∀ x, rr_Ad (lw_G g ad) H.size x → A x := fun x hx => by
  rcases hx with ⟨k, e, hk⟩ | hx
  · obtain ⟨e2, he2⟩ := rr_fst_get' (q := r) hk
    exact hDr.2 k _ he2
  · exact hAup x (Nat.le_trans hS.1 hx)
theorem lw_prer (hK : cc_K g A s s.heap) (hPr : va_P g.1 vwCl (rr_W (lw_G g ad) r) H) (hDr : va_D A (rr_W (lw_G g ad) r)) (As : List Value) : PreV s H RX11 (ad 28) (rr_Pre (lw_G g ad) r As H.size) As :=
  ⟨rr_blind As H.size, va_recv hK.1 hPr (ci := 11) (q0 := 0) rfl rfl, fun U hU hW => ⟨rfl, by rw [hU], by rw [hU]; exact hPr, va_K.moved hW.alike (hK.1.sub [0, 1] rfl), hDr.weaken (fun _ _ _ _ => trivial)⟩⟩
theorem lw_aftr {r1 : rr_S} {H1 : Heap} {locs1 : List Loc} (hAup : ∀ x, s.heap.size ≤ x → A x) (G : lw_H g ad A pls q r s H locs) (hk : ∀ x : Nat, x < H.size → ¬ rr_Ad (lw_G g ad) H.size x → H1[x]? = H[x]?) (hS1 : va_S A s.heap H1 locs1) (hP1 : va_P g.1 vwCl (rr_W (lw_G g ad) r1) H1) (hD1 : va_D (rr_Ad (lw_G g ad) H.size) (rr_W (lw_G g ad) r1)) : lw_H g ad A pls q r1 s H1 locs1 := by
  obtain ⟨⟨pa, hok, hP, hD, hdis⟩, hPr, hDr, hS⟩ := G
  have hF := lw_upr hAup hDr hS
  refine ⟨⟨pa, hok, hP.kept (fun k x hx => ?_), hD, fun i j z y hz hy => ?_⟩, hP1, hD1.weaken (fun k z _ h => hF z.1 h), hS1⟩
  · have hx1 : x.1 < H.size := va_at.lt (hP k x hx)
    refine hk x.1 hx1 (fun h => ?_)
    rcases h with ⟨k2, e, hk2⟩ | h
    · obtain ⟨e2, he2⟩ := rr_fst_get' (q := r) hk2
      exact hdis k k2 x _ hx he2 rfl
    · omega
  · have hz1 : z.1 < H.size := va_at.lt (hP i z hz)
    rcases hD1.2 j y hy with ⟨k2, e, hk2⟩ | h
    · obtain ⟨e2, he2⟩ := rr_fst_get' (q := r) hk2
      exact fun he => hdis i k2 z _ hz he2 he
    · intro he; omega
theorem lw_cm {res : Int32 × rr_S} (hAup : ∀ x, s.heap.size ≤ x → A x) (S : CallFix p m c cc nL s args Ts own) (hK : cc_K g A s s.heap) (G : lw_H g ad A pls q r s H locs) {y : MethodName} {bytes : ByteArray} {maxL n index : Nat} {ret : Option FieldType} {wsc : List Cond} {rmc : Room} {As st0 : List Value} (hM : rr_Mi l y wsc rmc (lw_G g ad) r As res) (cw : CallW R s args own RX11 index y bytes maxL ret wsc rmc 0 0 n) (hn : As.length = n) (hsz : ls.size = nL) (hst : st0 = As.reverse ++ .ref (ad 28) :: rest) (hW : (rest.map fun v => v.category).sum ≤ 8) (hdg : decode cc pc = .ok (.invokevirtual index, 3)) (hf : cells ≤ R.cells ∧ slots ≤ R.slots)
    (kk : ∀ (H1 : Heap) (locs1 : List Loc), lw_H g ad A pls q res.2 s H1 locs1 → W p l e R s m args below meth c H1 locs1 cells slots Q (F0 m (pc + 3) ls (.int res.1 :: rest))) : W p l e R s m args below meth c H locs cells slots Q (F0 m pc ls st0) := by
  have hF := lw_upr hAup G.2.2.1 G.2.2.2
  refine va_calli (va_runV (As := As) (rest := rest) S (hM H.size) cw (lw_prer hK G.2.1 G.2.2.1 As) rfl hn hsz hst (lv_room hW) hdg hf) G.2.2.2 (fun x _ h => hF x h) hF (fun v1 u t H1 locs1 ht hvm hw hB hz hk hS1 => ?_)
  obtain ⟨rfl, rfl⟩ := hw
  have hP1 := hB.1
  rw [ht] at hP1
  exact kk H1 locs1 (lw_aftr hAup G hk hS1 hP1 hB.2.2)
theorem lw_cml {res : Int64 × rr_S} (hAup : ∀ x, s.heap.size ≤ x → A x) (S : CallFix p m c cc nL s args Ts own) (hK : cc_K g A s s.heap) (G : lw_H g ad A pls q r s H locs) {y : MethodName} {bytes : ByteArray} {maxL n index : Nat} {ret : Option FieldType} {wsc : List Cond} {rmc : Room} {As st0 : List Value} (hM : rr_Ml l y wsc rmc (lw_G g ad) r As res) (cw : CallW R s args own RX11 index y bytes maxL ret wsc rmc 0 0 n) (hn : As.length = n) (hsz : ls.size = nL) (hst : st0 = As.reverse ++ .ref (ad 28) :: rest) (hW : (rest.map fun v => v.category).sum ≤ 8) (hdg : decode cc pc = .ok (.invokevirtual index, 3)) (hf : cells ≤ R.cells ∧ slots ≤ R.slots)
    (kk : ∀ (H1 : Heap) (locs1 : List Loc), lw_H g ad A pls q res.2 s H1 locs1 → W p l e R s m args below meth c H1 locs1 cells slots Q (F0 m (pc + 3) ls (.long res.1 :: rest))) : W p l e R s m args below meth c H locs cells slots Q (F0 m pc ls st0) := by
  have hF := lw_upr hAup G.2.2.1 G.2.2.2
  refine va_calll (va_runV (As := As) (rest := rest) S (hM H.size) cw (lw_prer hK G.2.1 G.2.2.1 As) rfl hn hsz hst (lv_room hW) hdg hf) G.2.2.2 (fun x _ h => hF x h) hF (fun v1 u t H1 locs1 ht hvm hw hB hz hk hS1 => ?_)
  obtain ⟨rfl, rfl⟩ := hw
  have hP1 := hB.1
  rw [ht] at hP1
  exact kk H1 locs1 (lw_aftr hAup G hk hS1 hP1 hB.2.2)
end LWR
theorem lg_cmp_self (v : Int64) : lg_cmp v v = 0 := by unfold lg_cmp; simp
theorem lw_lt {L j : Nat} (hL : L ≤ 3584) (hj : j ≤ 512) (h : ¬ nI L - 7 < nI (7 * j)) : 7 * j + 7 ≤ L := by
  rcases Nat.lt_or_ge L 7 with h7 | h7
  · exfalso
    apply h
    have h1 : (nI (7 * j)).toInt = (7 * j : Nat) := nI_toInt (by omega)
    rw [Int32.lt_iff_toInt_lt, h1]
    have h2 : (nI L - 7).toInt < 0 := by
      rcases (show L = 0 ∨ L = 1 ∨ L = 2 ∨ L = 3 ∨ L = 4 ∨ L = 5 ∨ L = 6 by omega) with rfl | rfl | rfl | rfl | rfl | rfl | rfl <;> decide +kernel
    omega
  · obtain ⟨k, rfl⟩ : ∃ k, L = k + 7 := ⟨L - 7, by omega⟩
    have h1 : nI (k + 7) - 7 = nI k := by
      rw [← nI_add]
      have : nI 7 = 7 := by decide +kernel
      rw [this, Int32.add_sub_cancel]
    rw [h1] at h
    rcases Nat.lt_or_ge k (7 * j) with h2 | h2
    · exact absurd (nI_lt h2 (by omega)) h
    · omega
