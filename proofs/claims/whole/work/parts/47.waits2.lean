theorem pp_onev {σ β : Type} {F : (σ → Option β) → σ → Option β} {v : β} (P : Nat → σ → Prop) (n : Nat) (h : ∀ i a, i ≤ n → P i a → (∀ self, F self a = some v) ∨ (i < n ∧ ∃ a', (∀ self, F self a = self a') ∧ P (i + 1) a')) (k i : Nat) (a : σ) (f : Nat) (h1 : n < i + k) (h2 : i ≤ n) (hP : P i a) (hf : k ≤ f) : pp_it F f a = some v := by
  obtain ⟨b, e, rfl⟩ := pp_one P (fun b => b = v) n (fun i a hi hp => (h i a hi hp).imp (fun e => ⟨v, e, rfl⟩) id) k i a f h1 h2 hP hf
  exact e
theorem pq_waits {T G : Nat} {x : cc_CT} {r : rr_S} (h : CW T G x r) {s m : Nat} (hs : s < 2) (hm : m < 8) : ∃ v, pp_it (fun (self8 : Int32 → Option (Int32 × rr_S)) (a8 : Int32) => (if (r.1 9) ≤ a8 then some ((-9 : Int32), r) else pp_it (fun (self12 : Int32 × Int32 → Option (Int32 × rr_S)) (a12 : Int32 × Int32) => (if (r.1 9) ≤ a12.2 then pp_ix a8 8 ((if (r.2.1 1 (Int32.toNatClampNeg a8)) = nI s then (if (r.2.1 5 (Int32.toNatClampNeg a8)) ≤ (0 : Int32) then self8 (a8 + 1) else (if a12.1 = nI m then some (a8, r) else self8 (a8 + 1))) else self8 (a8 + 1))) else pp_ix a12.2 8 ((if (r.2.1 1 (Int32.toNatClampNeg a12.2)) = nI s then (if (r.2.1 5 (Int32.toNatClampNeg a12.2)) ≤ (0 : Int32) then self12 (a12.1 + 0, a12.2 + 1) else pp_ix a8 8 ((if (r.2.1 5 (Int32.toNatClampNeg a8)) ≤ (r.2.1 5 (Int32.toNatClampNeg a12.2)) then self12 (a12.1 + 0, a12.2 + 1) else self12 (a12.1 + 1, a12.2 + 1)))) else self12 (a12.1 + 0, a12.2 + 1))))) 200 ((0 : Int32), (0 : Int32)))) 200 (0 : Int32) = some (v, r) ∧ S_waitsAt (x.2.1 s) (nI m) = some v := by
  obtain ⟨⟨hn, hn8⟩, -⟩ := h.1
  obtain ⟨-, w2, w3, w4⟩ := h.2.2.2.2.2 s hs
  have hk8 : zk r s ≤ 8 := by unfold zk; exact Nat.le_trans List.countP_le_length (by simp)
  have hstep : ∀ (i : Nat), i < zn r → ∀ self8 : Int32 → Option (Int32 × rr_S), (if (r.1 9) ≤ nI i then some ((-9 : Int32), r) else pp_it (fun (self12 : Int32 × Int32 → Option (Int32 × rr_S)) (a12 : Int32 × Int32) => (if (r.1 9) ≤ a12.2 then pp_ix (nI i) 8 ((if (r.2.1 1 (Int32.toNatClampNeg (nI i))) = nI s then (if (r.2.1 5 (Int32.toNatClampNeg (nI i))) ≤ (0 : Int32) then self8 (nI i + 1) else (if a12.1 = nI m then some (nI i, r) else self8 (nI i + 1))) else self8 (nI i + 1))) else pp_ix a12.2 8 ((if (r.2.1 1 (Int32.toNatClampNeg a12.2)) = nI s then (if (r.2.1 5 (Int32.toNatClampNeg a12.2)) ≤ (0 : Int32) then self12 (a12.1 + 0, a12.2 + 1) else pp_ix (nI i) 8 ((if (r.2.1 5 (Int32.toNatClampNeg (nI i))) ≤ (r.2.1 5 (Int32.toNatClampNeg a12.2)) then self12 (a12.1 + 0, a12.2 + 1) else self12 (a12.1 + 1, a12.2 + 1)))) else self12 (a12.1 + 0, a12.2 + 1))))) 200 ((0 : Int32), (0 : Int32))) = if zw r s i = true ∧ za r s (zc r 5 i) = m then some (nI i, r) else self8 (nI (i + 1)) := by
    intro i hi self8
    have hi8 : i < 8 := by omega
    obtain ⟨e1, -, -, -, e5⟩ := pq_row h hi
    have l1 := (h.1.2.2.2.1 i hi).2.1
    have la : za r s (zc r 5 i) ≤ 8 := by unfold za; exact Nat.le_trans List.countP_le_length (by simp)
    have hzw : zw r s i = (decide (zc r 1 i = s) && decide (0 < zc r 5 i)) := by unfold zw; rw [decide_eq_true hi, Bool.true_and]
    rw [hn, if_neg (nI_ge hi (by omega)), ← hn]
    refine (pq_ahead h hs hi (fun c => pp_ix (nI i) 8 ((if (r.2.1 1 (Int32.toNatClampNeg (nI i))) = nI s then (if (r.2.1 5 (Int32.toNatClampNeg (nI i))) ≤ (0 : Int32) then self8 (nI i + 1) else (if c = nI m then some (nI i, r) else self8 (nI i + 1))) else self8 (nI i + 1))))).trans ?_
    show pp_ix (nI i) 8 _ = _
    rw [pp_ix_n hi8 (by decide), pu_c (by omega), hzw, pu_i1]
    by_cases h1 : zc r 1 i = s
    rotate_left
    · rw [if_neg (by rw [e1]; exact pu_ne (by omega) (by omega) h1), if_neg (by rw [decide_eq_false h1]; simp)]
    rw [if_pos (by rw [e1, h1])]
    by_cases h5 : zc r 5 i = 0
    · rw [if_pos (by rw [e5, h5]; decide +kernel), if_neg (by rw [h5]; simp)]
    rw [if_neg (by rw [e5, pu_0]; exact nI_ge (by omega) zc31)]
    by_cases hz : za r s (zc r 5 i) = m
    · rw [hz, if_pos rfl, if_pos ⟨by rw [decide_eq_true h1, decide_eq_true (show 0 < zc r 5 i by omega)]; rfl, rfl⟩]
    · rw [if_neg (pu_ne (by omega) (by omega) hz), if_neg (fun e => hz e.2)]
  by_cases hmk : m < zk r s
  · obtain ⟨p, p1, p2, p3⟩ := w3 m hmk
    have hp := (zw_d p1).1
    refine ⟨nI p, ?_, ?_⟩
    · refine pp_onev (P := fun i (a : Int32) => a = nI i) p ?_ 9 0 (0 : Int32) 200 (by omega) (by omega) pu_0 (by decide)
      · rintro i a hi rfl
        have hin : i < zn r := by omega
        by_cases hip : i = p
        · left
          subst hip
          exact fun self => (hstep i hin self).trans (if_pos ⟨p1, p2⟩)
        · right
          refine ⟨by omega, nI (i + 1), fun self => (hstep i hin self).trans (if_neg (fun e => ?_)), rfl⟩
          have := (w4 i e.1).2
          rw [e.2, p3] at this
          exact hip ((nI_eq (by omega) (by omega)).mp this).symm
    · simp only [S_waitsAt, pp_lj]
      rw [if_neg (pu_neg (by omega)), w2, if_neg (nI_ge hmk (by omega)), pp_ix_n hm (by decide), pu_c (by omega), p3]
  · refine ⟨-9, ?_, ?_⟩
    · refine pp_onev (P := fun i (a : Int32) => a = nI i) (zn r) ?_ 9 0 (0 : Int32) 200 (by omega) (by omega) pu_0 (by decide)
      · rintro i a hi rfl
        by_cases hin : i = zn r
        · left
          exact fun self => if_pos (by rw [hn, hin]; exact (nI_leI (by omega) (by omega)).mpr (Nat.le_refl _))
        · right
          have hi' : i < zn r := by omega
          refine ⟨hi', nI (i + 1), fun self => (hstep i hi' self).trans (if_neg (fun e => ?_)), rfl⟩
          have := (w4 i e.1).1
          omega
    · simp only [S_waitsAt, pp_lj]
      rw [if_neg (pu_neg (by omega)), w2, if_pos ((nI_leI (by omega) (by omega)).mpr (by omega))]
