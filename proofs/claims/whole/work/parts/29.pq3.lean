theorem pu_ci : ∀ k, k ≤ 5 → np_ci (nI k) = if k = 1 then 5 else if k = 2 then 0 else if k = 3 then 8 else if k = 4 then 9 else if k = 5 then 3 else 4 := by decide +kernel
theorem pu_ne {a b : Nat} (ha : a < 2 ^ 31) (hb : b < 2 ^ 31) (h : a ≠ b) : ¬ nI a = nI b := fun e => h ((nI_eq ha hb).mp e)
theorem pu_10' : (10 : Int32) = nI 10 := by decide +kernel
theorem pu_2' : (2 : Int32) = nI 2 := by decide +kernel
theorem pu_aimG (a d : Nat) (ha : a ≤ 9) (hd : d < 2 ^ 30) : (if (0 : Int32) ≤ nI a - nI d then (if nI a - nI d ≤ 9 then some (nI a - nI d) else some (9 : Int32)) else some 0) = some (if (0 : Int32) < nI a - nI d then nI a - nI d else 0) := by
  by_cases h : d ≤ a
  · obtain ⟨k, rfl⟩ : ∃ k, a = d + k := ⟨a - d, by omega⟩
    have e : nI (d + k) - nI d = nI k := by rw [← nI_add, Int32.add_comm, Int32.add_sub_cancel]
    rw [e, if_pos (by rw [pu_0]; exact (nI_leI (by omega) (by omega)).mpr (Nat.zero_le _)), if_pos (by rw [show (9 : Int32) = nI 9 from by decide +kernel]; exact (nI_leI (by omega) (by omega)).mpr (by omega))]
    by_cases h0 : k = 0
    · subst h0; decide +kernel
    · rw [if_pos (by rw [pu_0]; exact nI_lt (by omega) (by omega))]
  · obtain ⟨k, rfl⟩ : ∃ k, d = a + k := ⟨d - a, by omega⟩
    have ht : (nI a - nI (a + k)).toInt < 0 := by
      rw [Int32.toInt_sub, nI_toInt (by omega), nI_toInt (by omega), Int.bmod_eq_of_le (by omega) (by omega)]
      omega
    have z : (0 : Int32).toInt = 0 := by decide
    rw [if_neg (fun h => by rw [Int32.le_iff_toInt_le] at h; omega), if_neg (fun h => by rw [Int32.lt_iff_toInt_lt] at h; omega)]
section PQ3
variable {T G : Nat} {x : cc_CT} {r : rr_S}
theorem pq_aim (h : CW T G x r) (hT : T < 2 ^ 30) {p : Nat} (hp : p < zn r) : ∃ v, R_aimOf r (nI p) = some v ∧ K_aimOf x (nI p) = some v := by
  have hp8 := pq_lt h hp
  obtain ⟨e1, e2, e3, e4, e5⟩ := pq_row h hp
  obtain ⟨b0, b1, b2, b3, b4, b5⟩ := h.1.2.2.2.1 p hp
  obtain ⟨c1, c2, c3, c4, c5⟩ := h.2.2.2.1 p hp
  obtain ⟨t1, t2⟩ := h.1.2.1
  have ht := h.2.2.1
  unfold R_aimOf K_aimOf R_clamped Cl_aim P8_aim P4_aim
  rw [(pq_plY h hp).2, pp_ob_s, if_neg pu_10, pp_ix_n hp8 (by decide), pp_ix_n hp8 (by decide), pu_c (by omega), c1, c4, e2, e3, pu_ci _ b2, ht, t1]
  by_cases k3 : zc r 2 p = 3
  · rw [k3, if_pos (show nI 3 = 3 by decide +kernel), pp_ob_s, pu_10', pk_div (by omega) (by decide) (by decide), pu_aimG _ _ b3 (by have := Nat.div_le_self (zt r) 10; omega), if_pos (show (if 3 = 1 then 5 else if 3 = 2 then 0 else if 3 = 3 then 8 else if 3 = 4 then 9 else if 3 = 5 then 3 else 4) = 8 by decide), pp_ob_s]
    exact ⟨_, rfl, rfl⟩
  · rw [if_neg (show ¬ nI (zc r 2 p) = 3 from pu_ne (b := 3) (by omega) (by decide) k3), if_neg, pp_ob_s]
    · exact ⟨_, rfl, rfl⟩
    · rcases (show zc r 2 p = 0 ∨ zc r 2 p = 1 ∨ zc r 2 p = 2 ∨ zc r 2 p = 4 ∨ zc r 2 p = 5 by omega) with e | e | e | e | e <;> rw [e] <;> decide
theorem pq_dodge (h : CW T G x r) {p : Nat} (hp : p < zn r) : ∃ v, R_dodgeOf r (nI p) = some v ∧ K_dodgeOf x (nI p) = some v := by
  have hp8 := pq_lt h hp
  obtain ⟨e1, e2, e3, e4, e5⟩ := pq_row h hp
  obtain ⟨b0, b1, b2, b3, b4, b5⟩ := h.1.2.2.2.1 p hp
  obtain ⟨c1, c2, c3, c4, c5⟩ := h.2.2.2.1 p hp
  obtain ⟨m, hm, hmb, f1, f2⟩ := pq_balls h hp
  simp only [R_dodgeOf, K_dodgeOf, Cl_dodge, P9_dodge, P5_dodge, P4_dodge, pp_lj]
  rw [(pq_plY h hp).2, pp_ob_s, if_neg pu_10, pp_ix_n hp8 (by decide), pp_ix_n hp8 (by decide), pu_c (by omega), c1, e2, f1, f2, pu_ci _ b2, c5]
  simp only [pp_ob_s]
  rcases (show zc r 2 p = 0 ∨ zc r 2 p = 1 ∨ zc r 2 p = 2 ∨ zc r 2 p = 3 ∨ zc r 2 p = 4 ∨ zc r 2 p = 5 by omega) with e | e | e | e | e | e <;> rw [e]
  · rw [if_neg (show ¬ nI 0 = 1 by decide +kernel), if_neg (show ¬ nI 0 = 4 by decide +kernel), if_neg (show ¬ nI 0 = 4 by decide +kernel)]
    exact ⟨_, rfl, by split <;> rfl⟩
  · rw [if_pos (show nI 1 = 1 by decide +kernel), if_neg (show ¬ nI 1 = 4 by decide +kernel)]
    exact ⟨_, rfl, by split <;> rfl⟩
  · rw [if_neg (show ¬ nI 2 = 1 by decide +kernel), if_neg (show ¬ nI 2 = 4 by decide +kernel), if_neg (show ¬ nI 2 = 4 by decide +kernel)]
    exact ⟨_, rfl, by split <;> rfl⟩
  · rw [if_neg (show ¬ nI 3 = 1 by decide +kernel), if_neg (show ¬ nI 3 = 4 by decide +kernel), if_neg (show ¬ nI 3 = 4 by decide +kernel)]
    exact ⟨_, rfl, by split <;> rfl⟩
  · rw [if_neg (show ¬ nI 4 = 1 by decide +kernel), if_pos (show nI 4 = 4 by decide +kernel), if_pos (show nI 4 = 4 by decide +kernel)]
    by_cases h0 : nI m = 0
    · rw [if_pos h0, if_pos h0]
      refine ⟨_, rfl, ?_⟩
      show some (r.2.1 4 p + 3 + 0) = _
      rw [Int32.add_zero]
    · rw [if_neg h0, if_neg h0]
      exact ⟨_, rfl, rfl⟩
  · rw [if_neg (show ¬ nI 5 = 1 by decide +kernel), if_neg (show ¬ nI 5 = 4 by decide +kernel), if_neg (show ¬ nI 5 = 4 by decide +kernel)]
    exact ⟨_, rfl, by split <;> rfl⟩
/-- how many are IN, of a side -/
def zh (r : rr_S) (s : Nat) : Nat := (List.range 8).countP (fun k => zi r s k)
theorem pu_cnt (f : Nat → Bool) (n : Nat) : ∀ d, (∀ k, n ≤ k → f k = false) → (List.range (n + d)).countP f = (List.range n).countP f := by
  intro d hf
  induction d with
  | zero => rfl
  | succ d ih => rw [← Nat.add_assoc, List.range_succ, List.countP_append, ih]; simp [hf (n + d) (by omega)]
theorem pu_cn (f : Nat → Bool) {n N : Nat} (hn : n ≤ N) (hf : ∀ k, n ≤ k → f k = false) : (List.range N).countP f = (List.range n).countP f := by
  obtain ⟨d, rfl⟩ : ∃ d, N = n + d := ⟨N - n, by omega⟩
  exact pu_cnt f n d hf
theorem pu_cs (f : Nat → Bool) (i : Nat) : (List.range (i + 1)).countP f = (List.range i).countP f + if f i then 1 else 0 := by
  rw [List.range_succ, List.countP_append]; cases hf : f i <;> simp [hf]
theorem pq_zi {r : rr_S} {s k : Nat} (hk : zn r ≤ k) : zi r s k = false := by
  unfold zi; rw [decide_eq_false (by omega)]; rfl
theorem pq_here (h : CW T G x r) {s : Nat} (hs : s < 2) : R_hereOf r (nI s) = some (nI (zh r s)) := by
  obtain ⟨⟨hn, hn8⟩, -⟩ := h.1
  unfold R_hereOf
  have key := pp_one (F := fun (self1 : Int32 × Int32 → Option Int32) (a1 : Int32 × Int32) => (if (r.1 9) ≤ a1.2 then some a1.1 else pp_ix a1.2 8 (pp_lj (fun (a7 : Int32) => (pp_lj ((a1.1 + a7) : Int32) (fun x10 => pp_lj (a1.2 + 1 : Int32) (fun x12 => self1 (x10, x12))) : Option Int32)) (fun j7 => pp_lj (fun (a14 : Unit) => (j7 (0 : Int32) : Option Int32)) (fun j14 => (if (r.2.1 1 (Int32.toNatClampNeg a1.2)) = nI s then (if (r.2.1 5 (Int32.toNatClampNeg a1.2)) = (0 : Int32) then j7 (1 : Int32) else j14 ()) else j14 ()))))))
    (P := fun i a => a = (nI ((List.range i).countP (fun k => zi r s k)), nI i)) (Q := fun b => b = nI (zh r s)) (zn r) ?_ 9 0 (0, 0) 200 (by omega) (by omega) ?_ (by decide)
  · obtain ⟨b, e, rfl⟩ := key
    exact e
  · rintro i a hi rfl
    by_cases hin : i = zn r
    · left
      refine ⟨_, fun self => ?_, rfl⟩
      simp only [pp_lj]
      rw [hn, if_pos ((nI_leI (by omega) (by omega)).mpr (by omega))]
      unfold zh
      rw [pu_cn (fun k => zi r s k) hn8 (fun k hk => pq_zi hk), hin]
    · right
      have hi' : i < zn r := by omega
      have hi8 : i < 8 := by omega
      obtain ⟨e1, e2, e3, e4, e5⟩ := pq_row h hi'
      obtain ⟨b0, b1, b2, b3, b4, b5⟩ := h.1.2.2.2.1 i hi'
      have hg := h.1.2.2.1
      refine ⟨hi', _, fun self => ?_, rfl⟩
      simp only [pp_lj]
      rw [hn, if_neg (nI_ge hi' (by omega)), pp_ix_n hi8 (by decide), pu_c (by omega), pu_i1, pu_cs]
      have hz : zi r s i = (decide (zc r 1 i = s) && decide (zc r 5 i = 0)) := by unfold zi; rw [decide_eq_true hi']; rfl
      rw [hz]
      by_cases h1 : zc r 1 i = s
      · rw [if_pos (by rw [e1, h1])]
        by_cases h5 : zc r 5 i = 0
        · rw [if_pos (by rw [e5, h5]; decide +kernel)]; simp [h1, h5, pu_i1]
        · rw [if_neg (fun e => h5 (by show (r.2.1 5 i).toNatClampNeg = 0; rw [e]; decide +kernel))]; simp [h1, h5, pu_i1]
      · rw [if_neg (by rw [e1]; exact pu_ne (by omega) (by omega) h1)]; simp [h1, pu_i1]
  · rfl
end PQ3
