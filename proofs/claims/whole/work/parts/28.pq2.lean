/-! balls of a player, hands, aims, odds -/
def pb6 (m : Nat) : Nat := (List.range 6).countP (fun k => m.testBit k)
def pb8 (m : Nat) : Nat := (List.range 8).countP (fun k => m.testBit k)
theorem pu_bits6 : ∀ m, m < 64 → R_bits (nI m) = some (nI (pb6 m)) ∧ J_bitCount (nI m) = some (nI (pb6 m)) := by decide +kernel
theorem pu_bits8 : ∀ m, m < 256 → J_bitCount (nI m) = some (nI (pb8 m)) := by decide +kernel
theorem pu_shl : ∀ i, i < 8 → (1 : Int32) <<< (nI i &&& 31) = nI (2 ^ i) := by decide +kernel
theorem pu_one : ∀ m, m < 256 → ∀ p, p < 8 → m.testBit p = true → (pb8 m = 1 ↔ m = 2 ^ p) := by decide +kernel
theorem pu_i1 {i : Nat} : nI i + 1 = nI (i + 1) := nI_1 i
theorem pu_orp : ∀ m, m < 64 → ∀ i, i < 6 → m < 2 ^ i → m ||| 2 ^ i < 2 ^ (i + 1) ∧ ∀ b, b < 6 → (m ||| 2 ^ i).testBit b = (m.testBit b || decide (b = i)) := by decide +kernel
theorem pu_tb : ∀ m, m < 64 → ∀ i, i < 6 → m < 2 ^ i → ∀ b, b < 6 → i ≤ b → m.testBit b = false := by decide +kernel
theorem pu_0 : (0 : Int32) = nI 0 := by decide +kernel
section PQ2
variable {T G : Nat} {x : cc_CT} {r : rr_S}
theorem pq_balls (h : CW T G x r) {p : Nat} (hp : p < zn r) : ∃ m, m < 64 ∧ (∀ b, b < 6 → m.testBit b = decide (r.2.1 6 b = nI p)) ∧ R_holds r (nI p) = some (nI m) ∧ K_ballsOf x (nI p) = some (nI m) := by
  have key := pp_two (F1 := fun (self1 : Int32 × Int32 → Option Int32) (a1 : Int32 × Int32) => (if (6 : Int32) ≤ a1.2 then some a1.1 else pp_ix a1.2 6 (pp_lj (fun (a7 : Int32) => (pp_lj ((a1.1 ||| a7) : Int32) (fun x10 => pp_lj (a1.2 + 1 : Int32) (fun x12 => self1 (x10, x12))) : Option Int32)) (fun j7 => (if (r.2.1 6 (Int32.toNatClampNeg a1.2)) = nI p then j7 ((1 : Int32) <<< (a1.2 &&& 31)) else j7 (0 : Int32))))))
    (F2 := fun (self1 : Int32 × Int32 → Option Int32) (a1 : Int32 × Int32) => pp_lj (fun (a2 : Unit) => (some a1.1 : Option Int32)) (fun j2 => (if (6 : Int32) ≤ a1.2 then j2 () else pp_ob (K_isPlayer x (nI p)) (fun r8 => (if r8 = (0 : Int32) then j2 () else pp_ix a1.2 6 (pp_lj (fun (a15 : Int32) => (pp_lj (a1.2 + 1 : Int32) (fun x18 => self1 (a15, x18)) : Option Int32)) (fun j15 => (if (x.1.2.1 4 (Int32.toNatClampNeg a1.2)) = nI p then pp_lj ((a1.1 ||| ((1 : Int32) <<< (a1.2 &&& 31))) : Int32) (fun x23 => j15 x23) else j15 a1.1))))))))
    (P := fun i a1 a2 => a1 = a2 ∧ ∃ m, m < 64 ∧ m < 2 ^ i ∧ a1 = (nI m, nI i) ∧ ∀ b, b < 6 → m.testBit b = (decide (b < i) && decide (r.2.1 6 b = nI p)))
    (Q := fun b1 b2 => b1 = b2 ∧ ∃ m, m < 64 ∧ b1 = nI m ∧ ∀ b, b < 6 → m.testBit b = decide (r.2.1 6 b = nI p)) 6 ?_ 7 0 (0, 0) (0, 0) 200 200 (by decide) (by decide) ?_ (by decide) (by decide)
  · obtain ⟨b1, b2, e1, e2, rfl, m, hm, rfl, hb⟩ := key
    exact ⟨m, hm, hb, e1, e2⟩
  · rintro i a1 a2 hi ⟨rfl, m, hm, hmi, rfl, hb⟩
    by_cases h6 : i = 6
    · subst h6
      left
      refine ⟨nI m, nI m, fun self => ?_, fun self => ?_, rfl, m, hm, rfl, fun b hb6 => ?_⟩
      · simp only [pp_lj]; rw [if_pos (by decide +kernel)]
      · simp only [pp_lj]; rw [if_pos (by decide +kernel)]
      · rw [hb b hb6, decide_eq_true hb6]; rfl
    · right
      have hi6 : i < 6 := by omega
      have n6 : ¬ (6 : Int32) ≤ nI i := by rw [pu_6]; exact nI_ge hi6 (by decide)
      have hball := (h.2.2.2.2.1 i hi6).1
      refine ⟨hi6, (nI (if r.2.1 6 i = nI p then m ||| 2 ^ i else m), nI (i + 1)), (nI (if r.2.1 6 i = nI p then m ||| 2 ^ i else m), nI (i + 1)), fun self => ?_, fun self => ?_, rfl, _, ?_, ?_, rfl, ?_⟩
      · simp only [pp_lj]
        rw [if_neg n6, pp_ix_n hi6 (by decide), pu_c (by omega), pu_i1]
        by_cases he : r.2.1 6 i = nI p
        · rw [if_pos he, if_pos he, pu_shl i (by omega), pu_or]
        · rw [if_neg he, if_neg he, pu_0, pu_or, Nat.or_zero]
      · simp only [pp_lj]
        rw [if_neg n6, (pq_plY h hp).2, pp_ob_s, if_neg pu_10, pp_ix_n hi6 (by decide), pu_c (by omega), pu_i1, hball]
        by_cases he : r.2.1 6 i = nI p
        · rw [if_pos he, if_pos he, pu_shl i (by omega), pu_or]
        · rw [if_neg he, if_neg he]
      · have h1 := (pu_orp m hm i hi6 hmi).1
        have h2 : 2 ^ (i + 1) ≤ 2 ^ 6 := Nat.pow_le_pow_right (by decide) (by omega)
        split <;> omega
      · have h1 := (pu_orp m hm i hi6 hmi).1
        have h2 : 2 ^ i < 2 ^ (i + 1) := Nat.pow_lt_pow_right (by decide) (by omega)
        split <;> omega
      · intro b hb6
        by_cases he : r.2.1 6 i = nI p
        · rw [if_pos he, (pu_orp m hm i hi6 hmi).2 b hb6, hb b hb6]
          by_cases hbi : b = i
          · subst hbi; simp [he]
          · simp [hbi, show (b < i + 1) = (b < i) from propext ⟨fun h => by omega, fun h => by omega⟩]
        · rw [if_neg he, hb b hb6]
          by_cases hbi : b = i
          · subst hbi; simp [he]
          · simp [show (b < i + 1) = (b < i) from propext ⟨fun h => by omega, fun h => by omega⟩]
  · exact ⟨rfl, 0, by decide, by decide, rfl, fun b _ => by simp⟩
end PQ2
