theorem zn_q0 : zn rr_q0 = 0 := by decide +kernel
theorem CW_q0 (T G : Nat) : CW T G cc_k0 rr_q0 := by
  have hz : zt rr_q0 = 0 := by decide +kernel
  have hg : zg rr_q0 = 0 := by decide +kernel
  have hw : ∀ s p, zw rr_q0 s p = false := fun s p => by unfold zw; rw [zn_q0, decide_eq_false (Nat.not_lt_zero p), Bool.false_and]
  have hi : ∀ s p, zi rr_q0 s p = false := fun s p => by unfold zi; rw [zn_q0, decide_eq_false (Nat.not_lt_zero p), Bool.false_and]
  have hk : ∀ s, zk rr_q0 s = 0 := fun s => by unfold zk; rw [List.countP_eq_zero]; intro k _; rw [hw]; decide
  refine ⟨⟨⟨by rw [zn_q0]; exact pu_0, by rw [zn_q0]; decide⟩, ⟨by rw [hz]; exact pu_0, by rw [hz]; exact Nat.zero_le _⟩, ⟨by rw [hg]; exact pu_0, by rw [hg]; exact Nat.zero_le _⟩, fun p hp => ?_, fun p p' hp => ?_, fun b hb => Or.inl ⟨rfl, ?_, rfl⟩⟩, rfl, rfl, fun p hp => ?_, fun b hb => ⟨rfl, rfl, rfl⟩, fun s hs => ⟨⟨0, pu_0, by decide, fun p _ => by rw [hi]; simp⟩, by rw [hk]; exact pu_0, fun j hj => ?_, fun p hp => ?_⟩⟩
  · rw [zn_q0] at hp; exact absurd hp (Nat.not_lt_zero p)
  · rw [zn_q0] at hp; exact absurd hp (Nat.not_lt_zero p)
  · rcases (show b = 0 ∨ b = 1 ∨ b = 2 ∨ b = 3 ∨ b = 4 ∨ b = 5 by omega) with rfl | rfl | rfl | rfl | rfl | rfl
    · exact Or.inl rfl
    · exact Or.inl rfl
    · exact Or.inl rfl
    · exact Or.inr rfl
    · exact Or.inr rfl
    · exact Or.inr rfl
  · rw [zn_q0] at hp; exact absurd hp (Nat.not_lt_zero p)
  · rw [hk] at hj; exact absurd hj (Nat.not_lt_zero j)
  · rw [hw] at hp; cases hp
theorem II_0 : II 0 cc_q0 rr_q0 := ⟨CW_q0 _ _, ⟨rfl, Or.inl rfl⟩, fun _ _ => rfl, ⟨0, by decide, pu_0, pu_0, fun k hk => absurd hk (Nat.not_lt_zero k)⟩, ⟨0, by decide, pu_0, pu_0, fun k hk => absurd hk (Nat.not_lt_zero k)⟩⟩
