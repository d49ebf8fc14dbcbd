/-! the pure layer: two runs side by side -/
theorem pp_two {σ1 σ2 β1 β2 : Type} {F1 : (σ1 → Option β1) → σ1 → Option β1} {F2 : (σ2 → Option β2) → σ2 → Option β2} (P : Nat → σ1 → σ2 → Prop) (Q : β1 → β2 → Prop) (n : Nat)
    (h : ∀ i a1 a2, i ≤ n → P i a1 a2 → (∃ b1 b2, (∀ self, F1 self a1 = some b1) ∧ (∀ self, F2 self a2 = some b2) ∧ Q b1 b2) ∨ (i < n ∧ ∃ a1' a2', (∀ self, F1 self a1 = self a1') ∧ (∀ self, F2 self a2 = self a2') ∧ P (i + 1) a1' a2')) :
    ∀ (k i : Nat) (a1 : σ1) (a2 : σ2) (f1 f2 : Nat), n < i + k → i ≤ n → P i a1 a2 → k ≤ f1 → k ≤ f2 → ∃ b1 b2, pp_it F1 f1 a1 = some b1 ∧ pp_it F2 f2 a2 = some b2 ∧ Q b1 b2 := by
  intro k
  induction k with
  | zero => intro i a1 a2 f1 f2 h1 h2; omega
  | succ k ih =>
    intro i a1 a2 f1 f2 h1 h2 hP hf1 hf2
    obtain ⟨f1, rfl⟩ : ∃ z, f1 = z + 1 := ⟨f1 - 1, by omega⟩
    obtain ⟨f2, rfl⟩ : ∃ z, f2 = z + 1 := ⟨f2 - 1, by omega⟩
    rcases h i a1 a2 h2 hP with ⟨b1, b2, e1, e2, hQ⟩ | ⟨hi, a1', a2', e1, e2, hP'⟩
    · exact ⟨b1, b2, e1 _, e2 _, hQ⟩
    · obtain ⟨b1, b2, g1, g2, hQ⟩ := ih (i + 1) a1' a2' f1 f2 (by omega) (by omega) hP' (by omega) (by omega)
      exact ⟨b1, b2, (e1 _).trans g1, (e2 _).trans g2, hQ⟩
theorem pp_one {σ β : Type} {F : (σ → Option β) → σ → Option β} (P : Nat → σ → Prop) (Q : β → Prop) (n : Nat)
    (h : ∀ i a, i ≤ n → P i a → (∃ b, (∀ self, F self a = some b) ∧ Q b) ∨ (i < n ∧ ∃ a', (∀ self, F self a = self a') ∧ P (i + 1) a')) :
    ∀ (k i : Nat) (a : σ) (f : Nat), n < i + k → i ≤ n → P i a → k ≤ f → ∃ b, pp_it F f a = some b ∧ Q b := by
  intro k
  induction k with
  | zero => intro i a f h1 h2; omega
  | succ k ih =>
    intro i a f h1 h2 hP hf
    obtain ⟨f, rfl⟩ : ∃ z, f = z + 1 := ⟨f - 1, by omega⟩
    rcases h i a h2 hP with ⟨b, e, hQ⟩ | ⟨hi, a', e, hP'⟩
    · exact ⟨b, e _, hQ⟩
    · obtain ⟨b, g, hQ⟩ := ih (i + 1) a' f (by omega) (by omega) hP' (by omega)
      exact ⟨b, (e _).trans g, hQ⟩
theorem pp_ob_s {α β : Type} (a : α) (f : α → Option β) : pp_ob (some a) f = f a := rfl
theorem pp_ob_e {α β : Type} {o : Option α} {a : α} (h : o = some a) (f : α → Option β) : pp_ob o f = f a := by rw [h]; rfl
theorem pp_ix_n {β : Type} {i n : Nat} (h : i < n) (hn : n < 2 ^ 31) (a : Option β) : pp_ix (nI i) n a = a := by
  unfold pp_ix; rw [if_neg (vp_in_nI h hn)]
theorem pp_bz_n {β : Type} {v : Int32} (h : v = 0 ∨ v = 1) (a : Option β) : pp_bz v a = a := by unfold pp_bz; rw [if_pos h]
theorem pu_6 : (6 : Int32) = nI 6 := by decide +kernel
theorem pu_8 : Int32.ofNat 8 = nI 8 := by decide +kernel
theorem pu_le {a b : Nat} (ha : a < 2 ^ 31) (hb : b < 2 ^ 31) : (nI a ≤ nI b) = (a ≤ b) := propext (nI_leI ha hb)
theorem pu_lt {a b : Nat} (ha : a < 2 ^ 31) (hb : b < 2 ^ 31) : (nI a < nI b) = (a < b) := propext (nI_ltI ha hb)
theorem pu_neg {a : Nat} (ha : a < 2 ^ 31) : ¬ nI a < 0 := fun h => by
  rw [Int32.lt_iff_toInt_lt, nI_toInt ha] at h
  have : (0 : Int32).toInt = 0 := by decide
  omega
/-- an int is below 0, or a number -/
theorem pu_int (v : Int32) : v < 0 ∨ ∃ k : Nat, v = nI k ∧ k < 2 ^ 31 := by
  by_cases h : v < 0
  · exact Or.inl h
  · obtain ⟨k, h1, h2⟩ := nI_of h
    exact Or.inr ⟨k, h2, h1⟩
/-! what the reference's rows hold: numbers of players, tenths, goings; each row in its bounds; who holds is IN -/
def zn (r : rr_S) : Nat := (r.1 9).toNatClampNeg
def zt (r : rr_S) : Nat := (r.1 10).toNatClampNeg
def zg (r : rr_S) : Nat := (r.1 11).toNatClampNeg
def zc (r : rr_S) (k p : Nat) : Nat := (r.2.1 k p).toNatClampNeg
/-- who waits, of a side -/
def zw (r : rr_S) (s p : Nat) : Bool := decide (p < zn r) && (decide (zc r 1 p = s) && decide (0 < zc r 5 p))
/-- how many wait ahead of a going -/
def za (r : rr_S) (s o : Nat) : Nat := (List.range 8).countP (fun k => zw r s k && decide (zc r 5 k < o))
def zk (r : rr_S) (s : Nat) : Nat := (List.range 8).countP (fun k => zw r s k)
def zi (r : rr_S) (s p : Nat) : Bool := decide (p < zn r) && (decide (zc r 1 p = s) && decide (zc r 5 p = 0))
def RW (T G : Nat) (r : rr_S) : Prop :=
  (r.1 9 = nI (zn r) ∧ zn r ≤ 8) ∧ (r.1 10 = nI (zt r) ∧ zt r ≤ T) ∧ (r.1 11 = nI (zg r) ∧ zg r ≤ G) ∧
  (∀ p, p < zn r → (∀ k, k < 6 → r.2.1 k p = nI (zc r k p) ∨ k = 0) ∧ zc r 1 p ≤ 1 ∧ zc r 2 p ≤ 5 ∧ zc r 3 p ≤ 9 ∧ zc r 4 p ≤ 9 ∧ zc r 5 p ≤ zg r) ∧
  (∀ p p', p < zn r → p' < zn r → zc r 5 p = zc r 5 p' → 0 < zc r 5 p → p = p') ∧
  (∀ b, b < 6 → (r.2.1 6 b = -9 ∧ (r.2.1 7 b = 0 ∨ r.2.1 7 b = 1) ∧ r.2.1 8 b = 0) ∨ (r.2.1 6 b = nI (zc r 6 b) ∧ zc r 6 b < zn r ∧ zc r 5 (zc r 6 b) = 0 ∧ r.2.1 7 b = -9 ∧ r.2.1 8 b = nI (zc r 8 b) ∧ zc r 8 b ≤ 9))
/-- a court of the landed side beside the reference's rows -/
def CR (x : cc_CT) (r : rr_S) : Prop :=
  x.1.1 1 = r.1 9 ∧ x.1.1 7 = r.1 10 ∧
  (∀ p, p < zn r → (x.2.2 p).1 = np_ci (r.2.1 2 p) ∧ (x.2.2 p).2 0 = r.2.1 2 p ∧ (x.2.2 p).2 1 = r.2.1 1 p ∧ (x.2.2 p).2 2 = r.2.1 3 p ∧ (x.2.2 p).2 3 = r.2.1 4 p) ∧
  (∀ b, b < 6 → x.1.2.1 4 b = r.2.1 6 b ∧ x.1.2.1 5 b = r.2.1 7 b ∧ x.1.2.1 6 b = r.2.1 8 b) ∧
  (∀ s, s < 2 → (∃ m, (x.2.1 s).1 0 = nI m ∧ m < 256 ∧ ∀ p, p < 8 → m.testBit p = zi r s p) ∧ (x.2.1 s).1 2 = nI (zk r s) ∧
    (∀ j, j < zk r s → ∃ p, zw r s p = true ∧ za r s (zc r 5 p) = j ∧ (x.2.1 s).2.1 1 j = nI p) ∧
    (∀ p, zw r s p = true → za r s (zc r 5 p) < zk r s ∧ (x.2.1 s).2.1 1 (za r s (zc r 5 p)) = nI p))
/-- court and rows -/
def CW (T G : Nat) (x : cc_CT) (r : rr_S) : Prop := RW T G r ∧ CR x r
/-- rows of the court apart, nothing else differs -/
def FR (r r1 : rr_S) : Prop := (∀ k, k ≠ 9 → k ≠ 10 → k ≠ 11 → r1.1 k = r.1 k) ∧ (∀ k, k = 0 ∨ 8 < k → r1.2.1 k = r.2.1 k) ∧ r1.2.2 = r.2.2
theorem FR.rf (r : rr_S) : FR r r := ⟨fun _ _ _ _ => rfl, fun _ _ => rfl, rfl⟩
theorem FR.tr {r r1 r2 : rr_S} (h1 : FR r r1) (h2 : FR r1 r2) : FR r r2 := ⟨fun k a b c => (h2.1 k a b c).trans (h1.1 k a b c), fun k h => (h2.2.1 k h).trans (h1.2.1 k h), h2.2.2.trans h1.2.2⟩
