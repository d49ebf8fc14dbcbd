def cs_id (c sd : Nat) : Nat := 10 + 20 * c + 2 + 2 * sd
theorem cs_0 (g : cc_G) (c : Nat) (x : cc_CT) : (cc_cF g (10 + 20 * c) x)[2]? = some (.ref (cc_ad g (cs_id c 0))) := rfl
theorem cs_1 (g : cc_G) (c : Nat) (x : cc_CT) : (cc_cF g (10 + 20 * c) x)[3]? = some (.ref (cc_ad g (cs_id c 1))) := rfl
theorem mo_main (g : cc_G) : cc_Ob g cc_id 0 10 (cc_mF g) := ⟨0, fun _ _ _ => rfl⟩
theorem mi_4 (g : cc_G) : cc_Oi g cc_id 0 10 (cc_mF g) 4 (fun q v => cc_mi q 4 v) := ⟨0, fun _ _ _ => rfl, fun _ _ _ _ => rfl, fun _ => Nat.le_of_ble_eq_true rfl, fun _ _ _ _ => rfl⟩
theorem mi_7 (g : cc_G) : cc_Oi g cc_id 0 10 (cc_mF g) 7 (fun q v => cc_mi q 7 v) := ⟨0, fun _ _ _ => rfl, fun _ _ _ _ => rfl, fun _ => Nat.le_of_ble_eq_true rfl, fun _ _ _ _ => rfl⟩
theorem mi_9 (g : cc_G) : cc_Oi g cc_id 0 10 (cc_mF g) 9 (fun q v => cc_mi q 9 v) := ⟨0, fun _ _ _ => rfl, fun _ _ _ _ => rfl, fun _ => Nat.le_of_ble_eq_true rfl, fun _ _ _ _ => rfl⟩
theorem ma_6 (g : cc_G) : cc_Ai g cc_id 6 12 (fun q => q.1.2.1 6) (fun q i v => cc_ma q 6 i v) := ⟨1, fun _ _ _ => rfl, fun _ _ _ _ _ => rfl, fun _ _ _ _ _ => rfl⟩
theorem ma_8 (g : cc_G) : cc_Ai g cc_id 7 7 (fun q => q.1.2.1 8) (fun q i v => cc_ma q 8 i v) := ⟨2, fun _ _ _ => rfl, fun _ _ _ _ _ => rfl, fun _ _ _ _ _ => rfl⟩
theorem mo_text (g : cc_G) : cc_Ob g cc_id 1 7 (fun q => cc_tF g q.2.1) := ⟨3, fun _ _ _ => rfl⟩
theorem mo_duel (g : cc_G) : cc_Ob g cc_id 3 2 (fun q => cc_dF g q.2.2.2) := ⟨5, fun _ _ _ => rfl⟩
theorem mo_crt (g : cc_G) {c : Nat} (hc : c < 3) : cc_Ob g cc_id (10 + 20 * c) 1 (fun q => cc_cF g (10 + 20 * c) (q.2.2.1 c)) := by
  rcases (show c = 0 ∨ c = 1 ∨ c = 2 by omega) with rfl | rfl | rfl
  · exact ⟨8, fun _ _ _ => rfl⟩
  · exact ⟨17, fun _ _ _ => rfl⟩
  · exact ⟨26, fun _ _ _ => rfl⟩
theorem mo_side (g : cc_G) {c sd : Nat} (hc : c < 3) (hs : sd < 2) : cc_Ob g cc_id (cs_id c sd) 6 (fun q => cc_sF g (cs_id c sd) ((q.2.2.1 c).2.1 sd)) := by
  rcases (show c = 0 ∨ c = 1 ∨ c = 2 by omega) with rfl | rfl | rfl <;> rcases (show sd = 0 ∨ sd = 1 by omega) with rfl | rfl
  · exact ⟨10, fun _ _ _ => rfl⟩
  · exact ⟨12, fun _ _ _ => rfl⟩
  · exact ⟨19, fun _ _ _ => rfl⟩
  · exact ⟨21, fun _ _ _ => rfl⟩
  · exact ⟨28, fun _ _ _ => rfl⟩
  · exact ⟨30, fun _ _ _ => rfl⟩
theorem to_text (g : cc_G) (q : cc_S) : cc_Ob g (cc_pT q) 1 7 (cc_tF g) := ⟨3, fun _ _ _ => rfl⟩
theorem ti_1 (g : cc_G) (q : cc_S) : cc_Oi g (cc_pT q) 1 7 (cc_tF g) 1 (fun x v => rr_I x 1 v) := ⟨3, fun _ _ _ => rfl, fun _ _ _ _ => rfl, fun _ => Nat.le_of_ble_eq_true rfl, fun _ _ _ _ => rfl⟩
theorem ta_0 (g : cc_G) (q : cc_S) : cc_Ac g (cc_pT q) 2 80 (fun x => x.2.1 0) (fun x i v => rr_A x 0 i v) := ⟨4, fun _ _ _ => rfl, fun _ _ _ _ _ => rfl, fun _ _ _ _ _ => rfl⟩
theorem do_duel (g : cc_G) (q : cc_S) : cc_Ob g (cc_pD q) 3 2 (cc_dF g) := ⟨5, fun _ _ _ => rfl⟩
theorem di_2 (g : cc_G) (q : cc_S) : cc_Oi g (cc_pD q) 3 2 (cc_dF g) 2 (fun x v => rr_I x 2 v) := ⟨5, fun _ _ _ => rfl, fun _ _ _ _ => rfl, fun _ => Nat.le_of_ble_eq_true rfl, fun _ _ _ _ => rfl⟩
theorem di_3 (g : cc_G) (q : cc_S) : cc_Oi g (cc_pD q) 3 2 (cc_dF g) 3 (fun x v => rr_I x 3 v) := ⟨5, fun _ _ _ => rfl, fun _ _ _ _ => rfl, fun _ => Nat.le_of_ble_eq_true rfl, fun _ _ _ _ => rfl⟩
theorem di_4 (g : cc_G) (q : cc_S) : cc_Oi g (cc_pD q) 3 2 (cc_dF g) 4 (fun x v => rr_I x 4 v) := ⟨5, fun _ _ _ => rfl, fun _ _ _ _ => rfl, fun _ => Nat.le_of_ble_eq_true rfl, fun _ _ _ _ => rfl⟩
theorem dk_5 (g : cc_G) (q : cc_S) : cc_Ok g (cc_pD q) 3 2 (cc_dF g) 5 (fun x v => rr_L x 5 0 v) := ⟨5, fun _ _ _ => rfl, fun _ _ _ _ => rfl, fun _ _ _ _ => rfl⟩
theorem dl_0 (g : cc_G) (q : cc_S) : cc_Al g (cc_pD q) 4 25 (fun x => x.2.2 0) (fun x i v => rr_L x 0 i v) := ⟨6, fun _ _ _ => rfl, fun _ _ _ _ _ => rfl, fun _ _ _ _ _ => rfl⟩
theorem dl_1 (g : cc_G) (q : cc_S) : cc_Al g (cc_pD q) 5 25 (fun x => x.2.2 1) (fun x i v => rr_L x 1 i v) := ⟨7, fun _ _ _ => rfl, fun _ _ _ _ _ => rfl, fun _ _ _ _ _ => rfl⟩
theorem co_crt (g : cc_G) (q : cc_S) {c : Nat} (hc : c < 3) : cc_Ob g (cc_pC q c) (10 + 20 * c) 1 (cc_cF g (10 + 20 * c)) := by
  rcases (show c = 0 ∨ c = 1 ∨ c = 2 by omega) with rfl | rfl | rfl
  · exact ⟨8, fun _ _ _ => rfl⟩
  · exact ⟨17, fun _ _ _ => rfl⟩
  · exact ⟨26, fun _ _ _ => rfl⟩
theorem ci_1 (g : cc_G) (q : cc_S) {c : Nat} (hc : c < 3) : cc_Oi g (cc_pC q c) (10 + 20 * c) 1 (cc_cF g (10 + 20 * c)) 1 (fun x v => cc_ci x 1 v) := by
  rcases (show c = 0 ∨ c = 1 ∨ c = 2 by omega) with rfl | rfl | rfl
  · exact ⟨8, fun _ _ _ => rfl, fun _ _ _ _ => rfl, fun _ => Nat.le_of_ble_eq_true rfl, (fun x v c2 j => by first | rfl | (show ((if c2 = _ then _ else q.2.2.1 c2) : cc_CT).2.2 j = ((if c2 = _ then _ else q.2.2.1 c2) : cc_CT).2.2 j; split <;> rfl))⟩
  · exact ⟨17, fun _ _ _ => rfl, fun _ _ _ _ => rfl, fun _ => Nat.le_of_ble_eq_true rfl, (fun x v c2 j => by first | rfl | (show ((if c2 = _ then _ else q.2.2.1 c2) : cc_CT).2.2 j = ((if c2 = _ then _ else q.2.2.1 c2) : cc_CT).2.2 j; split <;> rfl))⟩
  · exact ⟨26, fun _ _ _ => rfl, fun _ _ _ _ => rfl, fun _ => Nat.le_of_ble_eq_true rfl, (fun x v c2 j => by first | rfl | (show ((if c2 = _ then _ else q.2.2.1 c2) : cc_CT).2.2 j = ((if c2 = _ then _ else q.2.2.1 c2) : cc_CT).2.2 j; split <;> rfl))⟩
theorem ci_7 (g : cc_G) (q : cc_S) {c : Nat} (hc : c < 3) : cc_Oi g (cc_pC q c) (10 + 20 * c) 1 (cc_cF g (10 + 20 * c)) 7 (fun x v => cc_ci x 7 v) := by
  rcases (show c = 0 ∨ c = 1 ∨ c = 2 by omega) with rfl | rfl | rfl
  · exact ⟨8, fun _ _ _ => rfl, fun _ _ _ _ => rfl, fun _ => Nat.le_of_ble_eq_true rfl, (fun x v c2 j => by first | rfl | (show ((if c2 = _ then _ else q.2.2.1 c2) : cc_CT).2.2 j = ((if c2 = _ then _ else q.2.2.1 c2) : cc_CT).2.2 j; split <;> rfl))⟩
  · exact ⟨17, fun _ _ _ => rfl, fun _ _ _ _ => rfl, fun _ => Nat.le_of_ble_eq_true rfl, (fun x v c2 j => by first | rfl | (show ((if c2 = _ then _ else q.2.2.1 c2) : cc_CT).2.2 j = ((if c2 = _ then _ else q.2.2.1 c2) : cc_CT).2.2 j; split <;> rfl))⟩
  · exact ⟨26, fun _ _ _ => rfl, fun _ _ _ _ => rfl, fun _ => Nat.le_of_ble_eq_true rfl, (fun x v c2 j => by first | rfl | (show ((if c2 = _ then _ else q.2.2.1 c2) : cc_CT).2.2 j = ((if c2 = _ then _ else q.2.2.1 c2) : cc_CT).2.2 j; split <;> rfl))⟩
theorem ca_4 (g : cc_G) (q : cc_S) {c : Nat} (hc : c < 3) : cc_Ai g (cc_pC q c) (10 + 20 * c + 6) 6 (fun x => x.1.2.1 4) (fun x i v => cc_ca x 4 i v) := by
  rcases (show c = 0 ∨ c = 1 ∨ c = 2 by omega) with rfl | rfl | rfl
  · exact ⟨14, fun _ _ _ => rfl, fun _ _ _ _ _ => rfl, (fun x i v c2 j => by first | rfl | (show ((if c2 = _ then _ else q.2.2.1 c2) : cc_CT).2.2 j = ((if c2 = _ then _ else q.2.2.1 c2) : cc_CT).2.2 j; split <;> rfl))⟩
  · exact ⟨23, fun _ _ _ => rfl, fun _ _ _ _ _ => rfl, (fun x i v c2 j => by first | rfl | (show ((if c2 = _ then _ else q.2.2.1 c2) : cc_CT).2.2 j = ((if c2 = _ then _ else q.2.2.1 c2) : cc_CT).2.2 j; split <;> rfl))⟩
  · exact ⟨32, fun _ _ _ => rfl, fun _ _ _ _ _ => rfl, (fun x i v c2 j => by first | rfl | (show ((if c2 = _ then _ else q.2.2.1 c2) : cc_CT).2.2 j = ((if c2 = _ then _ else q.2.2.1 c2) : cc_CT).2.2 j; split <;> rfl))⟩
theorem ca_5 (g : cc_G) (q : cc_S) {c : Nat} (hc : c < 3) : cc_Ai g (cc_pC q c) (10 + 20 * c + 7) 6 (fun x => x.1.2.1 5) (fun x i v => cc_ca x 5 i v) := by
  rcases (show c = 0 ∨ c = 1 ∨ c = 2 by omega) with rfl | rfl | rfl
  · exact ⟨15, fun _ _ _ => rfl, fun _ _ _ _ _ => rfl, (fun x i v c2 j => by first | rfl | (show ((if c2 = _ then _ else q.2.2.1 c2) : cc_CT).2.2 j = ((if c2 = _ then _ else q.2.2.1 c2) : cc_CT).2.2 j; split <;> rfl))⟩
  · exact ⟨24, fun _ _ _ => rfl, fun _ _ _ _ _ => rfl, (fun x i v c2 j => by first | rfl | (show ((if c2 = _ then _ else q.2.2.1 c2) : cc_CT).2.2 j = ((if c2 = _ then _ else q.2.2.1 c2) : cc_CT).2.2 j; split <;> rfl))⟩
  · exact ⟨33, fun _ _ _ => rfl, fun _ _ _ _ _ => rfl, (fun x i v c2 j => by first | rfl | (show ((if c2 = _ then _ else q.2.2.1 c2) : cc_CT).2.2 j = ((if c2 = _ then _ else q.2.2.1 c2) : cc_CT).2.2 j; split <;> rfl))⟩
theorem ca_6 (g : cc_G) (q : cc_S) {c : Nat} (hc : c < 3) : cc_Ai g (cc_pC q c) (10 + 20 * c + 8) 6 (fun x => x.1.2.1 6) (fun x i v => cc_ca x 6 i v) := by
  rcases (show c = 0 ∨ c = 1 ∨ c = 2 by omega) with rfl | rfl | rfl
  · exact ⟨16, fun _ _ _ => rfl, fun _ _ _ _ _ => rfl, (fun x i v c2 j => by first | rfl | (show ((if c2 = _ then _ else q.2.2.1 c2) : cc_CT).2.2 j = ((if c2 = _ then _ else q.2.2.1 c2) : cc_CT).2.2 j; split <;> rfl))⟩
  · exact ⟨25, fun _ _ _ => rfl, fun _ _ _ _ _ => rfl, (fun x i v c2 j => by first | rfl | (show ((if c2 = _ then _ else q.2.2.1 c2) : cc_CT).2.2 j = ((if c2 = _ then _ else q.2.2.1 c2) : cc_CT).2.2 j; split <;> rfl))⟩
  · exact ⟨34, fun _ _ _ => rfl, fun _ _ _ _ _ => rfl, (fun x i v c2 j => by first | rfl | (show ((if c2 = _ then _ else q.2.2.1 c2) : cc_CT).2.2 j = ((if c2 = _ then _ else q.2.2.1 c2) : cc_CT).2.2 j; split <;> rfl))⟩
theorem co_side (g : cc_G) (q : cc_S) {c sd : Nat} (hc : c < 3) (hs : sd < 2) : cc_Ob g (cc_pC q c) (cs_id c sd) 6 (fun x => cc_sF g (cs_id c sd) (x.2.1 sd)) := by
  rcases (show c = 0 ∨ c = 1 ∨ c = 2 by omega) with rfl | rfl | rfl <;> rcases (show sd = 0 ∨ sd = 1 by omega) with rfl | rfl
  · exact ⟨10, fun _ _ _ => rfl⟩
  · exact ⟨12, fun _ _ _ => rfl⟩
  · exact ⟨19, fun _ _ _ => rfl⟩
  · exact ⟨21, fun _ _ _ => rfl⟩
  · exact ⟨28, fun _ _ _ => rfl⟩
  · exact ⟨30, fun _ _ _ => rfl⟩
theorem so_side (g : cc_G) (q : cc_S) {c sd : Nat} (x : cc_CT) (hc : c < 3) (hs : sd < 2) : cc_Ob g (cc_pS q c x sd) (cs_id c sd) 6 (cc_sF g (cs_id c sd)) := by
  rcases (show c = 0 ∨ c = 1 ∨ c = 2 by omega) with rfl | rfl | rfl <;> rcases (show sd = 0 ∨ sd = 1 by omega) with rfl | rfl
  · exact ⟨10, fun _ _ _ => rfl⟩
  · exact ⟨12, fun _ _ _ => rfl⟩
  · exact ⟨19, fun _ _ _ => rfl⟩
  · exact ⟨21, fun _ _ _ => rfl⟩
  · exact ⟨28, fun _ _ _ => rfl⟩
  · exact ⟨30, fun _ _ _ => rfl⟩
theorem si_0 (g : cc_G) (q : cc_S) {c sd : Nat} (x : cc_CT) (hc : c < 3) (hs : sd < 2) : cc_Oi g (cc_pS q c x sd) (cs_id c sd) 6 (cc_sF g (cs_id c sd)) 0 (fun y v => rr_I y 0 v) := by
  rcases (show c = 0 ∨ c = 1 ∨ c = 2 by omega) with rfl | rfl | rfl <;> rcases (show sd = 0 ∨ sd = 1 by omega) with rfl | rfl
  · exact ⟨10, fun _ _ _ => rfl, fun _ _ _ _ => rfl, fun _ => Nat.le_of_ble_eq_true rfl, (fun x v c2 j => by first | rfl | (show ((if c2 = _ then _ else q.2.2.1 c2) : cc_CT).2.2 j = ((if c2 = _ then _ else q.2.2.1 c2) : cc_CT).2.2 j; split <;> rfl))⟩
  · exact ⟨12, fun _ _ _ => rfl, fun _ _ _ _ => rfl, fun _ => Nat.le_of_ble_eq_true rfl, (fun x v c2 j => by first | rfl | (show ((if c2 = _ then _ else q.2.2.1 c2) : cc_CT).2.2 j = ((if c2 = _ then _ else q.2.2.1 c2) : cc_CT).2.2 j; split <;> rfl))⟩
  · exact ⟨19, fun _ _ _ => rfl, fun _ _ _ _ => rfl, fun _ => Nat.le_of_ble_eq_true rfl, (fun x v c2 j => by first | rfl | (show ((if c2 = _ then _ else q.2.2.1 c2) : cc_CT).2.2 j = ((if c2 = _ then _ else q.2.2.1 c2) : cc_CT).2.2 j; split <;> rfl))⟩
  · exact ⟨21, fun _ _ _ => rfl, fun _ _ _ _ => rfl, fun _ => Nat.le_of_ble_eq_true rfl, (fun x v c2 j => by first | rfl | (show ((if c2 = _ then _ else q.2.2.1 c2) : cc_CT).2.2 j = ((if c2 = _ then _ else q.2.2.1 c2) : cc_CT).2.2 j; split <;> rfl))⟩
  · exact ⟨28, fun _ _ _ => rfl, fun _ _ _ _ => rfl, fun _ => Nat.le_of_ble_eq_true rfl, (fun x v c2 j => by first | rfl | (show ((if c2 = _ then _ else q.2.2.1 c2) : cc_CT).2.2 j = ((if c2 = _ then _ else q.2.2.1 c2) : cc_CT).2.2 j; split <;> rfl))⟩
  · exact ⟨30, fun _ _ _ => rfl, fun _ _ _ _ => rfl, fun _ => Nat.le_of_ble_eq_true rfl, (fun x v c2 j => by first | rfl | (show ((if c2 = _ then _ else q.2.2.1 c2) : cc_CT).2.2 j = ((if c2 = _ then _ else q.2.2.1 c2) : cc_CT).2.2 j; split <;> rfl))⟩
theorem si_2 (g : cc_G) (q : cc_S) {c sd : Nat} (x : cc_CT) (hc : c < 3) (hs : sd < 2) : cc_Oi g (cc_pS q c x sd) (cs_id c sd) 6 (cc_sF g (cs_id c sd)) 2 (fun y v => rr_I y 2 v) := by
  rcases (show c = 0 ∨ c = 1 ∨ c = 2 by omega) with rfl | rfl | rfl <;> rcases (show sd = 0 ∨ sd = 1 by omega) with rfl | rfl
  · exact ⟨10, fun _ _ _ => rfl, fun _ _ _ _ => rfl, fun _ => Nat.le_of_ble_eq_true rfl, (fun x v c2 j => by first | rfl | (show ((if c2 = _ then _ else q.2.2.1 c2) : cc_CT).2.2 j = ((if c2 = _ then _ else q.2.2.1 c2) : cc_CT).2.2 j; split <;> rfl))⟩
  · exact ⟨12, fun _ _ _ => rfl, fun _ _ _ _ => rfl, fun _ => Nat.le_of_ble_eq_true rfl, (fun x v c2 j => by first | rfl | (show ((if c2 = _ then _ else q.2.2.1 c2) : cc_CT).2.2 j = ((if c2 = _ then _ else q.2.2.1 c2) : cc_CT).2.2 j; split <;> rfl))⟩
  · exact ⟨19, fun _ _ _ => rfl, fun _ _ _ _ => rfl, fun _ => Nat.le_of_ble_eq_true rfl, (fun x v c2 j => by first | rfl | (show ((if c2 = _ then _ else q.2.2.1 c2) : cc_CT).2.2 j = ((if c2 = _ then _ else q.2.2.1 c2) : cc_CT).2.2 j; split <;> rfl))⟩
  · exact ⟨21, fun _ _ _ => rfl, fun _ _ _ _ => rfl, fun _ => Nat.le_of_ble_eq_true rfl, (fun x v c2 j => by first | rfl | (show ((if c2 = _ then _ else q.2.2.1 c2) : cc_CT).2.2 j = ((if c2 = _ then _ else q.2.2.1 c2) : cc_CT).2.2 j; split <;> rfl))⟩
  · exact ⟨28, fun _ _ _ => rfl, fun _ _ _ _ => rfl, fun _ => Nat.le_of_ble_eq_true rfl, (fun x v c2 j => by first | rfl | (show ((if c2 = _ then _ else q.2.2.1 c2) : cc_CT).2.2 j = ((if c2 = _ then _ else q.2.2.1 c2) : cc_CT).2.2 j; split <;> rfl))⟩
  · exact ⟨30, fun _ _ _ => rfl, fun _ _ _ _ => rfl, fun _ => Nat.le_of_ble_eq_true rfl, (fun x v c2 j => by first | rfl | (show ((if c2 = _ then _ else q.2.2.1 c2) : cc_CT).2.2 j = ((if c2 = _ then _ else q.2.2.1 c2) : cc_CT).2.2 j; split <;> rfl))⟩
theorem sa_1 (g : cc_G) (q : cc_S) {c sd : Nat} (x : cc_CT) (hc : c < 3) (hs : sd < 2) : cc_Ai g (cc_pS q c x sd) (cs_id c sd + 1) 8 (fun y => y.2.1 1) (fun y i v => rr_A y 1 i v) := by
  rcases (show c = 0 ∨ c = 1 ∨ c = 2 by omega) with rfl | rfl | rfl <;> rcases (show sd = 0 ∨ sd = 1 by omega) with rfl | rfl
  · exact ⟨11, fun _ _ _ => rfl, fun _ _ _ _ _ => rfl, (fun x i v c2 j => by first | rfl | (show ((if c2 = _ then _ else q.2.2.1 c2) : cc_CT).2.2 j = ((if c2 = _ then _ else q.2.2.1 c2) : cc_CT).2.2 j; split <;> rfl))⟩
  · exact ⟨13, fun _ _ _ => rfl, fun _ _ _ _ _ => rfl, (fun x i v c2 j => by first | rfl | (show ((if c2 = _ then _ else q.2.2.1 c2) : cc_CT).2.2 j = ((if c2 = _ then _ else q.2.2.1 c2) : cc_CT).2.2 j; split <;> rfl))⟩
  · exact ⟨20, fun _ _ _ => rfl, fun _ _ _ _ _ => rfl, (fun x i v c2 j => by first | rfl | (show ((if c2 = _ then _ else q.2.2.1 c2) : cc_CT).2.2 j = ((if c2 = _ then _ else q.2.2.1 c2) : cc_CT).2.2 j; split <;> rfl))⟩
  · exact ⟨22, fun _ _ _ => rfl, fun _ _ _ _ _ => rfl, (fun x i v c2 j => by first | rfl | (show ((if c2 = _ then _ else q.2.2.1 c2) : cc_CT).2.2 j = ((if c2 = _ then _ else q.2.2.1 c2) : cc_CT).2.2 j; split <;> rfl))⟩
  · exact ⟨29, fun _ _ _ => rfl, fun _ _ _ _ _ => rfl, (fun x i v c2 j => by first | rfl | (show ((if c2 = _ then _ else q.2.2.1 c2) : cc_CT).2.2 j = ((if c2 = _ then _ else q.2.2.1 c2) : cc_CT).2.2 j; split <;> rfl))⟩
  · exact ⟨31, fun _ _ _ => rfl, fun _ _ _ _ _ => rfl, (fun x i v c2 j => by first | rfl | (show ((if c2 = _ then _ else q.2.2.1 c2) : cc_CT).2.2 j = ((if c2 = _ then _ else q.2.2.1 c2) : cc_CT).2.2 j; split <;> rfl))⟩
