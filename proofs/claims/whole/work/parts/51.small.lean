/-! ===== small functions in closed form ===== -/
theorem within_eq (a b c : Int32) : cD_within a b c = some (decide (b ≤ a ∧ a ≤ c)) := by
  unfold cD_within
  by_cases h1 : a < b
  · rw [if_pos h1, decide_eq_false (fun z => Int32.not_le.mpr h1 z.1)]
  · rw [if_neg h1]
    by_cases h2 : c < a
    · rw [if_pos h2, decide_eq_false (fun z => Int32.not_le.mpr h2 z.2)]
    · rw [if_neg h2, decide_eq_true ⟨Int32.not_lt.mp h1, Int32.not_lt.mp h2⟩]
theorem in_eq (a b c : Int32) : rM_in a b c = some (decide (b ≤ a ∧ a ≤ c)) := within_eq a b c
theorem found_eq (S : SS) (v : Int32) : cD_found S v = some (v, up S 8 8 (S 8 8 + 1)) := rfl
theorem finds_eq (M : SS) (v : Int32) : rM_finds M v = some (v, up M 154 3 (M 154 3 + 1)) := rfl
theorem inb_iff {z : Int32} {n : Nat} {s : Int32} (hs : s = nI n) (hn : n ≤ 100000) : (0 ≤ z ∧ z ≤ s - 1) ↔ inb z n := by
  subst hs
  constructor
  · intro h
    obtain ⟨i, hi, rfl⟩ := ix_of rfl (by omega) h
    exact nI_inb hi (by omega)
  · intro h
    obtain ⟨q, hq, rfl⟩ : ∃ q, q < n ∧ z = nI q := ⟨ix z, inb_lt h, inb_nI h⟩
    exact ix_in rfl (by omega) hq
theorem inb_lit {z H : Int32} {n : Nat} (hH : H.toInt + 1 = n) : (0 ≤ z ∧ z ≤ H) ↔ inb z n := by
  rw [Int32.le_iff_toInt_le, Int32.le_iff_toInt_le]
  show (0 : Int) ≤ _ ∧ _ ↔ 0 ≤ _ ∧ _
  omega
theorem inb_mono {z : Int32} {n m : Nat} (h : inb z n) (hm : n ≤ m) : inb z m := ⟨h.1, by have := h.2; omega⟩
theorem inb_ex {z : Int32} {n : Nat} (h : inb z n) : ∃ q, q < n ∧ z = nI q := ⟨ix z, inb_lt h, inb_nI h⟩
theorem dec_c {p q : Prop} [Decidable p] [Decidable q] (h : p ↔ q) : (some (decide p) : Option Bool) = some (decide q) := by
  rw [decide_eq_decide.mpr h]
theorem ad3 {z : Int32} {n : Nat} (h : inb z n) (c k w : Nat) (hb : n < 2 ^ 31) : (nI c + nI k * z) + nI w = nI (c + k * ix z + w) := by
  obtain ⟨q, hq, rfl⟩ := inb_ex h
  rw [nI_ix (by omega), pk_mul, nI_add, nI_add]
theorem bind_id {α : Type} (a : Option α) : (a.bind fun p => some p) = a := by cases a <;> rfl
theorem cD_isBench_eq (z : Int32) : cD_isBench z = some (decide (inb z 2)) := by
  unfold cD_isBench
  rw [bind_id, within_eq]
  exact dec_c (inb_lit (by decide))
theorem rM_isBench_eq (z : Int32) : rM_isBench z = some (decide (inb z 2)) := by
  unfold rM_isBench
  rw [bind_id, in_eq]
  exact dec_c (inb_lit (by decide))
theorem cD_isYear_eq (z : Int32) : cD_isYear z = some (decide (inb z 401)) := by
  unfold cD_isYear
  rw [bind_id, within_eq]
  exact dec_c (inb_lit (by decide))
theorem rM_isYear_eq (z : Int32) : rM_isYear z = some (decide (inb z 401)) := by
  unfold rM_isYear
  rw [bind_id, in_eq]
  exact dec_c (inb_lit (by decide))
theorem cD_isSheet_eq (z : Int32) : cD_isSheet z = some (decide (inb z 4)) := by
  unfold cD_isSheet
  rw [bind_id, within_eq]
  exact dec_c (inb_lit (by decide))
theorem rM_isSheet_eq (z : Int32) : rM_isSheet z = some (decide (inb z 4)) := by
  unfold rM_isSheet
  rw [bind_id, in_eq]
  exact dec_c (inb_lit (by decide))
theorem cD_isHarvest_eq (z : Int32) : cD_isHarvest z = some (decide (inb z 31)) := by
  unfold cD_isHarvest
  rw [bind_id, within_eq]
  exact dec_c (inb_lit (by decide))
theorem cD_isPurse_eq (z : Int32) : cD_isPurse z = some (decide (inb z 61)) := by
  unfold cD_isPurse
  rw [bind_id, within_eq]
  exact dec_c (inb_lit (by decide))
theorem cLand_hasPerson_eq {S : SS} {n : Nat} (hs : S 9 7 = nI n) (hn : n ≤ 100) (z : Int32) : cLand_hasPerson S z = some (decide (inb z n)) := by
  unfold cLand_hasPerson
  rw [bind_id, within_eq]
  exact dec_c (inb_iff hs (by omega))
theorem cLand_hasField_eq {S : SS} {n : Nat} (hs : S 9 8 = nI n) (hn : n ≤ 100) (z : Int32) : cLand_hasField S z = some (decide (inb z n)) := by
  unfold cLand_hasField
  rw [bind_id, within_eq]
  exact dec_c (inb_iff hs (by omega))
theorem cLand_hasPaper_eq {S : SS} {n : Nat} (hs : S 9 9 = nI n) (hn : n ≤ 100) (z : Int32) : cLand_hasPaper S z = some (decide (inb z n)) := by
  unfold cLand_hasPaper
  rw [bind_id, within_eq]
  exact dec_c (inb_iff hs (by omega))
theorem rM_isPerson_eq {M : SS} {n : Nat} (hs : M 155 0 = nI n) (hn : n ≤ 100) (z : Int32) : rM_isPerson M z = some (decide (inb z n)) := by
  unfold rM_isPerson
  rw [bind_id, in_eq]
  exact dec_c (inb_iff hs (by omega))
theorem rM_isField_eq {M : SS} {n : Nat} (hs : M 155 1 = nI n) (hn : n ≤ 100) (z : Int32) : rM_isField M z = some (decide (inb z n)) := by
  unfold rM_isField
  rw [bind_id, in_eq]
  exact dec_c (inb_iff hs (by omega))
theorem rM_isPaper_eq {M : SS} {n : Nat} (hs : M 155 2 = nI n) (hn : n ≤ 100) (z : Int32) : rM_isPaper M z = some (decide (inb z n)) := by
  unfold rM_isPaper
  rw [bind_id, in_eq]
  exact dec_c (inb_iff hs (by omega))
theorem rM_own_0 {M : SS} {z : Int32} (h : inb z 14) : rM_own M z 0 = some (M 155 (10 + 10 * ix z + 0)) := by
  unfold rM_own
  have e : (10 : Int32) + (10 : Int32) * z + 0 = nI (10 + 10 * ix z + 0) := ad3 h 10 10 0 (by decide)
  have hl := inb_lt h
  rw [e, if_pos (nI_inb (by omega) (by decide)), nI_ix (by omega)]
theorem rM_own_1 {M : SS} {z : Int32} (h : inb z 14) : rM_own M z 1 = some (M 155 (10 + 10 * ix z + 1)) := by
  unfold rM_own
  have e : (10 : Int32) + (10 : Int32) * z + 1 = nI (10 + 10 * ix z + 1) := ad3 h 10 10 1 (by decide)
  have hl := inb_lt h
  rw [e, if_pos (nI_inb (by omega) (by decide)), nI_ix (by omega)]
theorem rM_own_2 {M : SS} {z : Int32} (h : inb z 14) : rM_own M z 2 = some (M 155 (10 + 10 * ix z + 2)) := by
  unfold rM_own
  have e : (10 : Int32) + (10 : Int32) * z + 2 = nI (10 + 10 * ix z + 2) := ad3 h 10 10 2 (by decide)
  have hl := inb_lt h
  rw [e, if_pos (nI_inb (by omega) (by decide)), nI_ix (by omega)]
theorem rM_own_3 {M : SS} {z : Int32} (h : inb z 14) : rM_own M z 3 = some (M 155 (10 + 10 * ix z + 3)) := by
  unfold rM_own
  have e : (10 : Int32) + (10 : Int32) * z + 3 = nI (10 + 10 * ix z + 3) := ad3 h 10 10 3 (by decide)
  have hl := inb_lt h
  rw [e, if_pos (nI_inb (by omega) (by decide)), nI_ix (by omega)]
theorem rM_own_4 {M : SS} {z : Int32} (h : inb z 14) : rM_own M z 4 = some (M 155 (10 + 10 * ix z + 4)) := by
  unfold rM_own
  have e : (10 : Int32) + (10 : Int32) * z + 4 = nI (10 + 10 * ix z + 4) := ad3 h 10 10 4 (by decide)
  have hl := inb_lt h
  rw [e, if_pos (nI_inb (by omega) (by decide)), nI_ix (by omega)]
theorem rM_own_5 {M : SS} {z : Int32} (h : inb z 14) : rM_own M z 5 = some (M 155 (10 + 10 * ix z + 5)) := by
  unfold rM_own
  have e : (10 : Int32) + (10 : Int32) * z + 5 = nI (10 + 10 * ix z + 5) := ad3 h 10 10 5 (by decide)
  have hl := inb_lt h
  rw [e, if_pos (nI_inb (by omega) (by decide)), nI_ix (by omega)]
theorem rM_own_6 {M : SS} {z : Int32} (h : inb z 14) : rM_own M z 6 = some (M 155 (10 + 10 * ix z + 6)) := by
  unfold rM_own
  have e : (10 : Int32) + (10 : Int32) * z + 6 = nI (10 + 10 * ix z + 6) := ad3 h 10 10 6 (by decide)
  have hl := inb_lt h
  rw [e, if_pos (nI_inb (by omega) (by decide)), nI_ix (by omega)]
theorem rM_own_7 {M : SS} {z : Int32} (h : inb z 14) : rM_own M z 7 = some (M 155 (10 + 10 * ix z + 7)) := by
  unfold rM_own
  have e : (10 : Int32) + (10 : Int32) * z + 7 = nI (10 + 10 * ix z + 7) := ad3 h 10 10 7 (by decide)
  have hl := inb_lt h
  rw [e, if_pos (nI_inb (by omega) (by decide)), nI_ix (by omega)]
theorem rM_own_8 {M : SS} {z : Int32} (h : inb z 14) : rM_own M z 8 = some (M 155 (10 + 10 * ix z + 8)) := by
  unfold rM_own
  have e : (10 : Int32) + (10 : Int32) * z + 8 = nI (10 + 10 * ix z + 8) := ad3 h 10 10 8 (by decide)
  have hl := inb_lt h
  rw [e, if_pos (nI_inb (by omega) (by decide)), nI_ix (by omega)]
theorem rM_own_9 {M : SS} {z : Int32} (h : inb z 14) : rM_own M z 9 = some (M 155 (10 + 10 * ix z + 9)) := by
  unfold rM_own
  have e : (10 : Int32) + (10 : Int32) * z + 9 = nI (10 + 10 * ix z + 9) := ad3 h 10 10 9 (by decide)
  have hl := inb_lt h
  rw [e, if_pos (nI_inb (by omega) (by decide)), nI_ix (by omega)]
theorem rM_makes_0 {M : SS} {z v : Int32} (h : inb z 14) : rM_makes M z 0 v = some (up M 155 (10 + 10 * ix z + 0) v) := by
  unfold rM_makes
  have e : (10 : Int32) + (10 : Int32) * z + 0 = nI (10 + 10 * ix z + 0) := ad3 h 10 10 0 (by decide)
  have hl := inb_lt h
  rw [e, if_pos (nI_inb (by omega) (by decide)), nI_ix (by omega)]
theorem rM_makes_1 {M : SS} {z v : Int32} (h : inb z 14) : rM_makes M z 1 v = some (up M 155 (10 + 10 * ix z + 1) v) := by
  unfold rM_makes
  have e : (10 : Int32) + (10 : Int32) * z + 1 = nI (10 + 10 * ix z + 1) := ad3 h 10 10 1 (by decide)
  have hl := inb_lt h
  rw [e, if_pos (nI_inb (by omega) (by decide)), nI_ix (by omega)]
theorem rM_makes_2 {M : SS} {z v : Int32} (h : inb z 14) : rM_makes M z 2 v = some (up M 155 (10 + 10 * ix z + 2) v) := by
  unfold rM_makes
  have e : (10 : Int32) + (10 : Int32) * z + 2 = nI (10 + 10 * ix z + 2) := ad3 h 10 10 2 (by decide)
  have hl := inb_lt h
  rw [e, if_pos (nI_inb (by omega) (by decide)), nI_ix (by omega)]
theorem rM_makes_3 {M : SS} {z v : Int32} (h : inb z 14) : rM_makes M z 3 v = some (up M 155 (10 + 10 * ix z + 3) v) := by
  unfold rM_makes
  have e : (10 : Int32) + (10 : Int32) * z + 3 = nI (10 + 10 * ix z + 3) := ad3 h 10 10 3 (by decide)
  have hl := inb_lt h
  rw [e, if_pos (nI_inb (by omega) (by decide)), nI_ix (by omega)]
theorem rM_makes_4 {M : SS} {z v : Int32} (h : inb z 14) : rM_makes M z 4 v = some (up M 155 (10 + 10 * ix z + 4) v) := by
  unfold rM_makes
  have e : (10 : Int32) + (10 : Int32) * z + 4 = nI (10 + 10 * ix z + 4) := ad3 h 10 10 4 (by decide)
  have hl := inb_lt h
  rw [e, if_pos (nI_inb (by omega) (by decide)), nI_ix (by omega)]
theorem rM_makes_5 {M : SS} {z v : Int32} (h : inb z 14) : rM_makes M z 5 v = some (up M 155 (10 + 10 * ix z + 5) v) := by
  unfold rM_makes
  have e : (10 : Int32) + (10 : Int32) * z + 5 = nI (10 + 10 * ix z + 5) := ad3 h 10 10 5 (by decide)
  have hl := inb_lt h
  rw [e, if_pos (nI_inb (by omega) (by decide)), nI_ix (by omega)]
theorem rM_makes_6 {M : SS} {z v : Int32} (h : inb z 14) : rM_makes M z 6 v = some (up M 155 (10 + 10 * ix z + 6) v) := by
  unfold rM_makes
  have e : (10 : Int32) + (10 : Int32) * z + 6 = nI (10 + 10 * ix z + 6) := ad3 h 10 10 6 (by decide)
  have hl := inb_lt h
  rw [e, if_pos (nI_inb (by omega) (by decide)), nI_ix (by omega)]
theorem rM_makes_7 {M : SS} {z v : Int32} (h : inb z 14) : rM_makes M z 7 v = some (up M 155 (10 + 10 * ix z + 7) v) := by
  unfold rM_makes
  have e : (10 : Int32) + (10 : Int32) * z + 7 = nI (10 + 10 * ix z + 7) := ad3 h 10 10 7 (by decide)
  have hl := inb_lt h
  rw [e, if_pos (nI_inb (by omega) (by decide)), nI_ix (by omega)]
theorem rM_makes_8 {M : SS} {z v : Int32} (h : inb z 14) : rM_makes M z 8 v = some (up M 155 (10 + 10 * ix z + 8) v) := by
  unfold rM_makes
  have e : (10 : Int32) + (10 : Int32) * z + 8 = nI (10 + 10 * ix z + 8) := ad3 h 10 10 8 (by decide)
  have hl := inb_lt h
  rw [e, if_pos (nI_inb (by omega) (by decide)), nI_ix (by omega)]
theorem rM_makes_9 {M : SS} {z v : Int32} (h : inb z 14) : rM_makes M z 9 v = some (up M 155 (10 + 10 * ix z + 9) v) := by
  unfold rM_makes
  have e : (10 : Int32) + (10 : Int32) * z + 9 = nI (10 + 10 * ix z + 9) := ad3 h 10 10 9 (by decide)
  have hl := inb_lt h
  rw [e, if_pos (nI_inb (by omega) (by decide)), nI_ix (by omega)]
theorem rM_of_0 {M : SS} {z : Int32} (h : inb z 20) : rM_of M z 0 = some (M 155 (182 + 10 * ix z + 0)) := by
  unfold rM_of
  have e : (182 : Int32) + (10 : Int32) * z + 0 = nI (182 + 10 * ix z + 0) := ad3 h 182 10 0 (by decide)
  have hl := inb_lt h
  rw [e, if_pos (nI_inb (by omega) (by decide)), nI_ix (by omega)]
theorem rM_of_1 {M : SS} {z : Int32} (h : inb z 20) : rM_of M z 1 = some (M 155 (182 + 10 * ix z + 1)) := by
  unfold rM_of
  have e : (182 : Int32) + (10 : Int32) * z + 1 = nI (182 + 10 * ix z + 1) := ad3 h 182 10 1 (by decide)
  have hl := inb_lt h
  rw [e, if_pos (nI_inb (by omega) (by decide)), nI_ix (by omega)]
theorem rM_of_2 {M : SS} {z : Int32} (h : inb z 20) : rM_of M z 2 = some (M 155 (182 + 10 * ix z + 2)) := by
  unfold rM_of
  have e : (182 : Int32) + (10 : Int32) * z + 2 = nI (182 + 10 * ix z + 2) := ad3 h 182 10 2 (by decide)
  have hl := inb_lt h
  rw [e, if_pos (nI_inb (by omega) (by decide)), nI_ix (by omega)]
theorem rM_of_3 {M : SS} {z : Int32} (h : inb z 20) : rM_of M z 3 = some (M 155 (182 + 10 * ix z + 3)) := by
  unfold rM_of
  have e : (182 : Int32) + (10 : Int32) * z + 3 = nI (182 + 10 * ix z + 3) := ad3 h 182 10 3 (by decide)
  have hl := inb_lt h
  rw [e, if_pos (nI_inb (by omega) (by decide)), nI_ix (by omega)]
theorem rM_of_4 {M : SS} {z : Int32} (h : inb z 20) : rM_of M z 4 = some (M 155 (182 + 10 * ix z + 4)) := by
  unfold rM_of
  have e : (182 : Int32) + (10 : Int32) * z + 4 = nI (182 + 10 * ix z + 4) := ad3 h 182 10 4 (by decide)
  have hl := inb_lt h
  rw [e, if_pos (nI_inb (by omega) (by decide)), nI_ix (by omega)]
theorem rM_of_5 {M : SS} {z : Int32} (h : inb z 20) : rM_of M z 5 = some (M 155 (182 + 10 * ix z + 5)) := by
  unfold rM_of
  have e : (182 : Int32) + (10 : Int32) * z + 5 = nI (182 + 10 * ix z + 5) := ad3 h 182 10 5 (by decide)
  have hl := inb_lt h
  rw [e, if_pos (nI_inb (by omega) (by decide)), nI_ix (by omega)]
theorem rM_of_6 {M : SS} {z : Int32} (h : inb z 20) : rM_of M z 6 = some (M 155 (182 + 10 * ix z + 6)) := by
  unfold rM_of
  have e : (182 : Int32) + (10 : Int32) * z + 6 = nI (182 + 10 * ix z + 6) := ad3 h 182 10 6 (by decide)
  have hl := inb_lt h
  rw [e, if_pos (nI_inb (by omega) (by decide)), nI_ix (by omega)]
theorem rM_of_7 {M : SS} {z : Int32} (h : inb z 20) : rM_of M z 7 = some (M 155 (182 + 10 * ix z + 7)) := by
  unfold rM_of
  have e : (182 : Int32) + (10 : Int32) * z + 7 = nI (182 + 10 * ix z + 7) := ad3 h 182 10 7 (by decide)
  have hl := inb_lt h
  rw [e, if_pos (nI_inb (by omega) (by decide)), nI_ix (by omega)]
theorem rM_of_8 {M : SS} {z : Int32} (h : inb z 20) : rM_of M z 8 = some (M 155 (182 + 10 * ix z + 8)) := by
  unfold rM_of
  have e : (182 : Int32) + (10 : Int32) * z + 8 = nI (182 + 10 * ix z + 8) := ad3 h 182 10 8 (by decide)
  have hl := inb_lt h
  rw [e, if_pos (nI_inb (by omega) (by decide)), nI_ix (by omega)]
theorem rM_of_9 {M : SS} {z : Int32} (h : inb z 20) : rM_of M z 9 = some (M 155 (182 + 10 * ix z + 9)) := by
  unfold rM_of
  have e : (182 : Int32) + (10 : Int32) * z + 9 = nI (182 + 10 * ix z + 9) := ad3 h 182 10 9 (by decide)
  have hl := inb_lt h
  rw [e, if_pos (nI_inb (by omega) (by decide)), nI_ix (by omega)]
theorem rM_writes_0 {M : SS} {z v : Int32} (h : inb z 20) : rM_writes M z 0 v = some (up M 155 (182 + 10 * ix z + 0) v) := by
  unfold rM_writes
  have e : (182 : Int32) + (10 : Int32) * z + 0 = nI (182 + 10 * ix z + 0) := ad3 h 182 10 0 (by decide)
  have hl := inb_lt h
  rw [e, if_pos (nI_inb (by omega) (by decide)), nI_ix (by omega)]
theorem rM_writes_1 {M : SS} {z v : Int32} (h : inb z 20) : rM_writes M z 1 v = some (up M 155 (182 + 10 * ix z + 1) v) := by
  unfold rM_writes
  have e : (182 : Int32) + (10 : Int32) * z + 1 = nI (182 + 10 * ix z + 1) := ad3 h 182 10 1 (by decide)
  have hl := inb_lt h
  rw [e, if_pos (nI_inb (by omega) (by decide)), nI_ix (by omega)]
theorem rM_writes_2 {M : SS} {z v : Int32} (h : inb z 20) : rM_writes M z 2 v = some (up M 155 (182 + 10 * ix z + 2) v) := by
  unfold rM_writes
  have e : (182 : Int32) + (10 : Int32) * z + 2 = nI (182 + 10 * ix z + 2) := ad3 h 182 10 2 (by decide)
  have hl := inb_lt h
  rw [e, if_pos (nI_inb (by omega) (by decide)), nI_ix (by omega)]
theorem rM_writes_3 {M : SS} {z v : Int32} (h : inb z 20) : rM_writes M z 3 v = some (up M 155 (182 + 10 * ix z + 3) v) := by
  unfold rM_writes
  have e : (182 : Int32) + (10 : Int32) * z + 3 = nI (182 + 10 * ix z + 3) := ad3 h 182 10 3 (by decide)
  have hl := inb_lt h
  rw [e, if_pos (nI_inb (by omega) (by decide)), nI_ix (by omega)]
theorem rM_writes_4 {M : SS} {z v : Int32} (h : inb z 20) : rM_writes M z 4 v = some (up M 155 (182 + 10 * ix z + 4) v) := by
  unfold rM_writes
  have e : (182 : Int32) + (10 : Int32) * z + 4 = nI (182 + 10 * ix z + 4) := ad3 h 182 10 4 (by decide)
  have hl := inb_lt h
  rw [e, if_pos (nI_inb (by omega) (by decide)), nI_ix (by omega)]
theorem rM_writes_5 {M : SS} {z v : Int32} (h : inb z 20) : rM_writes M z 5 v = some (up M 155 (182 + 10 * ix z + 5) v) := by
  unfold rM_writes
  have e : (182 : Int32) + (10 : Int32) * z + 5 = nI (182 + 10 * ix z + 5) := ad3 h 182 10 5 (by decide)
  have hl := inb_lt h
  rw [e, if_pos (nI_inb (by omega) (by decide)), nI_ix (by omega)]
theorem rM_writes_6 {M : SS} {z v : Int32} (h : inb z 20) : rM_writes M z 6 v = some (up M 155 (182 + 10 * ix z + 6) v) := by
  unfold rM_writes
  have e : (182 : Int32) + (10 : Int32) * z + 6 = nI (182 + 10 * ix z + 6) := ad3 h 182 10 6 (by decide)
  have hl := inb_lt h
  rw [e, if_pos (nI_inb (by omega) (by decide)), nI_ix (by omega)]
theorem rM_writes_7 {M : SS} {z v : Int32} (h : inb z 20) : rM_writes M z 7 v = some (up M 155 (182 + 10 * ix z + 7) v) := by
  unfold rM_writes
  have e : (182 : Int32) + (10 : Int32) * z + 7 = nI (182 + 10 * ix z + 7) := ad3 h 182 10 7 (by decide)
  have hl := inb_lt h
  rw [e, if_pos (nI_inb (by omega) (by decide)), nI_ix (by omega)]
theorem rM_writes_8 {M : SS} {z v : Int32} (h : inb z 20) : rM_writes M z 8 v = some (up M 155 (182 + 10 * ix z + 8) v) := by
  unfold rM_writes
  have e : (182 : Int32) + (10 : Int32) * z + 8 = nI (182 + 10 * ix z + 8) := ad3 h 182 10 8 (by decide)
  have hl := inb_lt h
  rw [e, if_pos (nI_inb (by omega) (by decide)), nI_ix (by omega)]
theorem rM_writes_9 {M : SS} {z v : Int32} (h : inb z 20) : rM_writes M z 9 v = some (up M 155 (182 + 10 * ix z + 9) v) := by
  unfold rM_writes
  have e : (182 : Int32) + (10 : Int32) * z + 9 = nI (182 + 10 * ix z + 9) := ad3 h 182 10 9 (by decide)
  have hl := inb_lt h
  rw [e, if_pos (nI_inb (by omega) (by decide)), nI_ix (by omega)]
theorem rM_ofField_0 {M : SS} {z : Int32} (h : inb z 8) : rM_ofField M z 0 = some (M 155 (150 + 4 * ix z + 0)) := by
  unfold rM_ofField
  have e : (150 : Int32) + (4 : Int32) * z + 0 = nI (150 + 4 * ix z + 0) := ad3 h 150 4 0 (by decide)
  have hl := inb_lt h
  rw [e, if_pos (nI_inb (by omega) (by decide)), nI_ix (by omega)]
theorem rM_ofField_1 {M : SS} {z : Int32} (h : inb z 8) : rM_ofField M z 1 = some (M 155 (150 + 4 * ix z + 1)) := by
  unfold rM_ofField
  have e : (150 : Int32) + (4 : Int32) * z + 1 = nI (150 + 4 * ix z + 1) := ad3 h 150 4 1 (by decide)
  have hl := inb_lt h
  rw [e, if_pos (nI_inb (by omega) (by decide)), nI_ix (by omega)]
theorem rM_ofField_2 {M : SS} {z : Int32} (h : inb z 8) : rM_ofField M z 2 = some (M 155 (150 + 4 * ix z + 2)) := by
  unfold rM_ofField
  have e : (150 : Int32) + (4 : Int32) * z + 2 = nI (150 + 4 * ix z + 2) := ad3 h 150 4 2 (by decide)
  have hl := inb_lt h
  rw [e, if_pos (nI_inb (by omega) (by decide)), nI_ix (by omega)]
theorem rM_ofField_3 {M : SS} {z : Int32} (h : inb z 8) : rM_ofField M z 3 = some (M 155 (150 + 4 * ix z + 3)) := by
  unfold rM_ofField
  have e : (150 : Int32) + (4 : Int32) * z + 3 = nI (150 + 4 * ix z + 3) := ad3 h 150 4 3 (by decide)
  have hl := inb_lt h
  rw [e, if_pos (nI_inb (by omega) (by decide)), nI_ix (by omega)]
theorem isDead_eq (S : SS) (x : Nat) : cPerson_isDead S x = some (!decide (S x 4 < 0)) := by
  unfold cPerson_isDead
  by_cases h : S x 4 < 0
  · rw [if_pos h, decide_eq_true h]; rfl
  · rw [if_neg h, decide_eq_false h]; rfl
theorem isFree_eq (S : SS) (x : Nat) : cPerson_isFree S x = some (decide (S x 6 < 0)) := by
  unfold cPerson_isFree
  by_cases h : S x 6 < 0
  · rw [if_neg (Int32.not_le.mpr h), decide_eq_true h]
  · rw [if_pos (Int32.not_lt.mp h), decide_eq_false h]
theorem isChildOf_eq (S : SS) (x : Nat) (a : Int32) : cPerson_isChildOf S x a = some (decide (S x 1 = a ∨ S x 2 = a)) := by
  unfold cPerson_isChildOf
  by_cases h : S x 1 = a
  · simp [h, cPerson_isChildOf_J16]
  · by_cases h2 : S x 2 = a
    · simp [h, h2, cPerson_isChildOf_J16]
    · simp [h, h2]
theorem openOwed_eq (S : SS) (x : Nat) : cPaper_openOwed S x = some (if S x 9 = 0 then S x 3 - S x 4 else 0) := by
  unfold cPaper_openOwed
  by_cases h : S x 9 = 0
  · rw [if_pos h, if_pos h]; rfl
  · rw [if_neg h, if_neg h]
theorem lives0_eq {M : SS} {z : Int32} (h : inb z 14) : rM_lives0 M z = some (decide (M 155 (10 + 10 * ix z + 3) < 0)) := by
  unfold rM_lives0
  rw [rM_own_3 h]
  show (if _ then _ else _) = _
  by_cases c : M 155 (10 + 10 * ix z + 3) < 0
  · rw [if_neg (Int32.not_le.mpr c), decide_eq_true c]
  · rw [if_pos (Int32.not_lt.mp c), decide_eq_false c]
theorem isOpen_eq {M : SS} {z : Int32} (h : inb z 20) : rM_isOpen M z = some (decide (M 155 (182 + 10 * ix z + 9) = 0)) := by
  unfold rM_isOpen
  rw [rM_of_9 h]
  show (if _ then _ else _) = _
  by_cases c : M 155 (182 + 10 * ix z + 9) = 0
  · rw [if_pos c, decide_eq_true c]
  · rw [if_neg c, decide_eq_false c]
theorem mowed_eq {M : SS} {z : Int32} (h : inb z 20) : rM_owed M z = some (M 155 (182 + 10 * ix z + 3) - M 155 (182 + 10 * ix z + 4)) := by
  unfold rM_owed
  rw [rM_of_3 h, rM_of_4 h]
  rfl
theorem bit_eq (b : Bool) : cD_bit b = some (b2i b) := by cases b <;> rfl
