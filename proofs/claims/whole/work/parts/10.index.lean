/-! ===== a number within, as an index ===== -/
theorem ix_of {p s : Int32} {n : Nat} (hs : s = nI n) (hn : n ≤ 1000000) (h : (0 : Int32) ≤ p ∧ p ≤ s - 1) : ∃ i : Nat, i < n ∧ p = nI i := by
  obtain ⟨h1, h2⟩ := h
  subst hs
  rw [Int32.le_iff_toInt_le] at h1 h2
  have e0 : (0 : Int32).toInt = 0 := rfl
  have e1 : (nI n - 1).toInt = (n : Int) - 1 := by
    rcases n with _ | m
    · rfl
    · rw [nI_pred, nI_toInt (by omega)]; omega
  rw [e0] at h1
  rw [e1] at h2
  refine ⟨p.toInt.toNat, by omega, ?_⟩
  apply Int32.toInt_inj.mp
  rw [nI_toInt (by omega)]
  omega
theorem ix_in {i n : Nat} {s : Int32} (hs : s = nI n) (hn : n ≤ 1000000) (h : i < n) : (0 : Int32) ≤ nI i ∧ nI i ≤ s - 1 := by
  subst hs
  obtain ⟨m, rfl⟩ : ∃ m, n = m + 1 := ⟨n - 1, by omega⟩
  rw [nI_pred]
  exact ⟨nI_pos' (by omega), nI_le (by omega) (by omega)⟩
/-- a number from a to b -/
theorem ix_ab {p a b : Int32} {n : Nat} (ha : a = 0) (hb : b.toInt = n) (h : a ≤ p ∧ p ≤ b) : ∃ i : Nat, i ≤ n ∧ p = nI i := by
  obtain ⟨h1, h2⟩ := h
  subst ha
  rw [Int32.le_iff_toInt_le] at h1 h2
  have e0 : (0 : Int32).toInt = 0 := rfl
  rw [e0] at h1
  rw [hb] at h2
  have hlt : b.toInt < 2 ^ 31 := Int32.toInt_lt b
  refine ⟨p.toInt.toNat, by omega, ?_⟩
  apply Int32.toInt_inj.mp
  rw [nI_toInt (by omega)]
  omega
theorem nI_n1 (n : Nat) : nI n + 1 = nI (n + 1) := nI_1 n
theorem sw_of (x : Int32) (n : Nat) : (x.toInt < 0 ∨ (n : Int) < x.toInt) ∨ ∃ j : Nat, j ≤ n ∧ x = nI j := by
  by_cases h : x.toInt < 0 ∨ (n : Int) < x.toInt
  · exact Or.inl h
  · refine Or.inr ⟨x.toInt.toNat, by omega, ?_⟩
    have hlt : x.toInt < 2 ^ 31 := Int32.toInt_lt x
    apply Int32.toInt_inj.mp
    rw [nI_toInt (by omega)]
    omega
theorem nlt_of {s : Int32} {n m : Nat} (hs : s = nI n) (hm : m < 2 ^ 31) (hn : n < 2 ^ 31) (h : ¬ nI m ≤ s) : n < m := by
  subst hs
  rcases Nat.lt_or_ge n m with q | q
  · exact q
  · exact absurd (nI_le q hn) h
theorem lt_of {s : Int32} {n m : Nat} (hs : s = nI n) (hm : m < 2 ^ 31) (hn : n < 2 ^ 31) (h : s < nI m) : n < m := by
  subst hs
  exact (nI_ltI hn hm).mp h
theorem ne_of {s : Int32} {n m : Nat} (hs : s = nI n) (h : ¬ s = nI m) : n ≠ m := by
  subst hs
  exact fun e => h (by rw [e])
