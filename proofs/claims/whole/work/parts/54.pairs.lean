/-! ===== pairs: more small calls ===== -/
def lf (s y : Int32) : Int32 := 50 - ((y + s) - (y + s) / 50 * 50)
theorem ad2 {z : Int32} {n : Nat} (h : inb z n) (c : Nat) (hb : n < 2 ^ 31) : nI c + z = nI (c + ix z) := by
  obtain ⟨q, hq, rfl⟩ := inb_ex h
  rw [nI_ix (by omega), nI_add]
theorem cleft_eq {S : SS} {z y : Int32} (h : inb z 2) : cLand_leftBy S z y = some (lf (S 15 (ix z)) y) := by
  unfold cLand_leftBy cLand_countBy
  rw [if_pos h]
  rfl
theorem mleft_eq {M : SS} {z y : Int32} (h : inb z 2) : rM_leftOf M z y = some (lf (M 155 (7 + ix z)) y) := by
  unfold rM_leftOf
  have e : (7 : Int32) + z = nI (7 + ix z) := ad2 h 7 (by decide)
  have hl := inb_lt h
  rw [e, if_pos (nI_inb (by omega) (by decide)), nI_ix (by omega)]
  rfl
theorem LD.sh {S : SS} {T : TS} {X : XS} {N : Nat → Int32} {np nf nx nl yr : Nat} (h : LD S T X N np nf nx nl yr) {i : Nat} (hi : i < 2) : S 15 i = N (7 + i) ∧ inb (N (7 + i)) 50 := by
  have : i = 0 ∨ i = 1 := by omega
  rcases this with rfl | rfl
  · exact ⟨h.s7, h.1.2.2.2.2.2.2.2.1⟩
  · exact ⟨h.s8, h.1.2.2.2.2.2.2.2.2.1⟩
theorem sim_shift (S : SS) (K : KS) (T : TS) (X : XS) (M : SS) (z0 z1 : Int32) (hR : Rel S K T X M) : ∃ p q, cD_shift S z0 z1 = some p ∧ rM_shift M z0 z1 = some q ∧ p.1 = q.1 ∧ Rel p.2 K T X q.2 := by
  obtain ⟨np, nf, nx, nl, yr, h⟩ := hR.ld
  unfold cD_shift rM_shift cD_shift_J17 rM_shift_J17
  simp only [Option.bind_some, cD_isBench_eq, rM_isBench_eq, within_eq, in_eq, found_eq, finds_eq]
  by_cases h1 : inb z0 2
  · have hl := inb_lt h1
    by_cases h2 : 0 ≤ z1 ∧ z1 ≤ 49
    · have e : (7 : Int32) + z0 = nI (7 + ix z0) := ad2 h1 7 (by decide)
      simp only [decide_eq_true h1, decide_eq_true h2, if_true, if_pos h1, e, if_pos (nI_inb (show 7 + ix z0 < 10759 by omega) (by decide)), nI_ix (show 7 + ix z0 < 2 ^ 31 by omega)]
      refine ⟨_, _, rfl, rfl, (h.sh hl).1, hR.land (kS.refl.up (by omega)) (kM.refl.up (by omega)) ?_⟩
      dsimp only
      rw [up_155]
      have hz : inb z1 50 := (inb_lit (by decide)).mp h2
      have hi : ix z0 = 0 ∨ ix z0 = 1 := by omega
      rcases hi with hi | hi
      · rw [hi]
        exact (h.set7 hz).rel
      · rw [hi]
        exact (h.set8 hz).rel
    · simp only [decide_eq_true h1, decide_eq_false h2, if_true, Bool.false_eq_true, if_false]
      exact ⟨_, _, rfl, rfl, rfl, hR.fnd⟩
  · simp only [decide_eq_false h1, Bool.false_eq_true, if_false]
    exact ⟨_, _, rfl, rfl, rfl, hR.fnd⟩
theorem sim_left (S : SS) (K : KS) (T : TS) (X : XS) (M : SS) (z0 z1 : Int32) (hR : Rel S K T X M) : ∃ p q, cD_left S z0 z1 = some p ∧ rM_left M z0 z1 = some q ∧ p.1 = q.1 ∧ Rel p.2 K T X q.2 := by
  obtain ⟨np, nf, nx, nl, yr, h⟩ := hR.ld
  unfold cD_left rM_left cD_left_J26 rM_left_J23
  simp only [Option.bind_some, cD_isBench_eq, rM_isBench_eq, cD_isYear_eq, rM_isYear_eq, found_eq, finds_eq]
  by_cases h1 : inb z0 2
  · by_cases h2 : inb z1 401
    · simp only [decide_eq_true h1, decide_eq_true h2, if_true, cleft_eq h1, mleft_eq h1, Option.bind_some]
      exact ⟨_, _, rfl, rfl, by dsimp only; rw [(h.sh (inb_lt h1)).1], hR⟩
    · simp only [decide_eq_true h1, decide_eq_false h2, if_true, Bool.false_eq_true, if_false]
      exact ⟨_, _, rfl, rfl, rfl, hR.fnd⟩
  · simp only [decide_eq_false h1, Bool.false_eq_true, if_false]
    exact ⟨_, _, rfl, rfl, rfl, hR.fnd⟩
theorem sim_price (S : SS) (K : KS) (T : TS) (X : XS) (M : SS) (z0 z1 : Int32) (hR : Rel S K T X M) : ∃ p q, cD_price S z0 z1 = some p ∧ rM_price M z0 z1 = some q ∧ p.1 = q.1 ∧ Rel p.2 K T X q.2 := by
  obtain ⟨np, nf, nx, nl, yr, h⟩ := hR.ld
  have hc := h.cp
  unfold cD_price rM_price cD_price_J18 rM_price_J36
  rw [cLand_hasField_eq h.s1 (by omega), rM_isField_eq h.n1 (by omega)]
  simp only [Option.bind_some, cD_isBench_eq, rM_isBench_eq, found_eq, finds_eq]
  by_cases h1 : inb z0 nf
  · have h8 := inb_mono h1 hc.2.1
    by_cases h2 : inb z1 2
    · simp only [decide_eq_true h1, decide_eq_true h2, if_true, if_pos h8, cleft_eq h2, mleft_eq h2, rM_ofField_0 h8, Option.bind_some]
      refine ⟨_, _, rfl, rfl, ?_, hR⟩
      dsimp only
      rw [(h.sh (inb_lt h2)).1, h.s3, h.n3]
      have := h.f (inb_lt h1) 0 (by decide)
      rw [← this]
      rfl
    · simp only [decide_eq_true h1, decide_eq_false h2, if_true, Bool.false_eq_true, if_false]
      exact ⟨_, _, rfl, rfl, rfl, hR.fnd⟩
  · simp only [decide_eq_false h1, Bool.false_eq_true, if_false]
    exact ⟨_, _, rfl, rfl, rfl, hR.fnd⟩
theorem under_all : ∀ a, a < 7 → ∀ b, b < 7 → ∃ r, cD_isUnder (nI a) (nI b) = some r ∧ rM_isUnder (nI a) (nI b) = some r := by
  have : ∀ a, a < 7 → ∀ b, b < 7 → cD_isUnder (nI a) (nI b) = rM_isUnder (nI a) (nI b) ∧ (rM_isUnder (nI a) (nI b)).isSome = true := by decide +kernel
  intro a ha b hb
  obtain ⟨h1, h2⟩ := this a ha b hb
  obtain ⟨r, hr⟩ := Option.isSome_iff_exists.mp h2
  exact ⟨r, h1.trans hr, hr⟩
theorem under_eq {k a : Int32} (h1 : inb k 7) (h2 : inb a 7) : ∃ r, cD_isUnder k a = some r ∧ rM_isUnder k a = some r := by
  obtain ⟨q, hq, rfl⟩ := inb_ex h1
  obtain ⟨q2, hq2, rfl⟩ := inb_ex h2
  exact under_all q hq q2 hq2
theorem sim_as (S : SS) (K : KS) (T : TS) (X : XS) (M : SS) (z0 z1 : Int32) (hR : Rel S K T X M) : ∃ p q, cD_as S z0 z1 = some p ∧ rM_as M z0 z1 = some q ∧ p.1 = q.1 ∧ Rel p.2 K T X q.2 := by
  obtain ⟨np, nf, nx, nl, yr, h⟩ := hR.ld
  have hc := h.cp
  unfold cD_as rM_as cD_as_J21 rM_as_J18
  rw [cLand_hasPaper_eq h.s2 (by omega), rM_isPaper_eq h.n2 (by omega)]
  simp only [Option.bind_some, within_eq, in_eq, found_eq, finds_eq]
  by_cases h1 : inb z0 nx
  · have h20 := inb_mono h1 hc.2.2.1
    by_cases h2 : 0 ≤ z1 ∧ z1 ≤ 6
    · have e0 : S (39 + ix z0) 0 = M 155 (182 + 10 * ix z0 + 0) := h.a (inb_lt h1) 0 (by decide)
      obtain ⟨r, r1, r2⟩ := under_eq (h.oka (inb_lt h1) 0 (by decide)) ((inb_lit (by decide)).mp h2)
      simp only [decide_eq_true h1, decide_eq_true h2, if_true, if_pos h20, rM_of_0 h20, Option.bind_some, e0, r1, r2]
      cases r
      · simp only [Bool.false_eq_true, if_false]
        exact ⟨_, _, rfl, rfl, rfl, hR.fnd⟩
      · simp only [if_true]
        exact ⟨_, _, rfl, rfl, rfl, hR⟩
    · simp only [decide_eq_true h1, decide_eq_false h2, if_true, Bool.false_eq_true, if_false]
      exact ⟨_, _, rfl, rfl, rfl, hR.fnd⟩
  · simp only [decide_eq_false h1, Bool.false_eq_true, if_false]
    exact ⟨_, _, rfl, rfl, rfl, hR.fnd⟩
theorem lits {z : Int32} {n : Nat} (h : inb z n) (hn : n ≤ 12) : (z = 0 ∧ 0 < n) ∨ (z = 1 ∧ 1 < n) ∨ (z = 2 ∧ 2 < n) ∨ (z = 3 ∧ 3 < n) ∨ (z = 4 ∧ 4 < n) ∨ (z = 5 ∧ 5 < n) ∨ (z = 6 ∧ 6 < n) ∨ (z = 7 ∧ 7 < n) ∨ (z = 8 ∧ 8 < n) ∨ (z = 9 ∧ 9 < n) ∨ (z = 10 ∧ 10 < n) ∨ (z = 11 ∧ 11 < n) := by
  obtain ⟨q, hq, rfl⟩ := inb_ex h
  have : q = 0 ∨ q = 1 ∨ q = 2 ∨ q = 3 ∨ q = 4 ∨ q = 5 ∨ q = 6 ∨ q = 7 ∨ q = 8 ∨ q = 9 ∨ q = 10 ∨ q = 11 := by omega
  rcases this with rfl | rfl | rfl | rfl | rfl | rfl | rfl | rfl | rfl | rfl | rfl | rfl
  · exact Or.inl ⟨rfl, hq⟩
  · exact Or.inr (Or.inl ⟨rfl, hq⟩)
  · exact Or.inr (Or.inr (Or.inl ⟨rfl, hq⟩))
  · exact Or.inr (Or.inr (Or.inr (Or.inl ⟨rfl, hq⟩)))
  · exact Or.inr (Or.inr (Or.inr (Or.inr (Or.inl ⟨rfl, hq⟩))))
  · exact Or.inr (Or.inr (Or.inr (Or.inr (Or.inr (Or.inl ⟨rfl, hq⟩)))))
  · exact Or.inr (Or.inr (Or.inr (Or.inr (Or.inr (Or.inr (Or.inl ⟨rfl, hq⟩))))))
  · exact Or.inr (Or.inr (Or.inr (Or.inr (Or.inr (Or.inr (Or.inr (Or.inl ⟨rfl, hq⟩)))))))
  · exact Or.inr (Or.inr (Or.inr (Or.inr (Or.inr (Or.inr (Or.inr (Or.inr (Or.inl ⟨rfl, hq⟩))))))))
  · exact Or.inr (Or.inr (Or.inr (Or.inr (Or.inr (Or.inr (Or.inr (Or.inr (Or.inr (Or.inl ⟨rfl, hq⟩)))))))))
  · exact Or.inr (Or.inr (Or.inr (Or.inr (Or.inr (Or.inr (Or.inr (Or.inr (Or.inr (Or.inr (Or.inl ⟨rfl, hq⟩))))))))))
  · exact Or.inr (Or.inr (Or.inr (Or.inr (Or.inr (Or.inr (Or.inr (Or.inr (Or.inr (Or.inr (Or.inr ⟨rfl, hq⟩))))))))))
