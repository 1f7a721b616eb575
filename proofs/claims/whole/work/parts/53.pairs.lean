/-! ===== pairs: small calls ===== -/
theorem Rel.ld {S : SS} {K : KS} {T : TS} {X : XS} {M : SS} (h : Rel S K T X M) : ∃ np nf nx nl yr, LD S T X (M 155) np nf nx nl yr := h.1
theorem sim_fear (S : SS) (K : KS) (T : TS) (X : XS) (M : SS) (z0 : Int32) (z1 : Int32) (hR : Rel S K T X M) : ∃ p q, cD_fear S z0 z1 = some p ∧ rM_fear M z0 z1 = some q ∧ p.1 = q.1 ∧ Rel p.2 K T X q.2 := by
  obtain ⟨np, nf, nx, nl, yr, h⟩ := hR.ld
  have hc := h.cp
  unfold cD_fear rM_fear cD_fear_J21 rM_fear_J18
  rw [cLand_hasPerson_eq h.s0 (by omega), rM_isPerson_eq h.n0 (by omega)]
  simp only [Option.bind_some, within_eq, in_eq, found_eq, finds_eq]
  by_cases h1 : inb z0 np
  · have h14 := inb_mono h1 hc.1
    by_cases h2 : 0 ≤ z1 ∧ z1 ≤ 50
    · simp only [decide_eq_true h1, decide_eq_true h2, if_true, if_pos h14, rM_own_7 h14, rM_makes_7 h14, Option.bind_some]
      refine ⟨_, _, rfl, rfl, h.p (inb_lt h1) 7 (by decide), hR.land (kS.refl.up (by have := inb_lt h14; omega)) (kM.refl.up (by omega)) ?_⟩
      dsimp only
      rw [up_155]
      exact (h.setP (inb_lt h1) 7 (by decide) ((inb_lit (by decide)).mp h2)).rel
    · simp only [decide_eq_true h1, decide_eq_false h2, if_true, Bool.false_eq_true, if_false]
      exact ⟨_, _, rfl, rfl, rfl, hR.fnd⟩
  · simp only [decide_eq_false h1, Bool.false_eq_true, if_false]
    exact ⟨_, _, rfl, rfl, rfl, hR.fnd⟩
theorem upN_comm {N : Nat → Int32} {a b : Nat} {v w : Int32} (h : a ≠ b) : upN (upN N a v) b w = upN (upN N b w) a v := by
  funext c
  unfold upN
  by_cases h1 : c = b
  · rw [if_pos h1, if_neg (by omega), if_pos h1]
  · rw [if_neg h1]
    by_cases h2 : c = a
    · rw [if_pos h2, if_pos h2]
    · rw [if_neg h2, if_neg h2, if_neg h1]
theorem sim_lives (S : SS) (K : KS) (T : TS) (X : XS) (M : SS) (z0 : Int32) (z1 z2 : Bool) (hR : Rel S K T X M) : ∃ p q, cD_lives S z0 z1 z2 = some p ∧ rM_lives M z0 z1 z2 = some q ∧ p.1 = q.1 ∧ Rel p.2 K T X q.2 := by
  obtain ⟨np, nf, nx, nl, yr, h⟩ := hR.ld
  have hc := h.cp
  unfold cD_lives rM_lives rM_lives_J27 rM_lives_J42
  rw [cLand_hasPerson_eq h.s0 (by omega), rM_isPerson_eq h.n0 (by omega)]
  simp only [Option.bind_some, found_eq, finds_eq]
  by_cases h1 : inb z0 np
  · have h14 := inb_mono h1 hc.1
    have e : ∀ b : Bool, (if b = true then (rM_makes (up M 155 (10 + 10 * ix z0 + 4) (b2i z1)) z0 5 (b2i true)).bind fun p6 => some ((1 : Int32), p6) else (rM_makes (up M 155 (10 + 10 * ix z0 + 4) (b2i z1)) z0 5 (b2i false)).bind fun p6 => some ((1 : Int32), p6)) = some (1, up (up M 155 (10 + 10 * ix z0 + 4) (b2i z1)) 155 (10 + 10 * ix z0 + 5) (b2i b)) := by
      intro b
      cases b
      · rw [if_neg (by decide), rM_makes_5 h14]; rfl
      · rw [if_pos rfl, rM_makes_5 h14]; rfl
    simp only [decide_eq_true h1, if_true, if_pos h14]
    have e2 : ∀ (b : Bool) (F : Bool → Option (Int32 × SS)), (if b = true then F true else F false) = F b := by intro b F; cases b <;> rfl
    rw [e2 z1 (fun b => (rM_makes M z0 4 (b2i b)).bind fun p4 => if z2 = true then (rM_makes p4 z0 5 (b2i true)).bind fun p6 => some ((1 : Int32), p6) else (rM_makes p4 z0 5 (b2i false)).bind fun p6 => some ((1 : Int32), p6))]
    simp only [rM_makes_4 h14, Option.bind_some]
    rw [e z2]
    refine ⟨_, _, rfl, rfl, rfl, hR.land ((kS.refl.up (by have := inb_lt h14; omega)).up (by have := inb_lt h14; omega)) ((kM.refl.up (by omega)).up (by omega)) ?_⟩
    dsimp only
    rw [up_155, up_155]
    exact ((h.setP (inb_lt h1) 4 (by decide) (b2i_z z1)).setP (inb_lt h1) 5 (by decide) (b2i_z z2)).rel
  · simp only [decide_eq_false h1, Bool.false_eq_true, if_false]
    exact ⟨_, _, rfl, rfl, rfl, hR.fnd⟩
theorem sim_die (S : SS) (K : KS) (T : TS) (X : XS) (M : SS) (z0 : Int32) (hR : Rel S K T X M) : ∃ p q, cD_die S z0 = some p ∧ rM_die M z0 = some q ∧ p.1 = q.1 ∧ Rel p.2 K T X q.2 := by
  obtain ⟨np, nf, nx, nl, yr, h⟩ := hR.ld
  have hc := h.cp
  unfold cD_die rM_die
  rw [cLand_hasPerson_eq h.s0 (by omega), rM_isPerson_eq h.n0 (by omega)]
  simp only [Option.bind_some, found_eq, finds_eq, isDead_eq]
  by_cases h1 : inb z0 np
  · have h14 := inb_mono h1 hc.1
    have hq := inb_lt h1
    have e3 : S (17 + ix z0) 4 = M 155 (10 + 10 * ix z0 + 3) := h.p hq 3 (by decide)
    have e6 : S (17 + ix z0) 3 = M 155 (10 + 10 * ix z0 + 6) := h.p hq 6 (by decide)
    simp only [decide_eq_true h1, if_true, if_pos h14, lives0_eq h14, Option.bind_some, e3]
    by_cases h2 : M 155 (10 + 10 * ix z0 + 3) < 0
    · simp only [decide_eq_true h2, Bool.not_true, Bool.false_eq_true, if_false, if_true, rM_own_6 h14, rM_makes_6 h14, rM_makes_3 h14, Option.bind_some]
      refine ⟨_, _, rfl, rfl, e6, hR.land (((kS.refl.up (by omega)).up (by omega)).up (by omega)) (((kM.refl.up (by omega)).up (by omega)).up (by omega)) ?_⟩
      dsimp only
      rw [up_x (show 9 ≠ 17 + ix z0 by omega), up_j (show 11 ≠ 13 by decide), e6, up_155, up_155, up_155, upN_n (show 6 ≠ 10 + 10 * ix z0 + 3 by omega), upN_n (show 6 ≠ 10 + 10 * ix z0 + 6 by omega), upN_n (show 3 ≠ 10 + 10 * ix z0 + 6 by omega), upN_comm (show 10 + 10 * ix z0 + 3 ≠ 6 by omega), upN_comm (show 10 + 10 * ix z0 + 6 ≠ 6 by omega), h.s6, h.s3, h.n3]
      exact ((h.set6.setP hq 6 (by decide) (show inb 0 10000 by decide)).setP hq 3 (by decide) trivial).rel
    · simp only [decide_eq_false h2, Bool.not_false, Bool.false_eq_true, if_false, if_true]
      exact ⟨_, _, rfl, rfl, rfl, hR.fnd⟩
  · simp only [decide_eq_false h1, Bool.false_eq_true, if_false]
    exact ⟨_, _, rfl, rfl, rfl, hR.fnd⟩
theorem sim_word (S : SS) (K : KS) (T : TS) (X : XS) (M : SS) (z0 z1 : Int32) (hR : Rel S K T X M) : ∃ p q, cD_word S z0 z1 = some p ∧ rM_word M z0 z1 = some q ∧ p.1 = q.1 ∧ Rel p.2 K T X q.2 := by
  obtain ⟨np, nf, nx, nl, yr, h⟩ := hR.ld
  have hc := h.cp
  unfold cD_word rM_word cD_word_J20 rM_word_J17
  rw [cLand_hasPaper_eq h.s2 (by omega), rM_isPaper_eq h.n2 (by omega)]
  simp only [Option.bind_some, within_eq, in_eq, found_eq, finds_eq]
  by_cases h1 : inb z0 nx
  · have h14 := inb_mono h1 hc.2.2.1
    have hq := inb_lt h1
    by_cases h2 : 0 ≤ z1 ∧ z1 ≤ 2
    · simp only [decide_eq_true h1, decide_eq_true h2, if_true, if_pos h14, rM_of_8 h14, rM_writes_8 h14, Option.bind_some]
      refine ⟨_, _, rfl, rfl, h.a hq 8 (by decide), hR.land (kS.refl.up (by omega)) (kM.refl.up (by omega)) ?_⟩
      dsimp only
      rw [up_155]
      refine (h.setA hq 8 (by decide) ((inb_lit (by decide)).mp h2) ?_).rel
      rw [upN_n (by omega), upN_n (by omega), upN_n (by omega), upN_n (by omega), upN_n (by omega)]
      exact h.okx hq
    · simp only [decide_eq_true h1, decide_eq_false h2, if_true, Bool.false_eq_true, if_false]
      exact ⟨_, _, rfl, rfl, rfl, hR.fnd⟩
  · simp only [decide_eq_false h1, Bool.false_eq_true, if_false]
    exact ⟨_, _, rfl, rfl, rfl, hR.fnd⟩
