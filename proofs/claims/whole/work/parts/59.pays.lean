/-! ===== paying on a paper; pay, annul ===== -/
theorem up_comm {S : SS} {x j x' j' : Nat} {v v' : Int32} (h : ¬ (x = x' ∧ j = j')) : up (up S x j v) x' j' v' = up (up S x' j' v') x j v := by
  funext a b
  unfold up
  by_cases h1 : a = x' ∧ b = j'
  · rw [if_pos h1, if_neg (fun z => h ⟨z.1.symm.trans h1.1, z.2.symm.trans h1.2⟩), if_pos h1]
  · rw [if_neg h1]
    by_cases h2 : a = x ∧ b = j
    · rw [if_pos h2, if_pos h2]
    · rw [if_neg h2, if_neg h2, if_neg h1]
theorem sale_all : ∀ a, a < 7 → cD_isUnder (nI a) 3 = some (decide (nI a = 3 ∨ nI a = 4)) := by decide +kernel
theorem sale_eq {k : Int32} (h : inb k 7) : cD_isUnder k 3 = some (decide (k = 3 ∨ k = 4)) := by
  obtain ⟨q, hq, rfl⟩ := inb_ex h
  exact sale_all q hq
theorem end_paid {S S' : SS} {x : Nat} {v p : Int32} (hx : x < 20) (h : cLand_end S (39 + x) v = some S') : cLand_end (up S (39 + x) 4 p) (39 + x) v = some (up S' (39 + x) 4 p) := by
  unfold cLand_end at h ⊢
  have e0 : ∀ j, j ≠ 4 → up (up S (39 + x) 4 p) (39 + x) 9 v (39 + x) j = up S (39 + x) 9 v (39 + x) j := by
    intro j hj
    rw [up_comm (by omega), up_j hj]
  rw [e0 0 (by decide), e0 1 (by decide)]
  by_cases c : up S (39 + x) 9 v (39 + x) 0 = 6
  · rw [if_pos c] at h ⊢
    by_cases g : inb (up S (39 + x) 9 v (39 + x) 1) 14
    · rw [if_pos g] at h ⊢
      cases h
      have := inb_lt g
      rw [up_comm (x := 39 + x) (j := 4) (by omega), up_comm (x := 39 + x) (j := 4) (by omega)]
    · rw [if_neg g] at h
      cases h
  · rw [if_neg c] at h ⊢
    cases h
    rw [up_comm (by omega)]
section Steps59
variable {S0 M0 S M : SS} {T : TS} {X : XS} {np nf nx nl yr : Nat}
theorem closes_paid {x : Nat} (hx : x < 20) (v p : Int32) {M1 : SS} (h14 : inb (M 155 (182 + 10 * x + 1)) 14) (h : rM_closes M (nI x) v = rM_closes_J40 M1 (nI x) v (M 155 (182 + 10 * x + 7))) (h1 : M1 = if M 155 (182 + 10 * x + 0) = 6 then up (up M 155 (182 + 10 * x + 9) v) 155 (10 + 10 * ix (M 155 (182 + 10 * x + 1)) + 8) (-1) else up M 155 (182 + 10 * x + 9) v) : rM_closes (up M 155 (182 + 10 * x + 4) p) (nI x) v = rM_closes_J40 (up M1 155 (182 + 10 * x + 4) p) (nI x) v (M 155 (182 + 10 * x + 7)) := by
  have h20 : inb (nI x) 20 := nI_inb (by omega) (by decide)
  have hix : ix (nI x) = x := nI_ix (by omega)
  have hl := inb_lt h14
  unfold rM_closes
  simp only [rM_of_7 h20, rM_writes_9 h20, rM_of_0 h20, rM_of_1 h20, Option.bind_some, hix]
  have e : ∀ j, j ≠ 4 → j ≠ 9 → up (up M 155 (182 + 10 * x + 4) p) 155 (182 + 10 * x + 9) v 155 (182 + 10 * x + j) = M 155 (182 + 10 * x + j) := by
    intro j h1 h2
    rw [up_j (by omega), up_j (by omega)]
  have e7 : up M 155 (182 + 10 * x + 4) p 155 (182 + 10 * x + 7) = M 155 (182 + 10 * x + 7) := up_j (by omega)
  rw [e 0 (by decide) (by decide), e 1 (by decide) (by decide), e7, h1]
  by_cases c : M 155 (182 + 10 * x + 0) = 6
  · simp only [if_pos c, rM_makes_8 h14, Option.bind_some]
    rw [up_comm (x := 155) (j := 182 + 10 * x + 4) (by omega), up_comm (x := 155) (j := 182 + 10 * x + 4) (by omega)]
  · simp only [if_neg c]
    rw [up_comm (by omega)]
theorem st_end1 (h : LK S0 M0 S M T X np nf nx nl yr) {x : Nat} {v : Int32} (hx : x < nx) (hv : inb v 4) (hv0 : ¬ v = 0) : ∃ S' M1, cLand_end S (39 + x) v = some S' ∧ LK S0 M0 S' M1 T X np nf nx nl yr ∧ (∀ a, 150 ≤ a → a ≠ 182 + 10 * x + 9 → M1 155 a = M 155 a) ∧ M1 155 (182 + 10 * x + 9) = v ∧ rM_closes M (nI x) v = rM_closes_J40 M1 (nI x) v (M 155 (182 + 10 * x + 7)) ∧ M1 = if M 155 (182 + 10 * x + 0) = 6 then up (up M 155 (182 + 10 * x + 9) v) 155 (10 + 10 * ix (M 155 (182 + 10 * x + 1)) + 8) (-1) else up M 155 (182 + 10 * x + 9) v := by
  have hc := h.1.cp
  have h20 : inb (nI x) 20 := nI_inb (by omega) (by decide)
  have hix : ix (nI x) = x := nI_ix (by omega)
  have oX := h.1.okx hx
  have hA := h.A (v := v) hx 9 (by decide) hv (by
    rw [upN_n (by omega), upN_n (by omega), upN_n (by omega), upN_s, upN_n (by omega)]
    exact ⟨oX.1, fun e => absurd e hv0, oX.2.2⟩)
  unfold cLand_end rM_closes
  simp only [rM_of_7 h20, rM_writes_9 h20, rM_of_0 h20, rM_of_1 h20, Option.bind_some, hix]
  have e0 : up S (39 + x) 9 v (39 + x) 0 = M 155 (182 + 10 * x + 0) := by rw [up_j (by decide)]; exact h.1.a hx 0 (by decide)
  have e1 : up S (39 + x) 9 v (39 + x) 1 = M 155 (182 + 10 * x + 1) := by rw [up_j (by decide)]; exact h.1.a hx 1 (by decide)
  have f0 : up M 155 (182 + 10 * x + 9) v 155 (182 + 10 * x + 0) = M 155 (182 + 10 * x + 0) := up_j (by omega)
  have f1 : up M 155 (182 + 10 * x + 9) v 155 (182 + 10 * x + 1) = M 155 (182 + 10 * x + 1) := up_j (by omega)
  have o1 : inb (M 155 (182 + 10 * x + 1)) np := h.1.oka hx 1 (by decide)
  have o14 := inb_mono o1 hc.1
  rw [e0, e1, f0, f1]
  by_cases c : M 155 (182 + 10 * x + 0) = 6
  · simp only [if_pos c, if_pos o14, rM_makes_8 o14, Option.bind_some]
    refine ⟨_, _, rfl, hA.P (inb_lt o1) 8 (by decide) trivial, fun a g1 g2 => ?_, ?_, rfl, rfl⟩
    · have := inb_lt o14
      rw [up_j (by omega), up_j g2]
    · have := inb_lt o14
      rw [up_j (by omega), up_s]
  · simp only [if_neg c]
    exact ⟨_, _, rfl, hA, fun a g1 g2 => up_j g2, up_s, rfl, rfl⟩
/-- behind the end of a paid paper: a field that was sold goes back -/
theorem st_sold (h : LK S0 M0 S M T X np nf nx nl yr) {x : Nat} (hx : x < nx) : ∃ S' M', ((cPaper_isSale S (39 + x)).bind fun p6 => if p6 = true then (cLand_hasField S (S (39 + x) 7)).bind fun p8 => if p8 = true then (if inb (S (39 + x) 7) 8 then (if S (31 + ix (S (39 + x) 7)) 2 = S (39 + x) 2 then some (up S (31 + ix (S (39 + x) 7)) 2 (S (39 + x) 1)) else some S) else none) else some S else some S) = some S' ∧ rM_closes_J40 M (nI x) 1 (M 155 (182 + 10 * x + 7)) = some M' ∧ LK S0 M0 S' M' T X np nf nx nl yr := by
  have hc := h.1.cp
  have h20 : inb (nI x) 20 := nI_inb (by omega) (by decide)
  have hix : ix (nI x) = x := nI_ix (by omega)
  have oX := h.1.okx hx
  have e0 := h.1.a hx 0 (by decide)
  have e1 := h.1.a hx 1 (by decide)
  have e2 := h.1.a hx 2 (by decide)
  have e7 := h.1.a hx 7 (by decide)
  unfold cPaper_isSale rM_closes_J40
  rw [if_pos rfl, e0, e1, e2, e7, sale_eq (h.1.oka hx 0 (by decide)), cLand_hasField_eq h.1.s1 (by omega)]
  simp only [rM_of_0 h20, hix, Option.bind_some]
  have key : (M 155 (182 + 10 * x + 0) = 3 ∨ M 155 (182 + 10 * x + 0) = 4) → ∃ S' M', (if inb (M 155 (182 + 10 * x + 7)) 8 then (if S (31 + ix (M 155 (182 + 10 * x + 7))) 2 = M 155 (182 + 10 * x + 2) then some (up S (31 + ix (M 155 (182 + 10 * x + 7))) 2 (M 155 (182 + 10 * x + 1))) else some S) else none) = some S' ∧ rM_closes_J65 M (nI x) (M 155 (182 + 10 * x + 7)) = some M' ∧ LK S0 M0 S' M' T X np nf nx nl yr ∧ inb (M 155 (182 + 10 * x + 7)) nf := by
    intro hk
    have o7 : inb (M 155 (182 + 10 * x + 7)) nf := by
      have o7' : M 155 (182 + 10 * x + 7) = -1 ∨ inb (M 155 (182 + 10 * x + 7)) nf := h.1.oka hx 7 (by decide)
      rcases o7' with o | o
      · exact absurd o (oX.2.2.mp (by rcases hk with hk | hk; exact Or.inr (Or.inl hk); exact Or.inr (Or.inr hk)))
      · exact o
    have o8 := inb_mono o7 hc.2.1
    have ef : S (31 + ix (M 155 (182 + 10 * x + 7))) 2 = M 155 (150 + 4 * ix (M 155 (182 + 10 * x + 7)) + 2) := h.1.f (inb_lt o7) 2 (by decide)
    unfold rM_closes_J65
    simp only [if_pos o8, rM_ofField_2 o8, rM_of_2 h20, rM_of_1 h20, hix, Option.bind_some, ef]
    by_cases c : M 155 (150 + 4 * ix (M 155 (182 + 10 * x + 7)) + 2) = M 155 (182 + 10 * x + 2)
    · have a2 : (150 : Int32) + (4 : Int32) * M 155 (182 + 10 * x + 7) + 2 = nI (150 + 4 * ix (M 155 (182 + 10 * x + 7)) + 2) := ad3 o8 150 4 2 (by decide)
      have hl := inb_lt o8
      rw [if_pos c, if_pos c, a2, if_pos (nI_inb (by omega) (by decide)), nI_ix (by omega)]
      exact ⟨_, _, rfl, rfl, h.F (inb_lt o7) 2 (by decide) (h.1.oka hx 1 (by decide) : inb _ np), o7⟩
    · rw [if_neg c, if_neg c]
      exact ⟨_, _, rfl, rfl, h, o7⟩
  by_cases c3 : M 155 (182 + 10 * x + 0) = 3
  · obtain ⟨S', M', k1, k2, k3, k4⟩ := key (Or.inl c3)
    refine ⟨S', M', ?_, ?_, k3⟩
    · rw [decide_eq_true (show M 155 (182 + 10 * x + 0) = 3 ∨ M 155 (182 + 10 * x + 0) = 4 from Or.inl c3), if_pos rfl, decide_eq_true k4, if_pos rfl]
      exact k1
    · rw [if_pos c3]
      exact k2
  · by_cases c4 : M 155 (182 + 10 * x + 0) = 4
    · obtain ⟨S', M', k1, k2, k3, k4⟩ := key (Or.inr c4)
      refine ⟨S', M', ?_, ?_, k3⟩
      · rw [decide_eq_true (show M 155 (182 + 10 * x + 0) = 3 ∨ M 155 (182 + 10 * x + 0) = 4 from Or.inr c4), if_pos rfl, decide_eq_true k4, if_pos rfl]
        exact k1
      · rw [if_neg c3, if_pos c4]
        exact k2
    · refine ⟨S, M, ?_, ?_, h⟩
      · rw [decide_eq_false (show ¬ (M 155 (182 + 10 * x + 0) = 3 ∨ M 155 (182 + 10 * x + 0) = 4) from fun z => z.elim c3 c4)]
        rfl
      · rw [if_neg c3, if_neg c4]
theorem st_payOn (h : LK S0 M0 S M T X np nf nx nl yr) {x m : Nat} (hx : x < nx) (hm : nI m ≤ M 155 (10 + 10 * ix (M 155 (182 + 10 * x + 1)) + 6)) (hm2 : nI m ≤ M 155 (182 + 10 * x + 3) - M 155 (182 + 10 * x + 4)) (hm3 : m < 10000) (hop : M 155 (182 + 10 * x + 9) = 0) : ∃ S' M', cLand_payOn S (39 + x) (nI m) = some S' ∧ rM_pays0 M (nI x) (nI m) = some M' ∧ LK S0 M0 S' M' T X np nf nx nl yr := by
  have hc := h.1.cp
  have h20 : inb (nI x) 20 := nI_inb (by omega) (by decide)
  have hix : ix (nI x) = x := nI_ix (by omega)
  have oX := h.1.okx hx
  have e1 := h.1.a hx 1 (by decide)
  have e2 := h.1.a hx 2 (by decide)
  have o1 : inb (M 155 (182 + 10 * x + 1)) np := h.1.oka hx 1 (by decide)
  have o2 : inb (M 155 (182 + 10 * x + 2)) np := h.1.oka hx 2 (by decide)
  have o14 := inb_mono o1 hc.1
  have hl1 := inb_lt o1
  have e6 : S (17 + ix (M 155 (182 + 10 * x + 1))) 3 = M 155 (10 + 10 * ix (M 155 (182 + 10 * x + 1)) + 6) := h.1.p hl1 6 (by decide)
  have o6 : inb (M 155 (10 + 10 * ix (M 155 (182 + 10 * x + 1)) + 6)) 10000 := h.1.okp hl1 6 (by decide)
  -- the store of who owes
  have o6' : inb (M 155 (10 + 10 * ix (M 155 (182 + 10 * x + 1)) + 6) - nI m) 10000 := by
    obtain ⟨s, hs, es⟩ := inb_ex o6
    rw [es] at hm ⊢
    have := (nI_leI (by omega) (by omega)).mp hm
    rw [pk_sub this]
    exact nI_inb (by omega) (by decide)
  have h1 : LK S0 M0 (up S (17 + ix (M 155 (182 + 10 * x + 1))) 3 (M 155 (10 + 10 * ix (M 155 (182 + 10 * x + 1)) + 6) - nI m)) (up M 155 (10 + 10 * ix (M 155 (182 + 10 * x + 1)) + 6) (M 155 (10 + 10 * ix (M 155 (182 + 10 * x + 1)) + 6) - nI m)) T X np nf nx nl yr := h.P hl1 6 (by decide) o6'
  have eb : up S (17 + ix (M 155 (182 + 10 * x + 1))) 3 (M 155 (10 + 10 * ix (M 155 (182 + 10 * x + 1)) + 6) - nI m) (39 + x) 2 = M 155 (182 + 10 * x + 2) := by
    rw [up_x (by omega)]
    exact e2
  obtain ⟨S2, M2, b1, b2, h2, b4⟩ := st_bring h1 (z := M 155 (182 + 10 * x + 2)) (n := nI m) o2 (nI_inb (by omega) (by decide))
  have f : ∀ j, j < 10 → M2 155 (182 + 10 * x + j) = M 155 (182 + 10 * x + j) := fun j hj => by rw [b4 _ (by omega), up_j (by omega)]
  have g3 := h2.1.a hx 3 (by decide)
  have g4 := h2.1.a hx 4 (by decide)
  rw [f 3 (by decide)] at g3
  rw [f 4 (by decide)] at g4
  -- the numbers
  obtain ⟨s, hs, es⟩ := inb_ex (h.1.oka hx 3 (by decide) : inb _ 10000)
  obtain ⟨q, hq, eq⟩ := inb_ex (h.1.oka hx 4 (by decide) : inb _ 10000)
  have hqs : q ≤ s := by
    have := oX.1
    rw [es, eq] at this
    exact (nI_leI (by omega) (by omega)).mp this
  have hms : m ≤ s - q := by
    rw [es, eq, pk_sub hqs] at hm2
    exact (nI_leI (by omega) (by omega)).mp hm2
  have ow : ∀ A : Int32, A = nI s → A - (nI q + nI m) = nI (s - q - m) := by
    intro A hA
    rw [hA, nI_add, pk_sub (by omega)]
    congr 1
    omega
  unfold cLand_payOn rM_pays0
  simp only [e1, if_pos o14, e6, eb, b1, Option.bind_some, rM_of_1 h20, hix, rM_own_6 o14, rM_makes_6 o14, rM_of_2 h20, rM_of_4 h20, rM_writes_4 h20, mowed_eq h20]
  have eb2 : up M 155 (10 + 10 * ix (M 155 (182 + 10 * x + 1)) + 6) (M 155 (10 + 10 * ix (M 155 (182 + 10 * x + 1)) + 6) - nI m) 155 (182 + 10 * x + 2) = M 155 (182 + 10 * x + 2) := up_j (by omega)
  rw [eb2, b2]
  simp only [Option.bind_some]
  unfold cPaper_owed
  rw [g4, up_s, up_j (show 3 ≠ 4 by decide), g3, f 4 (by decide), up_s, up_j (show 182 + 10 * x + 3 ≠ 182 + 10 * x + 4 by omega), f 3 (by decide), es, eq, ow _ rfl]
  simp only [Option.bind_some]
  by_cases c : s - q - m = 0
  · have c1 : nI (s - q - m) ≤ 0 := by rw [c]; decide
    have c2 : nI (s - q - m) = 0 := by rw [c]; rfl
    rw [if_pos c1, if_pos c2]
    obtain ⟨S', M1, k1, k2, k3, k4, k5, k6⟩ := st_end1 h2 (v := 1) hx (by decide) (by decide)
    have kA := k2.A (v := nI q + nI m) hx 4 (by decide) (by rw [nI_add]; exact nI_inb (by omega) (by decide)) (by
      rw [upN_n (by omega), upN_n (by omega), upN_s, upN_n (by omega), upN_n (by omega), k3 (182 + 10 * x + 0) (by omega) (by omega), k3 (182 + 10 * x + 3) (by omega) (by omega), k3 (182 + 10 * x + 7) (by omega) (by omega), k4, f 0 (by decide), f 3 (by decide), f 7 (by decide), es]
      refine ⟨?_, fun e => absurd e (by decide), oX.2.2⟩
      rw [nI_add]
      exact nI_le (by omega) (by omega))
    rw [end_paid (by omega) k1]
    simp only [Option.bind_some]
    obtain ⟨S4, M4, j1, j2, j3⟩ := st_sold kA hx
    refine ⟨S4, M4, j1, ?_, j3⟩
    rw [closes_paid (by omega) 1 (nI q + nI m) (by rw [f 1 (by decide)]; exact o14) k5 k6]
    rw [up_j (show 182 + 10 * x + 7 ≠ 182 + 10 * x + 4 by omega), k3 _ (by omega) (by omega)] at j2
    rw [j2]
    rfl
  · have c1 : ¬ nI (s - q - m) ≤ 0 := nI_nle (by omega) (by omega)
    have c2 : ¬ nI (s - q - m) = 0 := nI_ne0 (by omega) (by omega)
    rw [if_neg c1, if_neg c2]
    refine ⟨_, _, rfl, rfl, h2.A (v := nI q + nI m) hx 4 (by decide) (by rw [nI_add]; exact nI_inb (by omega) (by decide)) ?_⟩
    rw [upN_n (by omega), upN_n (by omega), upN_s, upN_n (by omega), upN_n (by omega), f 0 (by decide), f 3 (by decide), f 9 (by decide), f 7 (by decide), es, nI_add]
    exact ⟨nI_le (by omega) (by omega), fun _ => nI_lt (by omega) (by omega), oX.2.2⟩
end Steps59
theorem Rel.lk {S : SS} {K : KS} {T : TS} {X : XS} {M : SS} (h : Rel S K T X M) : ∃ np nf nx nl yr, LK S M S M T X np nf nx nl yr := by
  obtain ⟨np, nf, nx, nl, yr, g⟩ := h.ld
  exact ⟨np, nf, nx, nl, yr, g, kS.refl, kM.refl⟩
theorem Rel.step {S S' : SS} {K : KS} {T : TS} {X : XS} {M M' : SS} {np nf nx nl yr : Nat} (h : Rel S K T X M) (hk : LK S M S' M' T X np nf nx nl yr) : Rel S' K T X M' := h.land hk.2.1 hk.2.2 hk.1.rel
theorem sim_annul (S : SS) (K : KS) (T : TS) (X : XS) (M : SS) (z0 : Int32) (hR : Rel S K T X M) : ∃ p q, cD_annul S z0 = some p ∧ rM_annul M z0 = some q ∧ p.1 = q.1 ∧ Rel p.2 K T X q.2 := by
  obtain ⟨np, nf, nx, nl, yr, h⟩ := hR.lk
  have hc := h.1.cp
  unfold cD_annul rM_annul
  rw [cLand_hasPaper_eq h.1.s2 (by omega), rM_isPaper_eq h.1.n2 (by omega)]
  simp only [Option.bind_some, found_eq, finds_eq]
  by_cases h1 : inb z0 nx
  · have h20 := inb_mono h1 hc.2.2.1
    have hq := inb_lt h1
    have e9 := h.1.a hq 9 (by decide)
    simp only [decide_eq_true h1, if_true, if_pos h20, isOpen_eq h20, Option.bind_some, e9]
    by_cases c : M 155 (182 + 10 * ix z0 + 9) = 0
    · obtain ⟨S', M', k1, k2, k3, -⟩ := st_endN h (v := 3) hq (by decide) (by decide) (by decide)
      rw [← inb_nI h1] at k2
      simp only [decide_eq_true c, if_true, if_pos c, k1, k2, Option.bind_some, mowed_eq h20, cPaper_owed]
      refine ⟨_, _, rfl, rfl, ?_, hR.step k3⟩
      dsimp only
      rw [k3.1.a hq 3 (by decide), k3.1.a hq 4 (by decide)]
    · simp only [decide_eq_false c, Bool.false_eq_true, if_false, if_neg c]
      exact ⟨_, _, rfl, rfl, rfl, hR.fnd⟩
  · simp only [decide_eq_false h1, Bool.false_eq_true, if_false]
    exact ⟨_, _, rfl, rfl, rfl, hR.fnd⟩
theorem sim_pay (S : SS) (K : KS) (T : TS) (X : XS) (M : SS) (z0 z1 : Int32) (hR : Rel S K T X M) : ∃ p q, cD_pay S z0 z1 = some p ∧ rM_pay M z0 z1 = some q ∧ p.1 = q.1 ∧ Rel p.2 K T X q.2 := by
  obtain ⟨np, nf, nx, nl, yr, h⟩ := hR.lk
  have hc := h.1.cp
  unfold cD_pay rM_pay cD_pay_J22 rM_pay_J19
  rw [cLand_hasPaper_eq h.1.s2 (by omega), rM_isPaper_eq h.1.n2 (by omega)]
  simp only [Option.bind_some, found_eq, finds_eq, within_eq, in_eq]
  by_cases h1 : inb z0 nx
  · have h20 := inb_mono h1 hc.2.2.1
    have hq := inb_lt h1
    by_cases h2 : 1 ≤ z1 ∧ z1 ≤ 9999
    · have hz : inb z1 10000 := ⟨by have := Int32.le_iff_toInt_le.mp h2.1; simp at this; omega, by have := Int32.le_iff_toInt_le.mp h2.2; simp at this; omega⟩
      have e9 := h.1.a hq 9 (by decide)
      have e1 := h.1.a hq 1 (by decide)
      have e3 := h.1.a hq 3 (by decide)
      have e4 := h.1.a hq 4 (by decide)
      have o1 : inb (M 155 (182 + 10 * ix z0 + 1)) np := h.1.oka hq 1 (by decide)
      have o14 := inb_mono o1 hc.1
      have e6 : S (17 + ix (M 155 (182 + 10 * ix z0 + 1))) 3 = M 155 (10 + 10 * ix (M 155 (182 + 10 * ix z0 + 1)) + 6) := h.1.p (inb_lt o1) 6 (by decide)
      simp only [decide_eq_true h1, decide_eq_true h2, if_true, if_pos h20, isOpen_eq h20, Option.bind_some, e9, cPaper_owed, e3, e4, mowed_eq h20, rM_of_1 h20, e1, if_pos o14, rM_own_6 o14, e6]
      by_cases c : M 155 (182 + 10 * ix z0 + 9) = 0
      · simp only [decide_eq_true c, if_true, if_pos c]
        by_cases c2 : z1 ≤ M 155 (182 + 10 * ix z0 + 3) - M 155 (182 + 10 * ix z0 + 4)
        · simp only [if_pos c2]
          by_cases c3 : z1 ≤ M 155 (10 + 10 * ix (M 155 (182 + 10 * ix z0 + 1)) + 6)
          · obtain ⟨m, hm, rfl⟩ := inb_ex hz
            obtain ⟨S', M', k1, k2, k3⟩ := st_payOn h (m := m) hq c3 c2 hm c
            rw [← inb_nI h1] at k2
            simp only [if_pos c3, k1, k2, Option.bind_some, mowed_eq h20]
            refine ⟨_, _, rfl, rfl, ?_, hR.step k3⟩
            dsimp only
            rw [k3.1.a hq 3 (by decide), k3.1.a hq 4 (by decide)]
          · simp only [if_neg c3]
            exact ⟨_, _, rfl, rfl, rfl, hR.fnd⟩
        · simp only [if_neg c2]
          exact ⟨_, _, rfl, rfl, rfl, hR.fnd⟩
      · simp only [decide_eq_false c, Bool.false_eq_true, if_false, if_neg c]
        exact ⟨_, _, rfl, rfl, rfl, hR.fnd⟩
    · simp only [decide_eq_true h1, decide_eq_false h2, if_true, Bool.false_eq_true, if_false]
      exact ⟨_, _, rfl, rfl, rfl, hR.fnd⟩
  · simp only [decide_eq_false h1, Bool.false_eq_true, if_false]
    exact ⟨_, _, rfl, rfl, rfl, hR.fnd⟩
