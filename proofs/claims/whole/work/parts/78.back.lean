/-! ===== back ===== -/
def nmB (N : Nat → Int32) (f : Nat) (left : Int32) (k : Nat) : Int32 := match k with
  | 2 => left
  | 6 => N (150 + 4 * f + 0)
  | 8 => N (10 + 10 * ix (N (150 + 4 * f + 2)) + 4)
  | 9 => N (150 + 4 * f + 3)
  | _ => 0
section Back
variable {S : SS} {T : TS} {X : XS} {M : SS} {np nf nx nl yr : Nat}
theorem gives_pre (h : LD S T X (M 155) np nf nx nl yr) {f : Nat} (hf : f < nf) {b : Int32} (hb : inb b 2) (y : Int32) : ∃ A, (∀ r, r ≠ 134 → A r = S r) ∧ (∀ k, k < 11 → A 134 k = nmB (M 155) f (lf (M 155 (7 + ix b)) y) k) ∧ cCourt_givesBack S T X (31 + f) b y = (cCourt_comes A T X 1 b y).bind fun p7 => if p7.1 = true then (cLand_heirsOf p7.2 (p7.2 (31 + f) 0)).bind fun p9 => if p9 = ((1 : Int32) <<< ((p7.2 (31 + f) 2) &&& 31)) then some (false, p7.2) else some (true, p7.2) else some (false, p7.2) := by
  have hc := h.cp
  have hib := inb_lt hb
  unfold cCourt_givesBack cFill
  obtain ⟨P, hP⟩ : ∃ P : SS, P = fun a b => if a = 134 ∧ b < 11 then 0 else S a b := ⟨_, rfl⟩
  have hP1 : ∀ r, r ≠ 134 → P r = S r := fun r hr => by
    rw [hP]
    funext k
    dsimp only
    rw [if_neg (fun z => hr z.1)]
  have hP2 : ∀ k, k < 11 → P 134 k = 0 := fun k hk => by
    rw [hP]
    dsimp only
    rw [if_pos ⟨rfl, hk⟩]
  obtain ⟨p, hp, ep⟩ := inb_ex (h.okf hf 2 (by decide) : inb _ np)
  have e2 : S (31 + f) 2 = nI p := (h.f hf 2 (by decide)).trans ep
  have e4 : S (17 + p) 8 = M 155 (10 + 10 * p + 4) := h.p hp 4 (by decide)
  have o4 : M 155 (10 + 10 * p + 4) = 0 ∨ M 155 (10 + 10 * p + 4) = 1 := h.okp hp 4 (by decide)
  rw [← hP, Option.bind_some, cleft_eq hb, Option.bind_some, hP1 15 (by decide), (h.sh hib).1, up_x (show 31 + f ≠ 134 by omega), hP1 (31 + f) (by omega), e2, if_pos (nI_inb (by omega) (by decide)), nI_ix (by omega), up_x (show 17 + p ≠ 134 by omega), hP1 (17 + p) (by omega), e4, if_pos o4, bit_eq, Option.bind_some]
  generalize hQ : up (up P 134 2 (lf (M 155 (7 + ix b)) y)) 134 8 (b2i (decide (M 155 (10 + 10 * p + 4) = 1))) = Q
  have hQ1 : ∀ r, r ≠ 134 → Q r = S r := fun r hr => by rw [← hQ, up_o hr, up_o hr]; exact hP1 r hr
  have hQL : LD Q T X (M 155) np nf nx nl yr := h.fr (fun r hr => hQ1 r (by omega))
  rw [tellField_eq hQL hf, Option.bind_some]
  refine ⟨_, fun r hr => ?_, ?_, rfl⟩
  · rw [up_o hr, up_o hr]
    exact hQ1 r hr
  · have eb : b2i (decide (M 155 (10 + 10 * p + 4) = 1)) = M 155 (10 + 10 * p + 4) := by
      rcases o4 with o4 | o4 <;> rw [o4] <;> rfl
    rw [eb] at hQ
    refine eleven ?_ ?_ ?_ ?_ ?_ ?_ ?_ ?_ ?_ ?_ ?_
    all_goals rw [← hQ]
    all_goals simp only [up_i, nmB]
    · simpa using hP2 0 (by decide)
    · simpa using hP2 1 (by decide)
    · simp
    · simpa using hP2 3 (by decide)
    · simpa using hP2 4 (by decide)
    · simpa using hP2 5 (by decide)
    · simp
    · simpa using hP2 7 (by decide)
    · rw [ep, nI_ix (by omega)]
      simp
    · simp
    · simpa using hP2 10 (by decide)
theorem goes_L39 (h : LD S T X (M 155) np nf nx nl yr) {f : Nat} (hf : f < nf) {b : Int32} (hb : inb b 2) (y l : Int32) : ∃ B, (∀ r, r ≠ 166 → B r = M r) ∧ (∀ k, k < 11 → B 166 k = nmB (M 155) f (lf (M 155 (7 + ix b)) y) k) ∧ rM_goesBack_L39 FU M (nI f) b y l 0 = rM_isSo B l 1 := by
  have hc := h.cp
  have f8 : inb (nI f) 8 := nI_inb (by omega) (by decide)
  obtain ⟨p, hp, ep⟩ := inb_ex (h.okf hf 2 (by decide) : inb _ np)
  have p14 : inb (nI p) 14 := nI_inb (by omega) (by decide)
  obtain ⟨A, e1, e2⟩ := loop_e0 (fun n A i => rM_goesBack_L39 n A (nI f) b y l i) 11 (fun A => rM_isSo (up (up (up (up A 166 2 (lf (M 155 (7 + ix b)) y)) 166 6 (M 155 (150 + 4 * f + 0))) 166 8 (M 155 (10 + 10 * p + 4))) 166 9 (M 155 (150 + 4 * f + 3))) l 1) (fun i A => (∀ r, r ≠ 166 → A r = M r) ∧ ∀ k, k < i → A 166 k = 0) (by omega) (fun n i A hi hI => by
    show ∃ a', rM_goesBack_L39 (n + 1) A (nI f) b y l (nI i) = rM_goesBack_L39 n a' (nI f) b y l (nI (i + 1)) ∧ _
    rw [rM_goesBack_L39, if_neg (show ¬ (11 : Int32) ≤ nI i from nle (n := 11) hi (by decide)), if_pos (nI_inb hi (by decide)), nI_ix (by omega), nI_1]
    refine ⟨_, rfl, fun r hr => by rw [up_o hr]; exact hI.1 r hr, fun k hk => ?_⟩
    by_cases e : k = i
    · subst e
      rw [up_s]
    · rw [up_j e]
      exact hI.2 k (by omega)) (fun n A hI => by
    show rM_goesBack_L39 (n + 1) A (nI f) b y l (nI 11) = _
    have u : ∀ (A : SS) j v k, up A 166 j v 155 k = A 155 k := fun A j v k => up_x (by decide)
    rw [rM_goesBack_L39, if_pos (by decide)]
    simp only [mleft_eq hb, rM_ofField_0 f8, rM_ofField_2 f8, rM_ofField_3 f8, Option.bind_some, u, hI.1 155 (by decide), nI_ix (show f < 2 ^ 31 by omega), ep, rM_own_4 p14, nI_ix (show p < 2 ^ 31 by omega)]
    exact bind_pr _) M ⟨fun _ _ => rfl, fun k hk => absurd hk (by omega)⟩
  refine ⟨_, fun r hr => ?_, ?_, e1⟩
  · rw [up_o hr, up_o hr, up_o hr, up_o hr]
    exact e2.1 r hr
  · refine eleven ?_ ?_ ?_ ?_ ?_ ?_ ?_ ?_ ?_ ?_ ?_
    all_goals simp only [up_i, nmB]
    · simpa using e2.2 0 (by decide)
    · simpa using e2.2 1 (by decide)
    · simp
    · simpa using e2.2 3 (by decide)
    · simpa using e2.2 4 (by decide)
    · simpa using e2.2 5 (by decide)
    · simp
    · simpa using e2.2 7 (by decide)
    · rw [ep, nI_ix (by omega)]
      simp
    · simp
    · simpa using e2.2 10 (by decide)
theorem back_both (h : LD S T X (M 155) np nf nx nl yr) {f : Nat} (hf : f < nf) {b : Int32} (hb : inb b 2) (y : Int32) : ∃ r A' B', cCourt_givesBack S T X (31 + f) b y = some (r, A') ∧ rM_goesBack M (nI f) b y = some (r, B') ∧ (∀ x, x ≠ 134 → x ≠ 135 → A' x = S x) ∧ (∀ x, x ≠ 165 → x ≠ 166 → x ≠ 157 → x ≠ 158 → x ≠ 159 → B' x = M x) := by
  have hc := h.cp
  have f8 : inb (nI f) 8 := nI_inb (by omega) (by decide)
  obtain ⟨A, a1, a2, a3⟩ := gives_pre h hf hb y
  have hAL : LD A T X (M 155) np nf nx nl yr := h.fr (fun r hr => a1 r (by omega))
  rw [a3, comes_eqJ hAL]
  obtain ⟨p, hp, ep⟩ := inb_ex (h.okf hf 2 (by decide) : inb _ np)
  obtain ⟨r, hr, er⟩ := inb_ex (h.okf hf 1 (by decide) : inb _ np)
  rcases lwO_or (M 155) b y nl with e | ⟨q, hq, e⟩
  · unfold rM_goesBack
    rw [mlawOf_eq h.n4 hc.2.2.2.1, Option.bind_some, e, if_neg (by decide), if_pos (by decide), Option.bind_some]
    exact ⟨false, A, M, rfl, rfl, fun x h1 _ => a1 x h1, fun _ _ _ _ _ _ => rfl⟩
  · obtain ⟨v, M', g1, g2, g3, _⟩ := heirs_both h hr
    have e155 : M' 155 = M 155 := g3 155 (by decide) (by decide) (by decide)
    have hL' : LD S T X (M' 155) np nf nx nl yr := by rw [e155]; exact h
    obtain ⟨B, b1, b2, b3⟩ := goes_L39 hL' hf hb y (nI q)
    have hAL' : LD A T X (B 155) np nf nx nl yr := by
      rw [b1 155 (by decide), e155]
      exact hAL
    obtain ⟨r1, A1, B1, k1, k2, k3, k4⟩ := so_both hAL' hq (part := 1) (by omega) (fun k hk => by rw [a2 k hk, b2 k hk, e155])
    have k3' : ∀ x, x ≠ 134 → x ≠ 135 → A1 x = S x := fun x h1 h2 => by rw [k3 x h2]; exact a1 x h1
    have hA1L : LD A1 T X (M 155) np nf nx nl yr := h.fr (fun r hr => k3' r (by omega) (by omega))
    obtain ⟨v2, M2, w1, w2, _, _⟩ := heirs_both hA1L hr
    have hv : v2 = v := by
      rw [g2] at w2
      exact (Prod.mk.inj (Option.some.inj w2)).1.symm
    have e22 : M' 155 (150 + 4 * f + 2) = nI p := (congrFun e155 _).trans ep
    have k2' : rM_isSo B (nI q) 1 = some (r1, B1) := k2
    rw [k2'] at b3
    have r0 : A1 (31 + f) 0 = nI r := by
      rw [k3' (31 + f) (by omega) (by omega)]
      exact (h.f hf 1 (by decide)).trans er
    have r2 : A1 (31 + f) 2 = nI p := by
      rw [k3' (31 + f) (by omega) (by omega)]
      exact (h.f hf 2 (by decide)).trans ep
    have hm : rM_goesBack M (nI f) b y = if v = (1 : Int32) <<< (nI p &&& 31) then some (false, M') else some (r1, B1) := by
      have o2 : rM_ofField M' (nI f) 2 = some (nI p) := by rw [rM_ofField_2 f8, nI_ix (by omega), e22]
      have o1 : rM_ofField M (nI f) 1 = some (nI r) := by rw [rM_ofField_1 f8, nI_ix (by omega), er]
      unfold rM_goesBack
      rw [mlawOf_eq h.n4 hc.2.2.2.1, Option.bind_some, e, if_neg (nI_pos (by omega)), o1, Option.bind_some, g2, Option.bind_some]
      show (rM_ofField M' (nI f) 2).bind _ = _
      rw [o2, Option.bind_some, ← b3]
    have hcl : ((cCourt_comes_J33 T X A 1 (T (59 + ix (nI q)) 0)).bind fun p7 => if p7.1 = true then (cLand_heirsOf p7.2 (p7.2 (31 + f) 0)).bind fun p9 => if p9 = ((1 : Int32) <<< ((p7.2 (31 + f) 2) &&& 31)) then some (false, p7.2) else some (true, p7.2) else some (false, p7.2)) = if r1 = true then (if v = ((1 : Int32) <<< (nI p &&& 31)) then some (false, A1) else some (true, A1)) else some (false, A1) := by
      rw [nI_ix (show q < 2 ^ 31 by omega), show cCourt_comes_J33 T X A 1 (T (59 + q) 0) = _ from k1, Option.bind_some]
      show (if r1 = true then (cLand_heirsOf A1 (A1 (31 + f) 0)).bind _ else _) = _
      rw [r0, w1, hv, Option.bind_some]
      show (if r1 = true then (if v = ((1 : Int32) <<< ((A1 (31 + f) 2) &&& 31)) then _ else _) else _) = _
      rw [r2]
    rw [e, if_pos (nI_pos' (by omega)), hcl, hm]
    by_cases c : v = (1 : Int32) <<< (nI p &&& 31)
    · rw [if_pos c, if_pos c]
      refine ⟨false, A1, M', ?_, rfl, k3', fun x _ _ h1 h2 h3 => g3 x h1 h2 h3⟩
      cases r1 <;> rfl
    · rw [if_neg c, if_neg c]
      refine ⟨r1, A1, B1, ?_, rfl, k3', fun x h1 h2 h3 h4 h5 => by rw [k4 x h1, b1 x h2]; exact g3 x h3 h4 h5⟩
      cases r1 <;> rfl
end Back
theorem sim_back (S : SS) (K : KS) (T : TS) (X : XS) (M : SS) (z0 z1 z2 : Int32) (hR : Rel S K T X M) : ∃ p q, cD_back S T X z0 z1 z2 = some p ∧ rM_back M z0 z1 z2 = some q ∧ p.1 = q.1 ∧ Rel p.2 K T X q.2 := by
  obtain ⟨np, nf, nx, nl, yr, h⟩ := hR.ld
  have hc := h.cp
  unfold cD_back rM_back cD_back_J25 rM_back_J22
  rw [cLand_hasField_eq h.s1 (by omega), rM_isField_eq h.n1 (by omega), cD_isBench_eq, rM_isBench_eq, cD_isYear_eq, rM_isYear_eq]
  simp only [Option.bind_some, found_eq, finds_eq]
  by_cases h1 : inb z0 nf
  · by_cases h2 : inb z1 2
    · by_cases h3 : inb z2 401
      · obtain ⟨f, hf, rfl⟩ := inb_ex h1
        obtain ⟨r, A', B', e1, e2, e3, e4⟩ := back_both h hf h2 z2
        simp only [decide_eq_true h1, decide_eq_true h2, decide_eq_true h3, if_true, if_pos (nI_inb (show f < 8 by omega) (show 8 < 2 ^ 31 by decide)), nI_ix (show f < 2 ^ 31 by omega), e1, e2, Option.bind_some, bit_eq]
        refine ⟨(b2i r, A'), (b2i r, B'), rfl, ?_, rfl, ?_⟩
        · cases r <;> rfl
        · exact hR.court e3 e4
      · simp only [decide_eq_true h1, decide_eq_true h2, decide_eq_false h3, if_true, Bool.false_eq_true, if_false]
        exact ⟨_, _, rfl, rfl, rfl, hR.fnd⟩
    · simp only [decide_eq_true h1, decide_eq_false h2, if_true, Bool.false_eq_true, if_false]
      exact ⟨_, _, rfl, rfl, rfl, hR.fnd⟩
  · simp only [decide_eq_false h1, Bool.false_eq_true, if_false]
    exact ⟨_, _, rfl, rfl, rfl, hR.fnd⟩
