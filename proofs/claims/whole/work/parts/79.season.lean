/-! ===== a year goes by: harvest, hunger, loans ===== -/
theorem kS.crt {S A' : SS} {X : XS} (h3 : ∀ x, x ≠ 134 → x ≠ 135 → A' x = S x) : kS S A' X :=
  ⟨h3 8 (by decide) (by decide), fun x g1 g2 => h3 x (by omega) (by omega), h3 138 (by decide) (by decide), by rw [h3 137 (by decide) (by decide)], fun x g1 g2 => h3 x (by omega) (by omega), fun x g1 g2 => h3 x (by omega) (by omega)⟩
theorem kM.crt {M B' : SS} (h4 : ∀ x, x ≠ 165 → x ≠ 166 → x ≠ 157 → x ≠ 158 → x ≠ 159 → B' x = M x) : kM M B' := by
  refine ⟨?_, ?_, ?_, ?_, ?_, ?_, ?_, ?_, ?_, ?_⟩
  · rw [h4 154 (by decide) (by decide) (by decide) (by decide) (by decide)]
  · rw [h4 154 (by decide) (by decide) (by decide) (by decide) (by decide)]
  · rw [h4 154 (by decide) (by decide) (by decide) (by decide) (by decide)]
  all_goals exact h4 _ (by decide) (by decide) (by decide) (by decide) (by decide)
theorem nI_gt0 {n : Nat} (h0 : 0 < n) (h : n < 2 ^ 31) : (0 : Int32) < nI n := nI_lt (a := 0) h0 h
theorem up_self {M : SS} {x a : Nat} {v : Int32} (h : v = M x a) : up M x a v = M := by
  funext y c
  rw [up_i]
  by_cases e : y = x ∧ c = a
  · rw [if_pos e, h, e.1, e.2]
  · rw [if_neg e]
section Season
variable {S0 M0 S M : SS} {T : TS} {X : XS} {np nf nx nl yr : Nat}
theorem LK.court {A' B' : SS} (h : LK S0 M0 S M T X np nf nx nl yr) (h3 : ∀ x, x ≠ 134 → x ≠ 135 → A' x = S x) (h4 : ∀ x, x ≠ 165 → x ≠ 166 → x ≠ 157 → x ≠ 158 → x ≠ 159 → B' x = M x) : LK S0 M0 A' B' T X np nf nx nl yr := by
  refine ⟨?_, h.2.1.trans (kS.crt h3), h.2.2.trans (kM.crt h4)⟩
  rw [h4 155 (by decide) (by decide) (by decide) (by decide) (by decide)]
  exact h.1.fr (fun r hr => h3 r (by omega) (by omega))
theorem lender_both (h : LD S T X (M 155) np nf nx nl yr) {p : Nat} (hp : p < np) {k : Nat} (hk : k ≤ 10) : ∃ v, cSeason_lenderFor S (nI p) (nI k) = some v ∧ rM_lender M (nI p) (nI k) = some v ∧ (v = -1 ∨ ∃ q, q < np ∧ v = nI q ∧ q ≠ p ∧ ∃ s, M 155 (10 + 10 * q + 6) = nI s ∧ s < 10000 ∧ k + 20 ≤ s) := by
  have hc := h.cp
  have p14 : inb (nI p) 14 := nI_inb (by omega) (by decide)
  have e4 : S (17 + p) 8 = M 155 (10 + 10 * p + 4) := h.p hp 4 (by decide)
  have o4 : M 155 (10 + 10 * p + 4) = 0 ∨ M 155 (10 + 10 * p + 4) = 1 := h.okp hp 4 (by decide)
  have h1 : inb (1 : Int32) 2 := by decide
  have i1 : ix (1 : Int32) = 1 := rfl
  have key : ∀ m i f g, i + m = np → m < f → m < g → ∃ v, cSeason_lenderFor_L19 S f (nI p) (nI k) (lf (M 155 (7 + 1)) (nI yr)) (nI i) = some v ∧ rM_lender_L2 M g (nI p) (nI k) (nI i) = some v ∧ (v = -1 ∨ ∃ q, q < np ∧ v = nI q ∧ q ≠ p ∧ ∃ s, M 155 (10 + 10 * q + 6) = nI s ∧ s < 10000 ∧ k + 20 ≤ s) := by
    intro m
    induction m with
    | zero =>
      intro i f g hi hf hg
      obtain ⟨f', rfl⟩ : ∃ f', f = f' + 1 := ⟨f - 1, by omega⟩
      obtain ⟨g', rfl⟩ : ∃ g', g = g' + 1 := ⟨g - 1, by omega⟩
      have e : i = np := by omega
      subst e
      exact ⟨-1, by rw [cSeason_lenderFor_L19, h.s0, if_pos (Int32.le_refl _)], by rw [rM_lender_L2, h.n0, if_pos (Int32.le_refl _)], Or.inl rfl⟩
    | succ m ih =>
      intro i f g hi hf hg
      obtain ⟨f', rfl⟩ : ∃ f', f = f' + 1 := ⟨f - 1, by omega⟩
      obtain ⟨g', rfl⟩ : ∃ g', g = g' + 1 := ⟨g - 1, by omega⟩
      have hin : i < np := by omega
      have i14 : inb (nI i) 14 := nI_inb (by omega) (by decide)
      have nx_ := ih (i + 1) f' g' (by omega) (by omega) (by omega)
      rw [cSeason_lenderFor_L19, h.s0, if_neg (nle hin (by omega)), if_pos i14, nI_ix (by omega), rM_lender_L2, h.n0, if_neg (nle hin (by omega)), mlives_eq (by omega), h.dead hin]
      unfold cSeason_lenderFor_J96 rM_lender_J72
      rw [nI_1]
      by_cases e : i = p
      · rw [if_pos (by rw [e]), if_pos (by rw [e])]
        exact nx_
      · rw [if_neg (fun z => e ((nI_eq (by omega) (by omega)).mp z)), if_neg (fun z => e ((nI_eq (by omega) (by omega)).mp z))]
        obtain ⟨s, hs, es⟩ := inb_ex (h.okp hin 6 (by decide) : inb (M 155 (10 + 10 * i + 6)) 10000)
        have e6 : S (17 + i) 3 = nI s := (h.p hin 6 (by decide)).trans es
        have e7 : S (17 + i) 5 = M 155 (10 + 10 * i + 7) := h.p hin 7 (by decide)
        cases ha : al (M 155) i
        · rw [Option.bind_some, Option.bind_some, if_pos (show (!false) = true from rfl), if_neg (by decide)]
          exact nx_
        · rw [Option.bind_some, Option.bind_some, if_neg (by decide), if_pos rfl, e6, rM_own_6 i14, nI_ix (show i < 2 ^ 31 by omega), es, Option.bind_some]
          by_cases c : nI s - nI k < 20
          · rw [if_pos c, if_pos c]
            exact nx_
          · have hks : k + 20 ≤ s := by
              rw [Int32.lt_iff_toInt_lt, pk_sub_toInt (by omega) (by omega)] at c
              have : (20 : Int32).toInt = 20 := rfl
              omega
            have hit : ∃ v, (some (nI i) : Option Int32) = some v ∧ (some (nI i) : Option Int32) = some v ∧ (v = -1 ∨ ∃ q, q < np ∧ v = nI q ∧ q ≠ p ∧ ∃ s, M 155 (10 + 10 * q + 6) = nI s ∧ s < 10000 ∧ k + 20 ≤ s) := ⟨nI i, rfl, rfl, Or.inr ⟨i, hin, rfl, e, s, es, hs, hks⟩⟩
            rw [if_neg c, if_neg c, if_pos p14, nI_ix (show p < 2 ^ 31 by omega), e4, rM_own_4 p14, nI_ix (show p < 2 ^ 31 by omega), Option.bind_some, mleft_eq h1, i1, h.n3, Option.bind_some, rM_own_7 i14, nI_ix (show i < 2 ^ 31 by omega), Option.bind_some, e7]
            rcases o4 with o4 | o4
            · rw [o4, if_pos rfl, if_neg (show ¬ (0 : Int32) = 1 by decide)]
              by_cases c2 : lf (M 155 (7 + 1)) (nI yr) ≤ M 155 (10 + 10 * i + 7)
              · rw [if_pos c2, if_pos c2]
                exact nx_
              · rw [if_neg c2, if_neg c2]
                exact hit
            · rw [o4, if_neg (by decide), if_pos rfl]
              exact hit
  unfold cSeason_lenderFor rM_lender
  rw [cleft_eq h1, i1, h.s3, (h.sh (show 1 < 2 by decide)).1, Option.bind_some]
  exact key np 0 FU FU (by omega) (by unfold FU; omega) (by unfold FU; omega)
theorem eat_no (h : LK S0 M0 S M T X np nf nx nl yr) {p s t k : Nat} (hp : p < np) (es : M 155 (10 + 10 * p + 6) = nI s) (hs : s < 10000) (ht : t = min s 10) (htk : t + k = 10) (hu : Int32) (k4 : SS → Int32 → Int32 → Option (Int32 × SS)) : ∃ S' M', cSeason_eat_J37 S (17 + p) (nI k) = some (nI k, S') ∧ rM_allEat_J83 k4 M hu (nI p) (nI t) (nI k) (-1) = k4 M' (hu + nI k) (nI (p + 1)) ∧ LK S0 M0 S' M' T X np nf nx nl yr := by
  have hc := h.1.cp
  have p14 : inb (nI p) 14 := nI_inb (by omega) (by decide)
  have e6 : S (17 + p) 3 = nI s := (h.1.p hp 6 (by decide)).trans es
  have e9 : S (17 + p) 7 = M 155 (10 + 10 * p + 9) := h.1.p hp 9 (by decide)
  have e5 : S 9 12 = M 155 5 := h.1.s5
  have v3 : (if (0 : Int32) < nI s - 10 then nI s - 10 else 0) = nI (s - t) := by
    by_cases c : 10 < s
    · have e : nI s - 10 = nI (s - 10) := pk_sub (b := 10) (by omega)
      rw [e, if_pos (nI_gt0 (by omega) (by omega)), show s - t = s - 10 by omega]
    · have : ¬ (0 : Int32) < nI s - 10 := by
        rw [Int32.lt_iff_toInt_lt, show (10 : Int32) = nI 10 from rfl, pk_sub_toInt (by omega) (by omega)]
        have : (0 : Int32).toInt = 0 := rfl
        omega
      rw [if_neg this, show s - t = 0 by omega]
      rfl
  have et : (10 : Int32) - nI k = nI t := by
    have := pk_sub (a := 10) (b := k) (by omega)
    rw [show 10 - k = t by omega] at this
    exact this
  have L1 := ((h.P hp 6 (by decide) (show okP p 6 (nI (s - t)) from nI_inb (by omega) (by decide))).P hp 9 (by decide) (show okP p 9 (M 155 (10 + 10 * p + 9) + nI k) from trivial)).eaten (M 155 5 + nI t)
  refine ⟨_, _, ?_, ?_, L1⟩
  · unfold cSeason_eat_J37
    rw [e6, v3, et]
    rw [up_x (show (9 : Nat) ≠ 17 + p by omega), up_x (show (9 : Nat) ≠ 17 + p by omega), e5, up_j (show (7 : Nat) ≠ 3 by decide), e9]
    rfl
  · unfold rM_allEat_J83 rM_allEat_J213
    have hst : nI s - nI t = nI (s - t) := pk_sub (by omega)
    rw [rM_own_6 p14, nI_ix (by omega), es, Option.bind_some, rM_makes_6 p14, nI_ix (by omega), hst, Option.bind_some, if_pos (by decide), rM_own_9 p14, nI_ix (by omega), Option.bind_some, rM_makes_9 p14, nI_ix (by omega), Option.bind_some, nI_1]
    rw [up_j (show (5 : Nat) ≠ 10 + 10 * p + 6 by omega), up_j (show 10 + 10 * p + 9 ≠ 5 by omega), up_j (show 10 + 10 * p + 9 ≠ 10 + 10 * p + 6 by omega), up_comm (fun z => absurd z.2 (by omega))]
theorem bind1 {A : SS} {nx : Nat} (hn : nx < 20) (h9 : A 9 9 = nI nx) (h0 : A (39 + nx) 0 = 1) : cLand_bindNewPaper A (-1) = some (nI nx, up (up A (39 + nx) 7 (-1)) 9 9 (nI (nx + 1))) := by
  have e19 : ¬ (19 : Int32) < nI nx := nI_nlt (show nx ≤ 19 by omega) (by decide)
  have np_ : cLand_nextPaper A = some (39 + nx) := by
    unfold cLand_nextPaper
    rw [h9, if_neg e19, if_pos (nI_inb hn (by decide)), nI_ix (by omega)]
  unfold cLand_bindNewPaper cLand_bindNewPaper_J38 cLand_bindNewPaper_J63 cPaper_isSale
  have k0 : up A (39 + nx) 7 (-1) (39 + nx) 0 = 1 := by rw [up_j (by decide)]; exact h0
  have s1 : cD_isUnder 1 3 = some false := sale_all 1 (by decide)
  have k9 : up A (39 + nx) 7 (-1) 9 9 = nI nx := by rw [up_x (by omega)]; exact h9
  rw [np_, Option.bind_some, k0, s1]
  simp only [Option.bind_some, Bool.false_eq_true, if_false]
  rw [if_neg (by decide), k9, nI_1]
theorem borrow_yes (h : LD S T X (M 155) np nf nx nl yr) {p q k s : Nat} (hp : p < np) (hq : q < np) (hk0 : 0 < k) (hk : k ≤ 10) (hl : cSeason_lenderFor S (nI p) (nI k) = some (nI q)) (es : M 155 (10 + 10 * q + 6) = nI s) (hs : k ≤ s) (hn : nx < 20) : ∃ S2, cSeason_borrow S (nI p) (nI k) = some (true, S2) ∧ (∀ x j, ¬ (x = 9 ∧ j = 9) → x ≠ 39 + nx → S2 x j = up S (17 + q) 3 (nI (s - k)) x j) ∧ S2 9 9 = nI (nx + 1) ∧ ∀ j, j < 10 → S2 (39 + nx) j = pvals 1 (nI p) (nI q) (nI k) (nI yr) (if nI (yr + 5) < 400 then nI (yr + 5) else 400) (-1) 0 j := by
  have hc := h.cp
  have e6 : S (17 + q) 3 = nI s := (h.p hq 6 (by decide)).trans es
  have e19 : ¬ (19 : Int32) < nI nx := nI_nlt (show nx ≤ 19 by omega) (by decide)
  have np_ : cLand_nextPaper (up S (17 + q) 3 (nI (s - k))) = some (39 + nx) := by
    unfold cLand_nextPaper
    rw [up_x (show (9 : Nat) ≠ 17 + q by omega), h.s2, if_neg e19, if_pos (nI_inb hn (by decide)), nI_ix (by omega)]
  have e5 : nI yr + 5 = nI (yr + 5) := nI_add yr 5
  unfold cSeason_borrow
  rw [hl, Option.bind_some, if_neg (nI_pos (by omega)), h.s2, if_pos (show nI nx < 20 from nI_lt (b := 20) hn (by decide)), if_pos (nI_inb (by omega) (by decide)), nI_ix (by omega), e6, pk_sub hs, np_, Option.bind_some, up_x (show (9 : Nat) ≠ 17 + q by omega), h.s3, e5]
  unfold cPaper_begin
  rw [Option.bind_some]
  generalize hd : (if nI (yr + 5) < 400 then nI (yr + 5) else 400) = d
  generalize hA : up (up (up (up (up (up (up (up (up (up (up (up S (17 + q) 3 (nI (s - k))) (39 + nx) 0 1) (39 + nx) 1 (nI p)) (39 + nx) 2 (nI q)) (39 + nx) 3 (nI k)) (39 + nx) 4 0) (39 + nx) 5 (nI yr)) (39 + nx) 6 d) (39 + nx) 7 (-1)) (39 + nx) 8 2) (39 + nx) 9 0) (39 + nx) 8 0 = A
  have hA1 : ∀ x, x ≠ 39 + nx → A x = up S (17 + q) 3 (nI (s - k)) x := fun x hx => by
    rw [← hA, up_o hx, up_o hx, up_o hx, up_o hx, up_o hx, up_o hx, up_o hx, up_o hx, up_o hx, up_o hx, up_o hx]
  have hA2 : ∀ j, j < 10 → A (39 + nx) j = pvals 1 (nI p) (nI q) (nI k) (nI yr) d (-1) 0 j := fun j hj => by
    rw [← hA]
    simp only [u1]
    have hw' : j = 0 ∨ j = 1 ∨ j = 2 ∨ j = 3 ∨ j = 4 ∨ j = 5 ∨ j = 6 ∨ j = 7 ∨ j = 8 ∨ j = 9 := by omega
    rcases hw' with rfl | rfl | rfl | rfl | rfl | rfl | rfl | rfl | rfl | rfl <;> simp [pvals]
  rw [bind1 hn (by rw [hA1 9 (by omega), up_x (by omega)]; exact h.s2) (hA2 0 (by decide)), Option.bind_some]
  refine ⟨_, rfl, fun x j h1 h2 => ?_, show up (up A (39 + nx) 7 (-1)) 9 9 (nI (nx + 1)) 9 9 = _ from up_s, fun j hj => ?_⟩
  · show up (up A (39 + nx) 7 (-1)) 9 9 (nI (nx + 1)) x j = _
    rw [up_n h1, up_x h2, hA1 x h2]
  · show up (up A (39 + nx) 7 (-1)) 9 9 (nI (nx + 1)) (39 + nx) j = _
    rw [up_x (by omega), u1]
    by_cases e : j = 7
    · subst e
      rfl
    · rw [if_neg e]
      exact hA2 j hj
theorem eat_yes (h : LK S0 M0 S M T X np nf nx nl yr) {p q s k sq : Nat} (hp : p < np) (hq : q < np) (hqp : q ≠ p) (es : M 155 (10 + 10 * p + 6) = nI s) (hsk : s + k = 10) (hk0 : 0 < k) (hl : cSeason_lenderFor S (nI p) (nI k) = some (nI q)) (eq : M 155 (10 + 10 * q + 6) = nI sq) (hsq : sq < 10000) (hks : k ≤ sq) (hn : nx < 20) (hu : Int32) (k4 : SS → Int32 → Int32 → Option (Int32 × SS)) : ∃ S2 S' M', cSeason_borrow S (nI p) (nI k) = some (true, S2) ∧ cSeason_eat_J37 S2 (17 + p) 0 = some (0, S') ∧ rM_allEat_J83 k4 M hu (nI p) (nI s) (nI k) (nI q) = k4 M' hu (nI (p + 1)) ∧ LK S0 M0 S' M' T X np nf (nx + 1) nl yr := by
  have hc := h.1.cp
  have p14 : inb (nI p) 14 := nI_inb (by omega) (by decide)
  have q14 : inb (nI q) 14 := nI_inb (by omega) (by decide)
  obtain ⟨S2, b1, b2, b3, b4⟩ := borrow_yes h.1 hp hq hk0 (by omega) hl eq hks hn
  have e6 : S (17 + p) 3 = nI s := (h.1.p hp 6 (by decide)).trans es
  have e9 : S (17 + p) 7 = M 155 (10 + 10 * p + 9) := h.1.p hp 9 (by decide)
  have f6 : S2 (17 + p) 3 = nI s := by rw [b2 _ _ (by omega) (by omega), up_x (by omega)]; exact e6
  have f9 : S2 (17 + p) 7 = M 155 (10 + 10 * p + 9) := by rw [b2 _ _ (by omega) (by omega), up_x (by omega)]; exact e9
  have f5 : S2 9 12 = M 155 5 := by rw [b2 _ _ (by omega) (by omega), up_x (by omega)]; exact h.1.s5
  have v3 : (if (0 : Int32) < nI s - 10 then nI s - 10 else 0) = 0 := by
    have : ¬ (0 : Int32) < nI s - 10 := by
      rw [Int32.lt_iff_toInt_lt, show (10 : Int32) = nI 10 from rfl, pk_sub_toInt (by omega) (by omega)]
      have : (0 : Int32).toInt = 0 := rfl
      omega
    rw [if_neg this]
  have L1 := (((h.P hq 6 (by decide) (show okP q 6 (nI (sq - k)) from nI_inb (by omega) (by decide))).P hp 6 (by decide) (show okP p 6 (0 : Int32) from (by decide : inb 0 10000))).P hp 9 (by decide) (show okP p 9 (M 155 (10 + 10 * p + 9)) from trivial)).eaten (M 155 5 + 10)
  have hss : nI s - nI s = 0 := Int32.sub_self _
  have e10 : M 155 5 + nI s + nI k = M 155 5 + 10 := by
    rw [Int32.add_assoc, nI_add, hsk]
    rfl
  obtain ⟨MA, c1, c2, c3, c4, c5⟩ := comes_eq (M := up (up (up (up M 155 (10 + 10 * p + 6) 0) 155 5 (M 155 5 + nI s)) 155 (10 + 10 * q + 6) (nI (sq - k))) 155 5 (M 155 5 + 10)) (nx := nx) (by rw [up_j (by omega), up_j (by omega), up_j (by omega), up_j (by omega)]; exact h.1.n2) hn 1 (nI p) (nI q) (nI k) (if nI (yr + 5) < 400 then nI (yr + 5) else 400) (-1) 0
  have m3 : up (up (up (up M 155 (10 + 10 * p + 6) 0) 155 5 (M 155 5 + nI s)) 155 (10 + 10 * q + 6) (nI (sq - k))) 155 5 (M 155 5 + 10) 155 3 = nI yr := by
    rw [up_j (by omega), up_j (by omega), up_j (by omega), up_j (by omega)]
    exact h.1.n3
  rw [m3] at c4
  refine ⟨S2, up (up (up S2 (17 + p) 3 0) (17 + p) 7 (M 155 (10 + 10 * p + 9))) 9 12 (M 155 5 + 10), MA, b1, ?_, ?_, ?_⟩
  · unfold cSeason_eat_J37
    rw [f6, v3, up_x (show (9 : Nat) ≠ 17 + p by omega), up_x (show (9 : Nat) ≠ 17 + p by omega), f5, up_j (show (7 : Nat) ≠ 3 by decide), f9, Int32.add_zero]
    rfl
  · unfold rM_allEat_J83 rM_allEat_J213
    rw [rM_own_6 p14, nI_ix (by omega), es, Option.bind_some, rM_makes_6 p14, nI_ix (by omega), hss, Option.bind_some, if_neg (nI_pos (by omega)), rM_own_6 q14, nI_ix (by omega), Option.bind_some, rM_makes_6 q14, nI_ix (by omega), Option.bind_some]
    rw [up_j (show (5 : Nat) ≠ 10 + 10 * p + 6 by omega), up_j (show 10 + 10 * q + 6 ≠ 5 by omega), up_j (show 10 + 10 * q + 6 ≠ 10 + 10 * p + 6 by omega), eq, pk_sub hks, up_j (show (5 : Nat) ≠ 10 + 10 * q + 6 by omega), up_s, e10]
    rw [m3, show nI yr + 5 = nI (yr + 5) from nI_add yr 5]
    unfold rM_allEat_J181 rM_allEat_J213
    by_cases c : yr + 5 < 400
    · rw [if_pos (show nI (yr + 5) < 400 from nI_lt (b := 400) c (by decide))] at c1
      rw [if_neg (show ¬ (400 : Int32) ≤ nI (yr + 5) from nle (n := 400) c (by decide)), show b2i true = 1 from rfl, c1, Option.bind_some, nI_1]
    · rw [if_neg (show ¬ nI (yr + 5) < 400 from nI_nlt (b := 400) (by omega) (by omega))] at c1
      rw [if_pos (show (400 : Int32) ≤ nI (yr + 5) from nI_le (a := 400) (by omega) (by omega)), show b2i true = 1 from rfl, c1, Option.bind_some, nI_1]
  · refine st_add (k := 1) (b := nI p) (t := nI q) (s := nI k) (d := if nI (yr + 5) < 400 then nI (yr + 5) else 400) (th := -1) (w := 0) L1 hn (fun x j h1 h2 => ?_) ?_ (fun j hj => ?_) (fun a h1 h2 => ?_) c3 c4 (fun x hx => ?_) ?_
    · show up (up (up S2 (17 + p) 3 0) (17 + p) 7 (M 155 (10 + 10 * p + 9))) 9 12 (M 155 5 + 10) x j = up (up (up (up S (17 + q) 3 (nI (sq - k))) (17 + p) 3 0) (17 + p) 7 (M 155 (10 + 10 * p + 9))) 9 12 (M 155 5 + 10) x j
      simp only [up_i] at b2 ⊢
      rw [b2 x j h1 h2]
    · rw [up_j (by decide), up_x (by omega), up_x (by omega)]
      exact b3
    · rw [up_x (by omega), up_x (by omega), up_x (by omega)]
      exact b4 j hj
    · rw [c2 a h1 h2]
      simp only [u1]
      by_cases a5 : a = 5
      · rw [if_pos a5, if_pos a5]
      · rw [if_neg a5, if_neg a5, if_neg a5]
        by_cases a9 : a = 10 + 10 * p + 9
        · rw [if_pos a9, if_neg (by omega), if_neg (by omega), a9]
        · rw [if_neg a9]
          by_cases aq : a = 10 + 10 * q + 6
          · rw [if_pos aq, if_neg (by omega), if_pos aq]
          · rw [if_neg aq, if_neg aq]
    · rw [c5 x hx, up_o hx, up_o hx, up_o hx, up_o hx, up_o hx, up_o hx, up_o hx, up_o hx]
    · refine ⟨by decide, nI_inb hp (by omega), nI_inb hq (by omega), ⟨nI_inb (by omega) (by decide), nI_gt0 hk0 (by omega)⟩, ?_, Or.inl rfl, by decide, by decide⟩
      by_cases c : yr + 5 < 400
      · rw [if_pos (show nI (yr + 5) < 400 from nI_lt (b := 400) c (by decide))]
        exact nI_inb (by omega) (by decide)
      · rw [if_neg (show ¬ nI (yr + 5) < 400 from nI_nlt (b := 400) (by omega) (by omega))]
        decide
theorem st_eat (h : LK S0 M0 S M T X np nf nx nl yr) {p : Nat} (hp : p < np) (hu : Int32) (k4 : SS → Int32 → Int32 → Option (Int32 × SS)) : ∃ v S' M' nx', cSeason_eat S (nI p) = some (v, S') ∧ ((rM_own M (nI p) 6).bind fun p4 => if (10 : Int32) ≤ p4 then rM_allEat_J49 k4 M hu (nI p) 10 else (rM_own M (nI p) 6).bind fun p18 => rM_allEat_J49 k4 M hu (nI p) p18) = k4 M' (hu + v) (nI (p + 1)) ∧ LK S0 M0 S' M' T X np nf nx' nl yr := by
  have hc := h.1.cp
  have p14 : inb (nI p) 14 := nI_inb (by omega) (by decide)
  obtain ⟨s, hs, es⟩ := inb_ex (h.1.okp hp 6 (by decide) : inb (M 155 (10 + 10 * p + 6)) 10000)
  have e6 : S (17 + p) 3 = nI s := (h.1.p hp 6 (by decide)).trans es
  unfold cSeason_eat rM_allEat_J49 rM_allEat_J82
  rw [if_pos p14, nI_ix (by omega), e6, rM_own_6 p14, nI_ix (by omega), es]
  simp only [Option.bind_some]
  by_cases c : 10 ≤ s
  · have n0 : ¬ (0 : Int32) < 10 - nI s := by
      rw [Int32.lt_iff_toInt_lt, show (10 : Int32) = nI 10 from rfl, pk_sub_toInt (by omega) (by omega)]
      have : (0 : Int32).toInt = 0 := rfl
      omega
    obtain ⟨S', M', e1, e2, e3⟩ := eat_no h hp es hs (t := 10) (k := 0) (by omega) (by omega) hu k4
    rw [if_neg n0, if_pos (Int32.le_refl _), if_pos (show (10 : Int32) ≤ nI s from nI_le (a := 10) c (by omega)), if_pos (by decide)]
    exact ⟨0, S', M', nx, e1, e2, e3⟩
  · have ek : (10 : Int32) - nI s = nI (10 - s) := pk_sub (a := 10) (b := s) (by omega)
    rw [ek, if_pos (nI_gt0 (by omega) (by omega)), if_neg (nI_nle (by omega) (by omega)), if_neg (show ¬ (10 : Int32) ≤ nI s from nle (n := 10) (by omega) (by decide)), if_neg (nI_nle (by omega) (by omega))]
    obtain ⟨v, l1, l2, l3⟩ := lender_both h.1 hp (k := 10 - s) (by omega)
    obtain ⟨S', M', e1, e2, e3⟩ := eat_no h hp es hs (t := s) (k := 10 - s) (by omega) (by omega) hu k4
    have no : cSeason_borrow S (nI p) (nI (10 - s)) = some (false, S) → (if (20 : Int32) ≤ M 155 2 then rM_allEat_J83 k4 M hu (nI p) (nI s) (nI (10 - s)) (-1) else (rM_lender M (nI p) (nI (10 - s))).bind fun p17 => rM_allEat_J83 k4 M hu (nI p) (nI s) (nI (10 - s)) p17) = rM_allEat_J83 k4 M hu (nI p) (nI s) (nI (10 - s)) (-1) → ∃ v S' M' nx', ((cSeason_borrow S (nI p) (nI (10 - s))).bind fun p3 => if p3.1 = true then cSeason_eat_J37 p3.2 (17 + p) 0 else cSeason_eat_J37 p3.2 (17 + p) (nI (10 - s))) = some (v, S') ∧ (if (20 : Int32) ≤ M 155 2 then rM_allEat_J83 k4 M hu (nI p) (nI s) (nI (10 - s)) (-1) else (rM_lender M (nI p) (nI (10 - s))).bind fun p17 => rM_allEat_J83 k4 M hu (nI p) (nI s) (nI (10 - s)) p17) = k4 M' (hu + v) (nI (p + 1)) ∧ LK S0 M0 S' M' T X np nf nx' nl yr := by
      intro b1 b2
      refine ⟨nI (10 - s), S', M', nx, ?_, by rw [b2]; exact e2, e3⟩
      rw [b1, Option.bind_some]
      exact e1
    rcases l3 with rfl | ⟨q, hq, rfl, hqp, sq, esq, hsq, hk⟩
    · refine no ?_ ?_
      · unfold cSeason_borrow
        rw [l1, Option.bind_some, if_pos (by decide)]
      · rw [l2, Option.bind_some, ite_self]
    · by_cases cn : nx < 20
      · obtain ⟨S2, S', M', f1, f2, f3, f4⟩ := eat_yes h hp hq hqp es (k := 10 - s) (by omega) (by omega) l1 esq hsq (by omega) cn hu k4
        refine ⟨0, S', M', nx + 1, ?_, ?_, f4⟩
        · rw [f1, Option.bind_some]
          exact f2
        · rw [h.1.n2, if_neg (show ¬ (20 : Int32) ≤ nI nx from nle (n := 20) cn (by decide)), l2, Option.bind_some, f3, Int32.add_zero]
      · refine no ?_ ?_
        · unfold cSeason_borrow
          rw [l1, Option.bind_some, if_neg (nI_pos (by omega)), h.1.s2, if_neg (show ¬ nI nx < 20 from nI_nlt (b := 20) (by omega) (by omega))]
        · rw [h.1.n2, if_pos (show (20 : Int32) ≤ nI nx from nI_le (a := 20) (by omega) (by omega))]
end Season
