/-! ===== a year goes by: what falls due, what is struck ===== -/
section Due
variable {S0 M0 S M : SS} {T : TS} {X : XS} {np nf nx nl yr : Nat}
theorem pays0_0 (h : LD S T X (M 155) np nf nx nl yr) {x : Nat} (hx : x < nx) (hop : M 155 (182 + 10 * x + 9) = 0) : rM_pays0 M (nI x) 0 = some M := by
  have hc := h.cp
  have h20 : inb (nI x) 20 := nI_inb (by omega) (by decide)
  have hix : ix (nI x) = x := nI_ix (by omega)
  obtain ⟨b, hb, eb⟩ := inb_ex (h.oka hx 1 (by decide) : inb _ np)
  obtain ⟨t, ht, et⟩ := inb_ex (h.oka hx 2 (by decide) : inb _ np)
  have b14 : inb (nI b) 14 := nI_inb (by omega) (by decide)
  have t14 : inb (nI t) 14 := nI_inb (by omega) (by decide)
  obtain ⟨s, hs, es⟩ := inb_ex (h.okp ht 6 (by decide) : inb (M 155 (10 + 10 * t + 6)) 10000)
  have J34 : rM_stores_J34 M (nI t) 0 0 = some M := by
    unfold rM_stores_J34
    rw [rM_own_6 t14, Option.bind_some, rM_makes_6 t14, up_self (by rw [Int32.add_zero]), Option.bind_some, up_self (by rw [Int32.sub_zero, Int32.add_zero])]
  have st : rM_stores M (nI t) 0 = some M := by
    unfold rM_stores rM_stores_J23
    rw [mlives_eq (by omega), Option.bind_some]
    cases al (M 155) t
    · rw [if_neg (by decide), if_pos (Int32.le_refl _)]
      exact J34
    · rw [if_pos rfl, rM_own_6 t14, nI_ix (by omega), es, Option.bind_some, show (9999 : Int32) - nI s = nI (9999 - s) from pk_sub (a := 9999) (by omega)]
      by_cases z : 9999 - s = 0
      · rw [z, if_pos (show nI 0 ≤ 0 by decide)]
        exact J34
      · rw [if_neg (nI_nle (by omega) (by omega))]
        exact J34
  unfold rM_pays0
  rw [rM_of_1 h20, hix, eb, Option.bind_some, Option.bind_some, rM_own_6 b14, Option.bind_some, rM_makes_6 b14, up_self (by rw [Int32.sub_zero]), Option.bind_some, rM_of_2 h20, hix, et, Option.bind_some, st, Option.bind_some, rM_of_4 h20, Option.bind_some, rM_writes_4 h20, up_self (by rw [Int32.add_zero]), Option.bind_some, mowed_eq h20, hix, Option.bind_some, if_neg ?_]
  intro z
  have q := (h.okx hx).2.1 hop
  obtain ⟨m, hm, em⟩ := inb_ex (h.oka hx 3 (by decide) : inb (M 155 (182 + 10 * x + 3)) 10000)
  obtain ⟨n, hn, en⟩ := inb_ex (h.oka hx 4 (by decide) : inb (M 155 (182 + 10 * x + 4)) 10000)
  rw [em, en] at q z
  have q' := (nI_ltI (by omega) (by omega)).mp q
  rw [pk_sub (by omega)] at z
  exact nI_ne0 (by omega) (by omega) z
/-- a pledge that isn't paid -/
theorem st_pledge (h : LK S0 M0 S M T X np nf nx nl yr) {x : Nat} (hx : x < nx) (k2 : SS → Int32 → Option SS) : ∃ S' M', cSeason_fallDue_J39 S (39 + x) = some S' ∧ ((rM_isOpen M (nI x)).bind fun p15 => if p15 = true then (rM_of M (nI x) 0).bind fun p17 => if p17 = (2 : Int32) then (rM_of M (nI x) 7).bind fun p19 => (rM_ofField M p19 2).bind fun p20 => (rM_of M (nI x) 1).bind fun p21 => if p20 = p21 then (rM_of M (nI x) 7).bind fun p23 => (rM_of M (nI x) 2).bind fun p24 => if inb (((150 : Int32) + ((4 : Int32) * p23)) + (2 : Int32)) 10759 then (rM_closes (up M 155 (ix (((150 : Int32) + ((4 : Int32) * p23)) + (2 : Int32))) p24) (nI x) 1).bind fun p26 => rM_allPay_J177 k2 p26 (nI x) else none else rM_allPay_J177 k2 M (nI x) else rM_allPay_J177 k2 M (nI x) else rM_allPay_J177 k2 M (nI x)) = k2 M' (nI (x + 1)) ∧ LK S0 M0 S' M' T X np nf nx nl yr := by
  have hc := h.1.cp
  have h20 : inb (nI x) 20 := nI_inb (by omega) (by decide)
  have hix : ix (nI x) = x := nI_ix (by omega)
  have ea : ∀ w, w < 10 → S (39 + x) w = M 155 (182 + 10 * x + w) := fun w hw => h.1.a hx w hw
  unfold cSeason_fallDue_J39 rM_allPay_J177
  rw [isOpen_eq h20, hix, Option.bind_some, ea 9 (by decide), ea 0 (by decide), nI_1]
  have skip : ∃ S' M', (some S : Option SS) = some S' ∧ k2 M (nI (x + 1)) = k2 M' (nI (x + 1)) ∧ LK S0 M0 S' M' T X np nf nx nl yr := ⟨S, M, rfl, rfl, h⟩
  by_cases c1 : M 155 (182 + 10 * x + 9) = 0
  · rw [if_pos c1, decide_eq_true c1, if_pos rfl, rM_of_0 h20, hix, Option.bind_some]
    by_cases c2 : M 155 (182 + 10 * x + 0) = 2
    · have th : ¬ M 155 (182 + 10 * x + 7) = -1 := (h.1.okx hx).2.2.mp (Or.inl c2)
      have e7 : inb (M 155 (182 + 10 * x + 7)) nf := (show M 155 (182 + 10 * x + 7) = -1 ∨ inb (M 155 (182 + 10 * x + 7)) nf from h.1.oka hx 7 (by decide)).resolve_left th
      obtain ⟨f, hf, ef⟩ := inb_ex e7
      have f8 : inb (nI f) 8 := nI_inb (by omega) (by decide)
      have e2 : S (31 + f) 2 = M 155 (150 + 4 * f + 2) := h.1.f hf 2 (by decide)
      rw [if_pos c2, if_pos c2, ea 7 (by decide), ef, cLand_hasField_eq h.1.s1 (by omega), decide_eq_true (nI_inb hf (by omega)), Option.bind_some, if_pos rfl, if_pos f8, nI_ix (by omega), e2, ea 1 (by decide), ea 2 (by decide), rM_of_7 h20, hix, ef, Option.bind_some, rM_ofField_2 f8, nI_ix (by omega), Option.bind_some, rM_of_1 h20, hix, Option.bind_some, Option.bind_some, rM_of_2 h20, hix, Option.bind_some]
      by_cases c3 : M 155 (150 + 4 * f + 2) = M 155 (182 + 10 * x + 1)
      · have ad : ((150 : Int32) + (4 : Int32) * nI f) + (2 : Int32) = nI (150 + 4 * f + 2) := by
          have := ad3 f8 150 4 2 (by decide)
          rw [nI_ix (by omega)] at this
          exact this
        have L1 := h.F hf 2 (by decide) (show okF np 2 (M 155 (182 + 10 * x + 2)) from h.1.oka hx 2 (by decide))
        obtain ⟨S', M1, g1, g2, g3, g4, g5⟩ := st_end L1 hx (v := 1) (by decide) (by decide)
        rw [if_pos c3, if_pos c3, ad, if_pos (nI_inb (by omega) (by decide)), nI_ix (by omega), show cLand_end (up S (31 + f) 2 (M 155 (182 + 10 * x + 2))) (39 + x) 1 = _ from g1, Option.bind_some, g5]
        have m0 : M1 155 (182 + 10 * x + 0) = 2 := by
          rw [g3 _ (by omega) (by omega), up_j (by omega)]
          exact c2
        have j40 : ∀ a3, rM_closes_J40 M1 (nI x) 1 a3 = some M1 := by
          intro a3
          unfold rM_closes_J40
          rw [if_pos rfl, rM_of_0 h20, hix, m0, Option.bind_some, if_neg (by decide), Option.bind_some, if_neg (by decide)]
        rw [j40, Option.bind_some]
        exact ⟨S', M1, rfl, rfl, g2⟩
      · rw [if_neg c3, if_neg c3]
        exact skip
    · rw [if_neg c2, if_neg c2]
      exact skip
  · rw [if_neg c1, decide_eq_false c1, if_neg (by decide)]
    exact skip
theorem st_due (h : LK S0 M0 S M T X np nf nx nl yr) {x : Nat} (hx : x < nx) (hop : M 155 (182 + 10 * x + 9) = 0) (k2 : SS → Int32 → Option SS) : ∃ S' M', cSeason_fallDue S (39 + x) = some S' ∧ ((rM_of M (nI x) 1).bind fun p6 => (rM_own M p6 6).bind fun p7 => (rM_owed M (nI x)).bind fun p8 => if p8 ≤ p7 then (rM_owed M (nI x)).bind fun p10 => rM_allPay_J79 k2 M (nI x) p10 else (rM_of M (nI x) 1).bind fun p27 => (rM_own M p27 6).bind fun p28 => rM_allPay_J79 k2 M (nI x) p28) = k2 M' (nI (x + 1)) ∧ LK S0 M0 S' M' T X np nf nx nl yr := by
  have hc := h.1.cp
  have h20 : inb (nI x) 20 := nI_inb (by omega) (by decide)
  have hix : ix (nI x) = x := nI_ix (by omega)
  have ea : ∀ w, w < 10 → S (39 + x) w = M 155 (182 + 10 * x + w) := fun w hw => h.1.a hx w hw
  obtain ⟨b, hb, eb⟩ := inb_ex (h.1.oka hx 1 (by decide) : inb (M 155 (182 + 10 * x + 1)) np)
  have b14 : inb (nI b) 14 := nI_inb (by omega) (by decide)
  obtain ⟨s, hs, es⟩ := inb_ex (h.1.okp hb 6 (by decide) : inb (M 155 (10 + 10 * b + 6)) 10000)
  obtain ⟨m, hm, em⟩ := h.1.owe hx
  have e3 : S (17 + b) 3 = nI s := (h.1.p hb 6 (by decide)).trans es
  unfold cSeason_fallDue cPaper_owed
  rw [ea 1 (by decide), ea 3 (by decide), ea 4 (by decide), em, eb, if_pos b14, nI_ix (by omega), h.1.dead hb, Option.bind_some, Option.bind_some, e3, rM_of_1 h20, hix, eb, Option.bind_some, rM_own_6 b14, nI_ix (by omega), es, Option.bind_some, mowed_eq h20, hix, em, Option.bind_some, Option.bind_some, Option.bind_some, rM_own_6 b14, nI_ix (show b < 2 ^ 31 by omega), es, Option.bind_some]
  have hmin : (if nI m < nI s then nI m else nI s) = nI (min m s) ∧ (if nI m ≤ nI s then rM_allPay_J79 k2 M (nI x) (nI m) else rM_allPay_J79 k2 M (nI x) (nI s)) = rM_allPay_J79 k2 M (nI x) (nI (min m s)) := by
    rcases Nat.lt_trichotomy m s with c | c | c
    · rw [if_pos (nI_lt c (by omega)), if_pos (nI_le (by omega) (by omega)), show min m s = m by omega]
      exact ⟨rfl, rfl⟩
    · subst c
      rw [ite_self, if_pos (Int32.le_refl _), show min m m = m by omega]
      exact ⟨rfl, rfl⟩
    · rw [if_neg (nI_nlt (by omega) (by omega)), if_neg (nle c (by omega)), show min m s = s by omega]
      exact ⟨rfl, rfl⟩
  rw [hmin.1, hmin.2]
  unfold rM_allPay_J79 rM_allPay_J100
  rw [rM_of_1 h20, hix, eb, Option.bind_some, mlives_eq (by omega), Option.bind_some]
  cases al (M 155) b
  · rw [if_pos (show (!false) = true from rfl), if_neg (by decide), pays0_0 h.1 hx hop, Option.bind_some]
    exact st_pledge h hx k2
  · rw [if_neg (by decide), if_pos rfl]
    obtain ⟨S1, M1, g1, g2, g3⟩ := st_payOn h (m := min m s) hx (by rw [eb, nI_ix (by omega), es]; exact nI_le (by omega) (by omega)) (by rw [em]; exact nI_le (by omega) (by omega)) (by omega) hop
    rw [g1, g2, Option.bind_some, Option.bind_some]
    exact st_pledge g3 hx k2
theorem LD.setY {N : Nat → Int32} (h : LD S T X N np nf nx nl yr) (hy : yr + 1 ≤ 400) : LD (up S 9 11 (nI (yr + 1))) T X (upN N 3 (nI (yr + 1))) np nf nx nl (yr + 1) := by
  refine ⟨?_, h.2.1.set (a := 3) h.1.1 (by decide), h.2.2.set (by omega) (by omega)⟩
  obtain ⟨hc, _, i0, i1, i2, i3, i4, i7, i8, hP, hF, hA, hL, hX⟩ := h.1
  have hc' := hc
  unfold caps at hc'
  exact ⟨hc, hy, by rw [upN_n (by omega)]; exact i0, by rw [upN_n (by omega)]; exact i1, by rw [upN_n (by omega)]; exact i2, by rw [upN_s], by rw [upN_n (by omega)]; exact i4, by rw [upN_n (by omega)]; exact i7, by rw [upN_n (by omega)]; exact i8, fun q' hq' w' hw' => by rw [upN_n (by omega)]; exact hP q' hq' w' hw', fun q' hq' w' hw' => by rw [upN_n (by omega)]; exact hF q' hq' w' hw', fun q' hq' w' hw' => by rw [upN_n (by omega)]; exact hA q' hq' w' hw', fun q' hq' w' hw' => by rw [upN_n (by omega)]; exact hL q' hq' w' hw', fun q' hq' => by rw [upN_n (by omega), upN_n (by omega), upN_n (by omega), upN_n (by omega), upN_n (by omega)]; exact hX q' hq'⟩
theorem LK.year (h : LK S0 M0 S M T X np nf nx nl yr) (hy : yr + 1 ≤ 400) : LK S0 M0 (up S 9 11 (nI (yr + 1))) (up M 155 3 (nI (yr + 1))) T X np nf nx nl (yr + 1) := by
  refine ⟨?_, h.2.1.up (by omega), h.2.2.up (by omega)⟩
  rw [up_155]
  exact h.1.setY hy
/-- the least of a set -/
theorem least_ex {v : Int32} (h : ∃ q, q < np ∧ bt v q = true) : ∃ q, q < np ∧ bt v q = true ∧ ∀ i, i < q → bt v i = false := by
  induction np with
  | zero => obtain ⟨q, hq, _⟩ := h; omega
  | succ n ih =>
    by_cases c : ∃ q, q < n ∧ bt v q = true
    · obtain ⟨q, h1, h2, h3⟩ := ih c
      exact ⟨q, by omega, h2, h3⟩
    · obtain ⟨q, h1, h2⟩ := h
      have e : q = n := by
        by_cases z : q < n
        · exact absurd ⟨q, z, h2⟩ c
        · omega
      subst e
      refine ⟨q, h1, h2, fun i hi => ?_⟩
      cases hb : bt v i
      · rfl
      · exact absurd ⟨i, hi, hb⟩ c
theorem least_c {v : Int32} {q : Nat} (hq : q < 14) (h1 : bt v q = true) (h2 : ∀ i, i < q → bt v i = false) : cD_leastOf v = some (nI q) := by
  have : ∀ m i f, i + m = q → m < f → cD_leastOf_L2 f v (nI i) = some (nI q) := by
    intro m
    induction m with
    | zero =>
      intro i f hi hf
      obtain ⟨f', rfl⟩ : ∃ f', f = f' + 1 := ⟨f - 1, by omega⟩
      have e : i = q := by omega
      subst e
      rw [cD_leastOf_L2, if_neg (show ¬ ((v >>> (nI i &&& 31)) &&& 1) = 0 from fun z => by rw [(sh_bit v (by omega)).mp z] at h1; cases h1), ite_self]
    | succ m ih =>
      intro i f hi hf
      obtain ⟨f', rfl⟩ : ∃ f', f = f' + 1 := ⟨f - 1, by omega⟩
      rw [cD_leastOf_L2, if_neg (show ¬ (13 : Int32) ≤ nI i from nle (n := 13) (by omega) (by decide)), if_pos ((sh_bit v (by omega)).mpr (h2 i (by omega))), nI_1]
      exact ih (i + 1) f' (by omega) (by omega)
  exact this q 0 FU (by omega) (by unfold FU; omega)
theorem least_m {v : Int32} {q f : Nat} (hq : q < 14) (hf : f < 8) (h1 : bt v q = true) (h2 : ∀ i, i < q → bt v i = false) (k57 : SS → Int32 → Option SS) (M : SS) : rM_strikes_L106 k57 FU M (nI f) v 0 = k57 (up M 155 (150 + 4 * f + 2) (nI q)) (nI (f + 1)) := by
  have f8 : inb (nI f) 8 := nI_inb (by omega) (by decide)
  have ad : ((150 : Int32) + (4 : Int32) * nI f) + (2 : Int32) = nI (150 + 4 * f + 2) := by
    have := ad3 f8 150 4 2 (by decide)
    rw [nI_ix (by omega)] at this
    exact this
  have : ∀ m i g, i + m = q → m < g → rM_strikes_L106 k57 g M (nI f) v (nI i) = k57 (up M 155 (150 + 4 * f + 2) (nI q)) (nI (f + 1)) := by
    intro m
    induction m with
    | zero =>
      intro i g hi hg
      obtain ⟨g', rfl⟩ : ∃ g', g = g' + 1 := ⟨g - 1, by omega⟩
      have e : i = q := by omega
      subst e
      rw [rM_strikes_L106, if_neg (show ¬ ((v >>> (nI i &&& 31)) &&& 1) = 0 from fun z => by rw [(sh_bit v (by omega)).mp z] at h1; cases h1), ad, if_pos (nI_inb (by omega) (by decide)), nI_ix (by omega)]
      unfold rM_strikes_J135
      rw [nI_1]
    | succ m ih =>
      intro i g hi hg
      obtain ⟨g', rfl⟩ : ∃ g', g = g' + 1 := ⟨g - 1, by omega⟩
      rw [rM_strikes_L106, if_pos ((sh_bit v (by omega)).mpr (h2 i (by omega))), nI_1]
      exact ih (i + 1) g' (by omega) (by omega)
  exact this q 0 FU (by omega) (by unfold FU; omega)
theorem st_strike (h : LK S0 M0 S M T X np nf nx nl yr) : ∃ S' M', cSeason_strike S T X = some S' ∧ rM_strikes M = some M' ∧ LK S0 M0 S' M' T X np nf nx nl yr := by
  have hc := h.1.cp
  have b0 : inb (0 : Int32) 2 := by decide
  unfold cSeason_strike rM_strikes
  obtain ⟨A1, B1, e1, e2, e3⟩ := loop_20 (fun f A i => cSeason_strike_L2 T X f A i) (fun f B i => rM_strikes_L2 f B i) nx (fun A => cSeason_strike_L68 T X FU A 0) (fun B => rM_strikes_L57 FU B 0) (fun _ A B => LK S0 M0 A B T X np nf nx nl yr) (by omega) (fun f g x A B hx hI => by
    have h20 : inb (nI x) 20 := nI_inb (by omega) (by decide)
    have hix : ix (nI x) = x := nI_ix (by omega)
    show ∃ a' b', cSeason_strike_L2 T X (f + 1) A (nI x) = cSeason_strike_L2 T X f a' (nI (x + 1)) ∧ rM_strikes_L2 (g + 1) B (nI x) = rM_strikes_L2 g b' (nI (x + 1)) ∧ _
    have ea : ∀ w, w < 10 → A (39 + x) w = B 155 (182 + 10 * x + w) := fun w hw => hI.1.a hx w hw
    rw [cSeason_strike_L2, hI.1.s2, if_neg (nle hx (by omega)), if_pos h20, hix, ea 9 (by decide), rM_strikes_L2, hI.1.n2, if_neg (nle hx (by omega)), isOpen_eq h20, hix, Option.bind_some]
    unfold cSeason_strike_J60 rM_strikes_J49
    rw [nI_1]
    by_cases c1 : B 155 (182 + 10 * x + 9) = 0
    · obtain ⟨v, A', B', j1, j2, j3, j4⟩ := judge_both hI.1 hx (part := 0) (by omega) b0 (B 155 (182 + 10 * x + 0)) (nI yr)
      have LJ := hI.court j3 (fun x h1 h2 _ _ _ => j4 x h1 h2)
      have j1' : cCourt_judge A T X (39 + x) 0 0 (A 9 11) = some (v, A') := by
        unfold cCourt_judge
        rw [ea 0 (by decide), hI.1.s3, show cCourt_judgeAs A T X (39 + x) (B 155 (182 + 10 * x + 0)) 0 0 (nI yr) = _ from j1]
        rfl
      rw [if_pos c1, decide_eq_true c1, if_pos rfl, j1', rM_of_0 h20, hix, Option.bind_some, Option.bind_some, hI.1.n3, show rM_holds B (nI x) (B 155 (182 + 10 * x + 0)) 0 (nI yr) 0 = _ from j2, Option.bind_some]
      by_cases c2 : v = 2
      · obtain ⟨S', M', g1, g2, g3, _⟩ := st_endN LJ hx (v := 2) (by decide) (by decide) (by decide)
        refine ⟨S', M', ?_, ?_, g3⟩
        · rw [if_pos c2, g1, Option.bind_some]
        · rw [if_pos c2, g2, Option.bind_some]
      · exact ⟨A', B', by rw [if_neg c2], by rw [if_neg c2], LJ⟩
    · rw [if_neg c1, decide_eq_false c1, if_neg (by decide)]
      exact ⟨A, B, rfl, rfl, hI⟩) (fun f g A B hI => ⟨by
    show cSeason_strike_L2 T X (f + 1) A (nI nx) = _
    rw [cSeason_strike_L2, hI.1.s2, if_pos (Int32.le_refl _)], by
    show rM_strikes_L2 (g + 1) B (nI nx) = _
    rw [rM_strikes_L2, hI.1.n2, if_pos (Int32.le_refl _)]⟩) S M h
  rw [show cSeason_strike_L2 T X FU S 0 = _ from e1, show rM_strikes_L2 FU M 0 = _ from e2]
  obtain ⟨A2, B2, f1, f2, f3⟩ := loop_20 (fun f A i => cSeason_strike_L68 T X f A i) (fun f B i => rM_strikes_L57 f B i) nf (fun A => some A) (fun B => some B) (fun _ A B => LK S0 M0 A B T X np nf nx nl yr) (by omega) (fun f g x A B hx hI => by
    have h8 : inb (nI x) 8 := nI_inb (by omega) (by decide)
    have hix : ix (nI x) = x := nI_ix (by omega)
    show ∃ a' b', cSeason_strike_L68 T X (f + 1) A (nI x) = cSeason_strike_L68 T X f a' (nI (x + 1)) ∧ rM_strikes_L57 (g + 1) B (nI x) = rM_strikes_L57 g b' (nI (x + 1)) ∧ _
    obtain ⟨r, hr, er⟩ := inb_ex (hI.1.okf hx 1 (by decide) : inb (B 155 (150 + 4 * x + 1)) np)
    have e0 : A (31 + x) 0 = nI r := (hI.1.f hx 1 (by decide)).trans er
    obtain ⟨w, A', B', j1, j2, j3, j4⟩ := back_both hI.1 hx b0 (nI yr)
    have LJ := hI.court j3 j4
    obtain ⟨v, B'', k1, k2, k3, k4⟩ := heirs_both hI.1 hr
    obtain ⟨v2, B3, l1, l2, l3, l4⟩ := heirs_both LJ.1 hr
    have e155 : B' 155 = B 155 := j4 155 (by decide) (by decide) (by decide) (by decide) (by decide)
    have hv : v2 = v := by
      apply b_ext
      intro i hi
      rw [l4 i hi, k4 i hi, e155]
    have LJ3 : LK S0 M0 A' B3 T X np nf nx nl yr := LJ.court (fun _ _ _ => rfl) (fun x _ _ h1 h2 h3 => l3 x h1 h2 h3)
    have o1 : rM_ofField B' (nI x) 1 = some (nI r) := by rw [rM_ofField_1 h8, hix, e155, er]
    rw [cSeason_strike_L68, hI.1.s1, if_neg (nle hx (by omega)), if_pos h8, hix, e0, k1, Option.bind_some, hI.1.s3, j1, Option.bind_some, rM_strikes_L57, hI.1.n1, if_neg (nle hx (by omega)), hI.1.n3, j2, Option.bind_some]
    unfold cSeason_strike_J132
    rw [nI_1]
    by_cases c1 : v = 0
    · rw [if_pos c1]
      cases w
      · refine ⟨A, B', rfl, ?_, hI.court (fun _ _ _ => rfl) j4⟩
        show rM_strikes_J96 (rM_strikes_L57 g) B' (nI x) 0 = _
        unfold rM_strikes_J96 rM_strikes_J135
        rw [if_pos rfl, nI_1]
      · refine ⟨A, B3, rfl, ?_, (hI.court (fun _ _ _ => rfl) j4).court (fun _ _ _ => rfl) (fun x _ _ h1 h2 h3 => l3 x h1 h2 h3)⟩
        rw [if_pos rfl]
        show (rM_ofField B' (nI x) 1).bind _ = _
        rw [o1, Option.bind_some, l2, Option.bind_some]
        unfold rM_strikes_J96 rM_strikes_J135
        rw [if_pos (hv.trans c1), nI_1]
    · rw [if_neg c1]
      cases w
      · refine ⟨A', B', rfl, ?_, LJ⟩
        show rM_strikes_J96 (rM_strikes_L57 g) B' (nI x) 0 = _
        unfold rM_strikes_J96 rM_strikes_J135
        rw [if_pos rfl, nI_1]
      · obtain ⟨q, q1, q2, q3⟩ := least_ex (np := np) (v := v) (Classical.byContradiction fun z => c1 (b_ext fun i hi => by
          rw [b_0]
          cases hb : bt v i
          · rfl
          · have hp := of_decide_eq_true ((k4 i hi).symm.trans hb)
            exact absurd ⟨i, shr_lt 5 r i hr hp, hb⟩ z))
        refine ⟨up A' (31 + x) 2 (nI q), up B3 155 (150 + 4 * x + 2) (nI q), ?_, ?_, LJ3.F hx 2 (by decide) (show okF np 2 (nI q) from nI_inb q1 (by omega))⟩
        · rw [if_pos rfl, least_c (by omega) q2 q3, Option.bind_some]
        · rw [if_pos rfl]
          show (rM_ofField B' (nI x) 1).bind _ = _
          rw [o1, Option.bind_some, l2, Option.bind_some]
          unfold rM_strikes_J96
          rw [if_neg (show ¬ v2 = 0 by rw [hv]; exact c1), hv]
          exact least_m (by omega) (by omega) q2 q3 _ _) (fun f g A B hI => ⟨by
    show cSeason_strike_L68 T X (f + 1) A (nI nf) = _
    rw [cSeason_strike_L68, hI.1.s1, if_pos (Int32.le_refl _)], by
    show rM_strikes_L57 (g + 1) B (nI nf) = _
    rw [rM_strikes_L57, hI.1.n1, if_pos (Int32.le_refl _)]⟩) A1 B1 e3
  exact ⟨A2, B2, f1, f2, f3⟩
end Due
