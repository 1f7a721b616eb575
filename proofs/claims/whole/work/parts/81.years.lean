/-! ===== the year whole: year, years ===== -/
theorem lf50 {c : Int32} : (50 : Int32) - c = 50 ↔ c = 0 := by
  constructor
  · intro h
    have h2 : (50 : Int32) - (50 - c) = 50 - 50 := by rw [h]
    have h3 : (50 : Int32) - (50 - c) = c := by
      rw [Int32.sub_eq_add_neg, Int32.neg_sub, Int32.add_comm, Int32.sub_add_cancel]
    rw [h3, Int32.sub_self] at h2
    exact h2
  · intro h
    rw [h]
    rfl
section Year
variable {S0 M0 S M : SS} {T : TS} {X : XS} {np nf nx nl yr : Nat}
theorem st_harv (h : LK S0 M0 S M T X np nf nx nl yr) {t : Nat} (ht : t < 31) : ∃ A B, cSeason_goBy S T X (nI t) = cSeason_goBy_L59 T X FU A 0 0 ∧ rM_harvests M (nI t) = some B ∧ LK S0 M0 A B T X np nf nx nl yr := by
  have hc := h.1.cp
  unfold cSeason_goBy rM_harvests
  exact loop_20 (fun f A i => cSeason_goBy_L2 T X f A (nI t) i) (fun g B i => rM_harvests_L2 g B (nI t) i) nf (fun A => cSeason_goBy_L59 T X FU A 0 0) (fun B => some B) (fun _ A B => LK S0 M0 A B T X np nf nx nl yr) (by omega) (fun f g x A B hx hI => by
    have h8 : inb (nI x) 8 := nI_inb (by omega) (by decide)
    have hix : ix (nI x) = x := nI_ix (by omega)
    show ∃ a' b', cSeason_goBy_L2 T X (f + 1) A (nI t) (nI x) = cSeason_goBy_L2 T X f a' (nI t) (nI (x + 1)) ∧ rM_harvests_L2 (g + 1) B (nI t) (nI x) = rM_harvests_L2 g b' (nI t) (nI (x + 1)) ∧ _
    obtain ⟨w, hw, ew⟩ := inb_ex (hI.1.okf hx 0 (by decide) : inb (B 155 (150 + 4 * x + 0)) 100)
    have hz : inb (B 155 (150 + 4 * x + 2)) np := hI.1.okf hx 2 (by decide)
    have e1 : A (31 + x) 1 = nI w := (hI.1.f hx 0 (by decide)).trans ew
    have e2 : A (31 + x) 2 = B 155 (150 + 4 * x + 2) := hI.1.f hx 2 (by decide)
    have hwt : w * t < 100 * 31 := Nat.mul_lt_mul'' hw ht
    have ed : nI w * nI t / 10 = nI (w * t / 10) := by
      rw [pk_mul]
      exact pk_div (d := 10) (by omega) (by decide) (by decide)
    obtain ⟨S', M', g1, g2, g3, _⟩ := st_bring hI hz (n := nI (w * t / 10)) (nI_inb (by omega) (by decide))
    refine ⟨S', M', ?_, ?_, g3⟩
    · rw [cSeason_goBy_L2, hI.1.s1, if_neg (nle hx (by omega)), if_pos h8, hix, e1, e2, ed, g1, Option.bind_some, nI_1]
    · rw [rM_harvests_L2, hI.1.n1, if_neg (nle hx (by omega)), rM_ofField_2 h8, rM_ofField_0 h8, hix, Option.bind_some, Option.bind_some, ew, ed, g2, Option.bind_some, nI_1]) (fun f g A B hI => ⟨by
    show cSeason_goBy_L2 T X (f + 1) A (nI t) (nI nf) = _
    rw [cSeason_goBy_L2, hI.1.s1, if_pos (Int32.le_refl _)], by
    show rM_harvests_L2 (g + 1) B (nI t) (nI nf) = _
    rw [rM_harvests_L2, hI.1.n1, if_pos (Int32.le_refl _)]⟩) S M h
theorem st_eats (h : LK S0 M0 S M T X np nf nx nl yr) : ∃ A B v nx', cSeason_goBy_L59 T X FU S 0 0 = cSeason_goBy_L101 T X FU A v 0 ∧ rM_allEat M = some (v, B) ∧ LK S0 M0 A B T X np nf nx' nl yr := by
  have hc := h.1.cp
  unfold rM_allEat
  obtain ⟨a, b, e1, e2, e3, nx', e4⟩ := loop_20 (α := SS × Int32) (β := SS × Int32) (fun f a i => cSeason_goBy_L59 T X f a.1 a.2 i) (fun g b i => rM_allEat_L4 g b.1 b.2 i) np (fun a => cSeason_goBy_L101 T X FU a.1 a.2 0) (fun b => some (b.2, b.1)) (fun _ a b => a.2 = b.2 ∧ ∃ nx', LK S0 M0 a.1 b.1 T X np nf nx' nl yr) (by omega) (fun f g x a b hx hI => by
    obtain ⟨A, hu⟩ := a
    obtain ⟨B, hv⟩ := b
    obtain ⟨rfl, n', hI⟩ : hu = hv ∧ ∃ nx', LK S0 M0 A B T X np nf nx' nl yr := hI
    have h14 : inb (nI x) 14 := nI_inb (by omega) (by decide)
    have hix : ix (nI x) = x := nI_ix (by omega)
    show ∃ (a' b' : SS × Int32), cSeason_goBy_L59 T X (f + 1) A hu (nI x) = cSeason_goBy_L59 T X f a'.1 a'.2 (nI (x + 1)) ∧ rM_allEat_L4 (g + 1) B hu (nI x) = rM_allEat_L4 g b'.1 b'.2 (nI (x + 1)) ∧ _
    rw [cSeason_goBy_L59, hI.1.s0, if_neg (nle hx (by omega)), if_pos h14, hix, hI.1.dead hx, Option.bind_some, rM_allEat_L4, hI.1.n0, if_neg (nle hx (by omega)), mlives_eq (by omega), Option.bind_some]
    cases al (B 155) x
    · rw [if_pos (show (!false) = true from rfl), if_neg (by decide)]
      unfold cSeason_goBy_J93 rM_allEat_J213
      rw [nI_1]
      exact ⟨(A, hu), (B, hu), rfl, rfl, rfl, n', hI⟩
    · rw [if_neg (by decide), if_pos rfl]
      obtain ⟨v, S', M', n2, g1, g2, g3⟩ := st_eat hI hx hu (rM_allEat_L4 g)
      refine ⟨(S', hu + v), (M', hu + v), ?_, g2, rfl, n2, g3⟩
      rw [g1, Option.bind_some]
      unfold cSeason_goBy_J93
      rw [nI_1]) (fun f g a b hI => by
    obtain ⟨_, n', hI⟩ := hI
    constructor
    · show cSeason_goBy_L59 T X (f + 1) a.1 a.2 (nI np) = _
      rw [cSeason_goBy_L59, hI.1.s0, if_pos (Int32.le_refl _)]
    · show rM_allEat_L4 (g + 1) b.1 b.2 (nI np) = _
      rw [rM_allEat_L4, hI.1.n0, if_pos (Int32.le_refl _)]) (S, 0) (M, 0) ⟨rfl, nx, h⟩
  exact ⟨a.1, b.1, a.2, nx', e1, by rw [e3]; exact e2, e4⟩
/-- the end of a year, as the class has it behind its loop over the papers -/
def ys_end (T : TS) (X : XS) (v : Int32) (A : SS) : Option (Int32 × SS) :=
  (cLand_countBy (up A 9 11 ((A 9 11) + (1 : Int32))) (0 : Int32) ((up A 9 11 ((A 9 11) + (1 : Int32))) 9 11)).bind fun p4 =>
      if p4 = 0 then
        (cSeason_strike (up A 9 11 ((A 9 11) + (1 : Int32))) T X).bind fun p6 =>
        some (v, p6)
      else
        some (v, (up A 9 11 ((A 9 11) + (1 : Int32))))
theorem st_duel (h : LK S0 M0 S M T X np nf nx nl yr) (v : Int32) : ∃ A B, cSeason_goBy_L101 T X FU S v 0 = ys_end T X v A ∧ rM_allPay M = some B ∧ LK S0 M0 A B T X np nf nx nl yr := by
  have hc := h.1.cp
  unfold rM_allPay
  exact loop_20 (fun f A i => cSeason_goBy_L101 T X f A v i) (fun g B i => rM_allPay_L2 g B i) nx (fun A => ys_end T X v A) (fun B => some B) (fun _ A B => LK S0 M0 A B T X np nf nx nl yr) (by omega) (fun f g x A B hx hI => by
    have h20 : inb (nI x) 20 := nI_inb (by omega) (by decide)
    have hix : ix (nI x) = x := nI_ix (by omega)
    show ∃ a' b', cSeason_goBy_L101 T X (f + 1) A v (nI x) = cSeason_goBy_L101 T X f a' v (nI (x + 1)) ∧ rM_allPay_L2 (g + 1) B (nI x) = rM_allPay_L2 g b' (nI (x + 1)) ∧ _
    have ea : ∀ w, w < 10 → A (39 + x) w = B 155 (182 + 10 * x + w) := fun w hw => hI.1.a hx w hw
    rw [cSeason_goBy_L101, hI.1.s2, if_neg (nle hx (by omega)), if_pos h20, hix, ea 9 (by decide), ea 6 (by decide), hI.1.s3, rM_allPay_L2, hI.1.n2, if_neg (nle hx (by omega)), isOpen_eq h20, hix, Option.bind_some, rM_of_6 h20, hix, Option.bind_some, hI.1.n3]
    have skip : ∃ a' b', cSeason_goBy_J152 T X (cSeason_goBy_L101 T X f) A v (nI x) = cSeason_goBy_L101 T X f a' v (nI (x + 1)) ∧ rM_allPay_J177 (rM_allPay_L2 g) B (nI x) = rM_allPay_L2 g b' (nI (x + 1)) ∧ LK S0 M0 a' b' T X np nf nx nl yr := by
      unfold cSeason_goBy_J152 rM_allPay_J177
      rw [nI_1]
      exact ⟨A, B, rfl, rfl, hI⟩
    by_cases c1 : B 155 (182 + 10 * x + 9) = 0
    · rw [if_pos c1, decide_eq_true c1, if_pos rfl]
      by_cases c2 : B 155 (182 + 10 * x + 6) ≤ nI yr
      · rw [if_neg (Int32.not_lt.mpr c2), if_pos c2]
        obtain ⟨S', M', g1, g2, g3⟩ := st_due hI hx c1 (rM_allPay_L2 g)
        refine ⟨S', M', ?_, g2, g3⟩
        rw [g1, Option.bind_some]
        unfold cSeason_goBy_J152
        rw [nI_1]
      · rw [if_pos (Int32.not_le.mp c2), if_neg c2]
        exact skip
    · rw [if_neg c1, decide_eq_false c1, if_neg (by decide)]
      exact skip) (fun f g A B hI => ⟨by
    show cSeason_goBy_L101 T X (f + 1) A v (nI nx) = _
    rw [cSeason_goBy_L101, if_pos (by rw [hI.1.s2]; exact Int32.le_refl _)]
    rfl, by
    show rM_allPay_L2 (g + 1) B (nI nx) = _
    rw [rM_allPay_L2, hI.1.n2, if_pos (Int32.le_refl _)]⟩) S M h
theorem st_year (h : LK S0 M0 S M T X np nf nx nl yr) (hy : yr < 400) {t : Int32} (ht : inb t 31) : ∃ v S' M' nx', cSeason_goBy S T X t = some (v, S') ∧ rM_passes M t = some (v, M') ∧ LK S0 M0 S' M' T X np nf nx' nl (yr + 1) := by
  obtain ⟨q, hq, rfl⟩ := inb_ex ht
  have b0 : inb (0 : Int32) 2 := by decide
  obtain ⟨A1, B1, a1, a2, a3⟩ := st_harv h hq
  obtain ⟨A2, B2, v, n2, b1, b2, b3⟩ := st_eats a3
  obtain ⟨A3, B3, c1, c2, c3⟩ := st_duel b3 v
  have L := c3.year hy
  have e9 : A3 9 11 + 1 = nI (yr + 1) := by rw [c3.1.s3, nI_1]
  have e3 : B3 155 3 + 1 = nI (yr + 1) := by rw [c3.1.n3, nI_1]
  have cb : cLand_countBy (up A3 9 11 (nI (yr + 1))) 0 (nI (yr + 1)) = some ((nI (yr + 1) + (up A3 9 11 (nI (yr + 1))) 15 0) - (nI (yr + 1) + (up A3 9 11 (nI (yr + 1))) 15 0) / 50 * 50) := by
    unfold cLand_countBy
    rw [if_pos b0]
    rfl
  rw [a1, b1, c1]
  unfold ys_end rM_passes
  rw [a2, Option.bind_some, b2, Option.bind_some, c2, Option.bind_some, e9, e3, up_s, up_s, cb, Option.bind_some, mleft_eq b0, Option.bind_some, (L.1.sh (show 0 < 2 by decide)).1]
  unfold lf
  show ∃ v_1 S' M' nx', (if (nI (yr + 1) + up B3 155 3 (nI (yr + 1)) 155 (7 + 0)) - (nI (yr + 1) + up B3 155 3 (nI (yr + 1)) 155 (7 + 0)) / 50 * 50 = 0 then _ else _) = some (v_1, S') ∧ (if (50 : Int32) - ((nI (yr + 1) + up B3 155 3 (nI (yr + 1)) 155 (7 + 0)) - (nI (yr + 1) + up B3 155 3 (nI (yr + 1)) 155 (7 + 0)) / 50 * 50) = 50 then _ else _) = some (v_1, M') ∧ _
  generalize (nI (yr + 1) + up B3 155 3 (nI (yr + 1)) 155 (7 + 0)) - (nI (yr + 1) + up B3 155 3 (nI (yr + 1)) 155 (7 + 0)) / 50 * 50 = c
  by_cases hcz : c = 0
  · rw [if_pos hcz, if_pos (lf50.mpr hcz)]
    obtain ⟨S', M', d1, d2, d3⟩ := st_strike L
    exact ⟨v, S', M', n2, by rw [d1, Option.bind_some], by rw [d2, Option.bind_some], d3⟩
  · rw [if_neg hcz, if_neg (fun z => hcz (lf50.mp z))]
    exact ⟨v, _, _, n2, rfl, rfl, L⟩
end Year
theorem sim_year (S : SS) (K : KS) (T : TS) (X : XS) (M : SS) (z0 : Int32) (hR : Rel S K T X M) : ∃ p q, cD_year S T X z0 = some p ∧ rM_year M z0 = some q ∧ p.1 = q.1 ∧ Rel p.2 K T X q.2 := by
  obtain ⟨np, nf, nx, nl, yr, h⟩ := hR.lk
  have hc := h.1.cp
  unfold cD_year rM_year
  rw [cD_isHarvest_eq, in_eq, dec_c (inb_lit (z := z0) (H := 30) (n := 31) (by decide)), h.1.s3, h.1.n3]
  simp only [Option.bind_some, found_eq, finds_eq]
  by_cases h1 : inb z0 31
  · simp only [decide_eq_true h1, if_true]
    by_cases c : yr < 400
    · rw [if_neg (show ¬ (400 : Int32) ≤ nI yr from nle (n := 400) c (by decide)), if_neg (show ¬ nI yr = 400 from fun z => by have := (nI_eq (a := yr) (b := 400) (by omega) (by decide)).mp z; omega)]
      obtain ⟨v, S', M', n', e1, e2, e3⟩ := st_year h c h1
      rw [e1, e2]
      exact ⟨_, _, rfl, rfl, rfl, hR.step e3⟩
    · have : yr = 400 := by omega
      subst this
      rw [if_pos (show (400 : Int32) ≤ nI 400 by decide), if_pos (show nI 400 = (400 : Int32) from rfl)]
      exact ⟨_, _, rfl, rfl, rfl, hR.fnd⟩
  · simp only [decide_eq_false h1, Bool.false_eq_true, if_false]
    exact ⟨_, _, rfl, rfl, rfl, hR.fnd⟩
theorem years_go {S0 M0 : SS} {T : TS} {X : XS} {np nf nl s n : Nat} (hs : s < 4) (hn : n ≤ 20) (e1 : S0 (146 + 2 * s) 2 = nI n) (e2 : M0 169 s = nI n) (e3 : ∀ j, j < 20 → S0 (147 + 2 * s) j = M0 170 (20 * s + j)) : ∀ d i S M nx yr t f g, i + d = n → d < f → d < g → LK S0 M0 S M T X np nf nx nl yr → inb t 31 → ∃ v S' M' nx' yr', cD_years_L38 T X f S (nI s) t (nI i) = some (v, S') ∧ rM_years_L35 g M (nI s) t (nI i) = some (v, M') ∧ LK S0 M0 S' M' T X np nf nx' nl yr' := by
  have h4 : inb (nI s) 4 := nI_inb hs (by decide)
  have hix : ix (nI s) = s := nI_ix (by omega)
  intro d
  induction d with
  | zero =>
    intro i S M nx yr t f g hi hf hg h ht
    obtain ⟨f', rfl⟩ : ∃ f', f = f' + 1 := ⟨f - 1, by omega⟩
    obtain ⟨g', rfl⟩ : ∃ g', g = g' + 1 := ⟨g - 1, by omega⟩
    have e : i = n := by omega
    subst e
    refine ⟨nI i, S, M, nx, yr, ?_, ?_, h⟩
    · rw [cD_years_L38, if_pos h4, hix, h.2.1.2.2.2.2.1 (146 + 2 * s) (by omega) (by omega), e1, if_pos (Int32.le_refl _)]
    · rw [rM_years_L35, if_pos h4, hix, h.2.2.2.2.2.2.2.2.2.2.1, e2, if_pos (Int32.le_refl _)]
  | succ d ih =>
    intro i S M nx yr t f g hi hf hg h ht
    obtain ⟨f', rfl⟩ : ∃ f', f = f' + 1 := ⟨f - 1, by omega⟩
    obtain ⟨g', rfl⟩ : ∃ g', g = g' + 1 := ⟨g - 1, by omega⟩
    have hc := h.1.cp
    have ks := h.2.1.2.2.2.2.1
    have hj : S (146 + 2 * s + 1) i = M 170 (20 * s + i) := by
      rw [show 146 + 2 * s + 1 = 147 + 2 * s by omega, ks (147 + 2 * s) (by omega) (by omega), e3 i (by omega), h.2.2.2.2.2.2.2.2.2.2.2]
    have a2 : (20 : Int32) * nI s + nI i = nI (20 * s + i) := by
      rw [show (20 : Int32) = nI 20 from rfl, pk_mul, nI_add]
    rw [cD_years_L38, if_pos h4, hix, ks (146 + 2 * s) (by omega) (by omega), e1, if_neg (nle (show i < n by omega) (by omega)), h.1.s3, rM_years_L35, if_pos h4, hix, h.2.2.2.2.2.2.2.2.2.2.1, e2, if_neg (nle (show i < n by omega) (by omega)), h.1.n3]
    by_cases c : yr < 400
    · rw [if_neg (show ¬ (400 : Int32) ≤ nI yr from nle (n := 400) c (by decide)), if_neg (show ¬ (400 : Int32) ≤ nI yr from nle (n := 400) c (by decide)), if_pos (nI_inb (show i < 20 by omega) (by decide)), nI_ix (by omega), hj, cD_isHarvest_eq, a2, if_pos (nI_inb (show 20 * s + i < 80 by omega) (by decide)), nI_ix (by omega), in_eq, dec_c (inb_lit (z := M 170 (20 * s + i)) (H := 30) (n := 31) (by decide)), Option.bind_some, Option.bind_some]
      have go : ∀ t', inb t' 31 → ∃ v S' M' nx' yr', cD_years_J88 T X (cD_years_L38 T X f') S (nI s) t' (nI i) = some (v, S') ∧ rM_years_J87 (rM_years_L35 g') M (nI s) (nI i) t' = some (v, M') ∧ LK S0 M0 S' M' T X np nf nx' nl yr' := by
        intro t' ht'
        obtain ⟨v, S', M', n', g1, g2, g3⟩ := st_year h c ht'
        unfold cD_years_J88 rM_years_J87
        rw [g1, g2, Option.bind_some, Option.bind_some, nI_1]
        exact ih (i + 1) S' M' n' (yr + 1) t' f' g' (by omega) (by omega) (by omega) g3 ht'
      by_cases c2 : inb (M 170 (20 * s + i)) 31
      · rw [decide_eq_true c2, if_pos rfl, if_pos rfl]
        exact go _ c2
      · rw [decide_eq_false c2, if_neg (by decide), if_neg (by decide)]
        exact go _ ht
    · rw [if_pos (show (400 : Int32) ≤ nI yr from nI_le (a := 400) (by omega) (by omega)), if_pos (show (400 : Int32) ≤ nI yr from nI_le (a := 400) (by omega) (by omega))]
      exact ⟨nI i, S, M, nx, yr, rfl, rfl, h⟩
theorem sim_years (S : SS) (K : KS) (T : TS) (X : XS) (M : SS) (z0 : Int32) (hR : Rel S K T X M) : ∃ p q, cD_years S T X z0 = some p ∧ rM_years M z0 = some q ∧ p.1 = q.1 ∧ Rel p.2 K T X q.2 := by
  obtain ⟨np, nf, nx, nl, yr, h⟩ := hR.lk
  unfold cD_years rM_years
  rw [cD_isSheet_eq, rM_isSheet_eq, Option.bind_some, Option.bind_some]
  by_cases h1 : inb z0 4
  · obtain ⟨s, hs, rfl⟩ := inb_ex h1
    obtain ⟨a1, a2, a3, a4⟩ := hR.sh s hs
    obtain ⟨n, hn, en⟩ := inb_ex a3
    rw [decide_eq_true h1, if_pos rfl, if_pos rfl, if_pos h1, if_pos h1, nI_ix (by omega), missing_eq, a1, Option.bind_some]
    by_cases c : M 168 s = 0
    · rw [decide_eq_true c, if_pos rfl, if_pos c, found_eq, finds_eq]
      exact ⟨_, _, rfl, rfl, rfl, hR.fnd⟩
    · rw [decide_eq_false c, if_neg (by decide), if_neg c]
      obtain ⟨v, S', M', n', y', e1, e2, e3⟩ := years_go (T := T) (X := X) (np := np) (nf := nf) (nl := nl) hs (show n ≤ 20 by omega) (a2.trans en) en a4 n 0 S M nx yr 10 FU FU (by omega) (by unfold FU; omega) (by unfold FU; omega) h (by decide)
      exact ⟨_, _, e1, e2, rfl, hR.step e3⟩
  · rw [decide_eq_false h1, if_neg (by decide), if_neg (by decide), found_eq, finds_eq]
    exact ⟨_, _, rfl, rfl, rfl, hR.fnd⟩
