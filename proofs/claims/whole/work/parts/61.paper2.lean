/-! ===== paper ===== -/
section Paper2
variable {S M : SS} {K : KS} {T : TS} {X : XS} {np nf nx nl yr : Nat}
theorem paper_end (hR : Rel S K T X M) (h : LK S M S M T X np nf nx nl yr) {k s d th b t : Int32} (hk : inb k 7) (hb : inb b np) (ht : inb t np) (hs : 1 ≤ s ∧ s ≤ 9999) (hd : nI yr ≤ d ∧ d ≤ 400) (hth : (k = 2 ∨ k = 3 ∨ k = 4) → inb th nf) : ∃ p q, cD_paper_J232 S k s d th b t (decide (k = 2 ∨ k = 3 ∨ k = 4)) = some p ∧ rM_paper_J181 M k s d th b t = some q ∧ p.1 = q.1 ∧ Rel p.2 K T X q.2 := by
  have hc := h.1.cp
  unfold cD_paper_J232 rM_paper_J181
  rw [h.1.s2, h.1.n2]
  by_cases hx : nx < 20
  · have e8 : nI nx < (20 : Int32) := nI_lt (show nx < 20 from hx) (by decide)
    have n8 : ¬ nI nx = (20 : Int32) := fun e => by have := (nI_eq (show nx < 2 ^ 31 by omega) (show 20 < 2 ^ 31 by decide)).mp e; omega
    have e19 : ¬ (19 : Int32) < nI nx := nI_nlt (show nx ≤ 19 by omega) (by decide)
    have np_ : cLand_nextPaper S = some (39 + nx) := by
      unfold cLand_nextPaper
      rw [h.1.s2, if_neg e19, if_pos (nI_inb hx (by decide)), nI_ix (by omega)]
    rw [if_pos e8, if_neg n8, np_, mhasField_eq]
    unfold cPaper_begin cD_paper_J291 rM_paper_J221
    simp only [Option.bind_some]
    have es : inb s 10000 ∧ 0 < s := by
      refine ⟨⟨by have := Int32.le_iff_toInt_le.mp hs.1; simp at this; omega, by have := Int32.le_iff_toInt_le.mp hs.2; simp at this; omega⟩, ?_⟩
      rw [Int32.lt_iff_toInt_lt]
      have := Int32.le_iff_toInt_le.mp hs.1
      simp at this ⊢
      omega
    have ed : inb d 401 := by
      have h1 := Int32.le_iff_toInt_le.mp hd.1
      have h2 := Int32.le_iff_toInt_le.mp hd.2
      rw [nI_toInt (by omega)] at h1
      have e4 : (400 : Int32).toInt = 400 := by decide
      exact ⟨by omega, by omega⟩
    -- the thing that is bound
    have main : ∀ tg : Int32, (tg = -1 ∨ inb tg nf) → ((k = 2 ∨ k = 3 ∨ k = 4) ↔ ¬ tg = -1) → ((k = 3 ∨ k = 4) → tg = th) → ∃ p q, ((cLand_bindNewPaper (up (up (up (up (up (up (up (up (up (up S (39 + nx) 0 k) (39 + nx) 1 b) (39 + nx) 2 t) (39 + nx) 3 s) (39 + nx) 4 0) (39 + nx) 5 (S 9 11)) (39 + nx) 6 d) (39 + nx) 7 (-1)) (39 + nx) 8 2) (39 + nx) 9 0) tg).bind fun p28 => some (p28.1, p28.2)) = some p ∧ ((rM_comes M k b t s d tg 2).bind fun p25 => if k = 3 then rM_paper_J237 p25.2 k th b t p25.1 else if k = 4 then rM_paper_J237 p25.2 k th b t p25.1 else rM_paper_J254 p25.2 k b t p25.1) = some q ∧ p.1 = q.1 ∧ Rel p.2 K T X q.2 := by
      intro tg o7 ox otg
      obtain ⟨MA, m1, m2, m3, m4, m5⟩ := comes_eq h.1.n2 hx k b t s d tg 2
      rw [h.1.n3] at m4
      generalize hS1 : (up (up (up (up (up (up (up (up (up (up S (39 + nx) 0 k) (39 + nx) 1 b) (39 + nx) 2 t) (39 + nx) 3 s) (39 + nx) 4 0) (39 + nx) 5 (S 9 11)) (39 + nx) 6 d) (39 + nx) 7 (-1)) (39 + nx) 8 2) (39 + nx) 9 0) = S1
      have hx1 : ∀ x, x ≠ 39 + nx → S1 x = S x := by
        intro x hx
        rw [← hS1, up_o hx, up_o hx, up_o hx, up_o hx, up_o hx, up_o hx, up_o hx, up_o hx, up_o hx, up_o hx]
      have hv : ∀ j, j < 10 → up S1 (39 + nx) 7 tg (39 + nx) j = pvals k b t s (nI yr) d tg 2 j := by
        intro j hj
        rw [← hS1]
        simp only [u1, h.1.s3]
        have hw' : j = 0 ∨ j = 1 ∨ j = 2 ∨ j = 3 ∨ j = 4 ∨ j = 5 ∨ j = 6 ∨ j = 7 ∨ j = 8 ∨ j = 9 := by omega
        rcases hw' with rfl | rfl | rfl | rfl | rfl | rfl | rfl | rfl | rfl | rfl <;> simp [pvals]
      have hA : LK S M (up (up S1 (39 + nx) 7 tg) 9 9 (nI (nx + 1))) MA T X np nf (nx + 1) nl yr := by
        refine st_add h hx (fun x j g1 g2 => ?_) up_s (fun j hj => ?_) m2 m3 m4 m5 ⟨hk, hb, ht, es, ed, o7, by decide, ox⟩
        · rw [up_n g1, up_x g2, hx1 x g2]
        · rw [up_x (by omega)]
          exact hv j hj
      obtain ⟨S', M', b1, b2, b3⟩ := st_bind hx (by rw [hx1 9 (by omega)]; exact h.1.s2) (by rw [hx1 9 (by omega)]; exact h.1.s1) hv hA ⟨hk, hb, ht⟩ (fun c => by
        have : ¬ tg = -1 := ox.mp (by rcases c with c | c; exact Or.inr (Or.inl c); exact Or.inr (Or.inr c))
        exact o7.resolve_left this)
      have b2' : (if k = 3 then rM_paper_J237 MA k th b t (nI nx) else if k = 4 then rM_paper_J237 MA k th b t (nI nx) else rM_paper_J254 MA k b t (nI nx)) = some (nI nx, M') := by
        by_cases c : k = 3 ∨ k = 4
        · rw [otg c] at b2
          exact b2
        · have c3 : ¬ k = 3 := fun e => c (Or.inl e)
          have c4 : ¬ k = 4 := fun e => c (Or.inr e)
          rw [if_neg c3, if_neg c4] at b2 ⊢
          exact b2
      rw [b1, m1]
      simp only [Option.bind_some]
      rw [b2']
      exact ⟨_, _, rfl, rfl, rfl, hR.step b3⟩
    by_cases c : k = 2 ∨ k = 3 ∨ k = 4
    · have n1 : ¬ th = -1 := fun e => by have := (hth c).1; rw [e] at this; revert this; decide
      rw [decide_eq_true c, if_pos rfl, if_pos rfl]
      exact main th (Or.inr (hth c)) ⟨fun _ => n1, fun _ => c⟩ (fun _ => rfl)
    · rw [decide_eq_false c, if_neg (by decide), if_neg (by decide)]
      exact main (-1) (Or.inl rfl) ⟨fun e => absurd e c, fun e => absurd rfl e⟩ (fun e => absurd (by rcases e with e | e; exact Or.inr (Or.inl e); exact Or.inr (Or.inr e)) c)
  · have e20 : nx = 20 := by omega
    subst e20
    rw [if_neg (show ¬ nI 20 < (20 : Int32) by decide), if_pos (show nI 20 = (20 : Int32) from rfl)]
    exact ⟨_, _, rfl, rfl, rfl, hR.fnd⟩
theorem paper_mid (hR : Rel S K T X M) (h : LK S M S M T X np nf nx nl yr) {k s d th b t : Int32} (hk : inb k 7) (hb : inb b np) (ht : inb t np) (hs : 1 ≤ s ∧ s ≤ 9999) (hd : nI yr ≤ d ∧ d ≤ 400) (hth : (k = 2 ∨ k = 3 ∨ k = 4) → inb th nf) : ∃ p q, cD_paper_J203 S k s d th b t (decide (k = 2 ∨ k = 3 ∨ k = 4)) = some p ∧ rM_paper_J157 M k s d th b t = some q ∧ p.1 = q.1 ∧ Rel p.2 K T X q.2 := by
  have hc := h.1.cp
  have b14 := inb_mono hb hc.1
  have e8 : S (17 + ix b) 6 = M 155 (10 + 10 * ix b + 8) := h.1.p (inb_lt hb) 8 (by decide)
  unfold cD_paper_J203 rM_paper_J157
  by_cases c6 : k = 6
  · rw [if_pos c6, if_pos c6, if_pos b14, isFree_eq, rM_own_8 b14, e8]
    simp only [Option.bind_some]
    by_cases c : M 155 (10 + 10 * ix b + 8) < 0
    · rw [decide_eq_true c, if_pos rfl, if_pos c]
      exact paper_end hR h hk hb ht hs hd hth
    · rw [decide_eq_false c, if_neg (by decide), if_neg c]
      exact ⟨_, _, rfl, rfl, rfl, hR.fnd⟩
  · rw [if_neg c6, if_neg c6]
    exact paper_end hR h hk hb ht hs hd hth
end Paper2
theorem sim_paper (S : SS) (K : KS) (T : TS) (X : XS) (M : SS) (z0 z1 z2 z3 z4 : Int32) (hR : Rel S K T X M) : ∃ p q, cD_paper S z0 z1 z2 z3 z4 = some p ∧ rM_paper M z0 z1 z2 z3 z4 = some q ∧ p.1 = q.1 ∧ Rel p.2 K T X q.2 := by
  obtain ⟨np, nf, nx, nl, yr, h⟩ := hR.lk
  have hc := h.1.cp
  unfold cD_paper rM_paper cD_paper_J79 rM_paper_J64 cD_paper_J132 rM_paper_J115 cD_paper_J154
  simp only [within_eq, in_eq, found_eq, finds_eq, cLand_hasPerson_eq h.1.s0 (show np ≤ 100 by omega), rM_isPerson_eq h.1.n0 (show np ≤ 100 by omega), Option.bind_some, h.1.s3, h.1.n3]
  generalize hb : z1 / 100 = b
  generalize ht : z1 - b * 100 = t
  by_cases c0 : 0 ≤ z0 ∧ z0 ≤ 6
  · simp only [decide_eq_true c0, if_true]
    by_cases c1 : z1 < 0
    · simp only [if_pos c1]
      exact ⟨_, _, rfl, rfl, rfl, hR.fnd⟩
    simp only [if_neg c1]
    by_cases c2 : inb b np
    · simp only [decide_eq_true c2, if_true]
      by_cases c3 : inb t np
      · simp only [decide_eq_true c3, if_true]
        by_cases c4 : 1 ≤ z2 ∧ z2 ≤ 9999
        · simp only [decide_eq_true c4, if_true]
          by_cases c5 : nI yr ≤ z3 ∧ z3 ≤ 400
          · simp only [decide_eq_true c5, if_true]
            by_cases c6 : b = t
            · simp only [if_pos c6]
              exact ⟨_, _, rfl, rfl, rfl, hR.fnd⟩
            have b14 := inb_mono c2 hc.1
            have t14 := inb_mono c3 hc.1
            have eb : S (17 + ix b) 4 = M 155 (10 + 10 * ix b + 3) := h.1.p (inb_lt c2) 3 (by decide)
            have et : S (17 + ix t) 4 = M 155 (10 + 10 * ix t + 3) := h.1.p (inb_lt c3) 3 (by decide)
            simp only [if_neg c6, if_pos b14, if_pos t14, isDead_eq, lives0_eq b14, lives0_eq t14, eb, et, Option.bind_some]
            by_cases c7 : M 155 (10 + 10 * ix b + 3) < 0
            · simp only [decide_eq_true c7, Bool.not_true, Bool.false_eq_true, if_false, if_true]
              by_cases c8 : M 155 (10 + 10 * ix t + 3) < 0
              · simp only [decide_eq_true c8, Bool.not_true, Bool.false_eq_true, if_false, if_true]
                have k7 : inb z0 7 := (inb_lit (by decide)).mp c0
                have ec : (if z0 = 2 then cD_paper_J159 S z0 z2 z3 z4 b t true else if z0 = 3 then cD_paper_J159 S z0 z2 z3 z4 b t true else if z0 = 4 then cD_paper_J159 S z0 z2 z3 z4 b t true else cD_paper_J159 S z0 z2 z3 z4 b t false) = cD_paper_J159 S z0 z2 z3 z4 b t (decide (z0 = 2 ∨ z0 = 3 ∨ z0 = 4)) := by
                  by_cases d2 : z0 = 2
                  · rw [if_pos d2, decide_eq_true (Or.inl d2)]
                  · by_cases d3 : z0 = 3
                    · rw [if_neg d2, if_pos d3, decide_eq_true (Or.inr (Or.inl d3))]
                    · by_cases d4 : z0 = 4
                      · rw [if_neg d2, if_neg d3, if_pos d4, decide_eq_true (Or.inr (Or.inr d4))]
                      · rw [if_neg d2, if_neg d3, if_neg d4, decide_eq_false (fun z => by rcases z with z | z | z; exact d2 z; exact d3 z; exact d4 z)]
                rw [ec, mhasField_eq]
                simp only [Option.bind_some]
                unfold cD_paper_J159 cD_paper_J196 rM_paper_J150
                by_cases d : z0 = 2 ∨ z0 = 3 ∨ z0 = 4
                · simp only [decide_eq_true d, if_true, cLand_hasField_eq h.1.s1 (show nf ≤ 100 by omega), rM_isField_eq h.1.n1 (show nf ≤ 100 by omega), Option.bind_some, found_eq, finds_eq]
                  by_cases f : inb z4 nf
                  · have f8 := inb_mono f hc.2.1
                    have ef : S (31 + ix z4) 2 = M 155 (150 + 4 * ix z4 + 2) := h.1.f (inb_lt f) 2 (by decide)
                    simp only [decide_eq_true f, if_true, if_pos f8, rM_ofField_2 f8, ef, Option.bind_some]
                    by_cases g : M 155 (150 + 4 * ix z4 + 2) = b
                    · simp only [if_pos g]
                      have := paper_mid hR h k7 c2 c3 c4 c5 (fun _ => f)
                      rw [decide_eq_true d] at this
                      exact this
                    · simp only [if_neg g]
                      exact ⟨_, _, rfl, rfl, rfl, hR.fnd⟩
                  · simp only [decide_eq_false f, Bool.false_eq_true, if_false]
                    exact ⟨_, _, rfl, rfl, rfl, hR.fnd⟩
                · simp only [decide_eq_false d, Bool.false_eq_true, if_false]
                  have := paper_mid (th := z4) hR h k7 c2 c3 c4 c5 (fun e => absurd e d)
                  rw [decide_eq_false d] at this
                  exact this
              · simp only [decide_eq_false c8, Bool.not_false, Bool.false_eq_true, if_false, if_true]
                exact ⟨_, _, rfl, rfl, rfl, hR.fnd⟩
            · simp only [decide_eq_false c7, Bool.not_false, Bool.false_eq_true, if_false, if_true]
              exact ⟨_, _, rfl, rfl, rfl, hR.fnd⟩
          · simp only [decide_eq_false c5, Bool.false_eq_true, if_false]
            exact ⟨_, _, rfl, rfl, rfl, hR.fnd⟩
        · simp only [decide_eq_false c4, Bool.false_eq_true, if_false]
          exact ⟨_, _, rfl, rfl, rfl, hR.fnd⟩
      · simp only [decide_eq_false c3, Bool.false_eq_true, if_false]
        exact ⟨_, _, rfl, rfl, rfl, hR.fnd⟩
    · simp only [decide_eq_false c2, Bool.false_eq_true, if_false]
      exact ⟨_, _, rfl, rfl, rfl, hR.fnd⟩
  · simp only [decide_eq_false c0, Bool.false_eq_true, if_false]
    exact ⟨_, _, rfl, rfl, rfl, hR.fnd⟩
