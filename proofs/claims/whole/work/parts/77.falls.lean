/-! ===== falls, truly, dress ===== -/
theorem bind_pr {α β : Type} (o : Option (α × β)) : (o.bind fun p => some (p.1, p.2)) = o := by cases o <;> rfl
section Falls
variable {S : SS} {T : TS} {X : XS} {M : SS} {np nf nx nl yr : Nat}
theorem isClause_eq (h : LD S T X (M 155) np nf nx nl yr) {x : Nat} (hx : x < nx) {b : Int32} (hb : inb b 2) (kind word y part : Int32) : ∃ B, (∀ r, r ≠ 166 → B r = M r) ∧ (∀ k, k < 11 → B 166 k = nm (M 155) x kind word y (lf (M 155 (7 + ix b)) y) k) ∧ rM_isClause M (nI x) kind word b y part = if 0 ≤ lwO (M 155) b y nl then rM_isSo B (lwO (M 155) b y nl) part else some (false, M) := by
  have hc := h.cp
  have h20 : inb (nI x) 20 := nI_inb (by omega) (by decide)
  have hix : ix (nI x) = x := nI_ix (by omega)
  have u : ∀ (A : SS) j v k, up A 166 j v 155 k = A 155 k := fun A j v k => up_x (by decide)
  obtain ⟨p, hp, ep⟩ := inb_ex (h.oka hx 1 (by decide) : inb _ np)
  obtain ⟨t, ht, et⟩ := inb_ex (h.oka hx 2 (by decide) : inb _ np)
  have p14 : inb (nI p) 14 := nI_inb (by omega) (by decide)
  have t14 : inb (nI t) 14 := nI_inb (by omega) (by decide)
  have i8 : ix (6 : Int32) = 6 ∧ ix (9 : Int32) = 9 := ⟨rfl, rfl⟩
  unfold rM_isClause
  rw [mlawOf_eq h.n4 hc.2.2.2.1, rM_of_7 h20, hix]
  simp only [Option.bind_some]
  by_cases cl : 0 ≤ lwO (M 155) b y nl
  · simp only [if_pos cl, rM_of_5 h20, rM_of_4 h20, rM_of_3 h20, Option.bind_some, mleft_eq hb, mowed_eq h20, u, hix]
    have go : ∀ v6 v9 : Int32, (v6 = if M 155 (182 + 10 * x + 7) < 0 then 0 else M 155 (150 + 4 * ix (M 155 (182 + 10 * x + 7)) + 0)) → (v9 = if M 155 (182 + 10 * x + 7) < 0 then 0 else M 155 (150 + 4 * ix (M 155 (182 + 10 * x + 7)) + 3)) → ∃ B, (∀ r, r ≠ 166 → B r = M r) ∧ (∀ k, k < 11 → B 166 k = nm (M 155) x kind word y (lf (M 155 (7 + ix b)) y) k) ∧ rM_isClause_J180 (up (up (up (up (up (up (up (up (up M 166 0 kind) 166 1 (y - M 155 (182 + 10 * x + 5))) 166 2 (lf (M 155 (7 + ix b)) y)) 166 3 (M 155 (182 + 10 * x + 3) - M 155 (182 + 10 * x + 4))) 166 4 (M 155 (182 + 10 * x + 4))) 166 5 (M 155 (182 + 10 * x + 3))) 166 6 v6) 166 7 word) 166 8 (M 155 (10 + 10 * p + 4) ||| M 155 (10 + 10 * t + 4))) (nI x) part (lwO (M 155) b y nl) 9 v9 = rM_isSo B (lwO (M 155) b y nl) part := by
      intro v6 v9 e6 e9
      unfold rM_isClause_J180
      rw [if_pos (show inb 9 11 by decide), i8.2]
      simp only [rM_of_5 h20, rM_of_6 h20, Option.bind_some, u, hix]
      refine ⟨_, ?_, ?_, bind_pr _⟩
      · intro r hr
        simp only [up_o hr]
      · refine eleven ?_ ?_ ?_ ?_ ?_ ?_ ?_ ?_ ?_ ?_ ?_
        all_goals simp only [up_i, nm]
        · simp
        · simp
        · simp
        · simp
        · simp
        · simp
        · rw [← e6]
          simp
        · simp
        · rw [ep, et, nI_ix (by omega), nI_ix (by omega)]
          simp
        · rw [← e9]
          simp
        · simp
    have go1 : ∀ v6 v9 : Int32, (v6 = if M 155 (182 + 10 * x + 7) < 0 then 0 else M 155 (150 + 4 * ix (M 155 (182 + 10 * x + 7)) + 0)) → (v9 = if M 155 (182 + 10 * x + 7) < 0 then 0 else M 155 (150 + 4 * ix (M 155 (182 + 10 * x + 7)) + 3)) → (∀ A : SS, A 155 = M 155 → (if 0 ≤ M 155 (182 + 10 * x + 7) then (rM_ofField A (M 155 (182 + 10 * x + 7)) 3).bind fun p17 => rM_isClause_J180 A (nI x) part (lwO (M 155) b y nl) 9 p17 else rM_isClause_J180 A (nI x) part (lwO (M 155) b y nl) 9 0) = rM_isClause_J180 A (nI x) part (lwO (M 155) b y nl) 9 v9) → ∃ B, (∀ r, r ≠ 166 → B r = M r) ∧ (∀ k, k < 11 → B 166 k = nm (M 155) x kind word y (lf (M 155 (7 + ix b)) y) k) ∧ rM_isClause_J119 (up (up (up (up (up (up M 166 0 kind) 166 1 (y - M 155 (182 + 10 * x + 5))) 166 2 (lf (M 155 (7 + ix b)) y)) 166 3 (M 155 (182 + 10 * x + 3) - M 155 (182 + 10 * x + 4))) 166 4 (M 155 (182 + 10 * x + 4))) 166 5 (M 155 (182 + 10 * x + 3))) (nI x) word part (lwO (M 155) b y nl) (M 155 (182 + 10 * x + 7)) 6 v6 = rM_isSo B (lwO (M 155) b y nl) part := by
      intro v6 v9 e6 e9 hf
      obtain ⟨B, b1, b2, b3⟩ := go v6 v9 e6 e9
      refine ⟨B, b1, b2, ?_⟩
      rw [← b3]
      unfold rM_isClause_J119
      rw [if_pos (show inb 6 11 by decide), i8.1]
      simp only [rM_of_1 h20, rM_of_2 h20, Option.bind_some, u, hix, ep, et, rM_own_4 p14, rM_own_4 t14, nI_ix (show p < 2 ^ 31 by omega), nI_ix (show t < 2 ^ 31 by omega)]
      exact hf _ (by simp only [up_o (show (155 : Nat) ≠ 166 by decide)])
    rcases (h.oka hx 7 (by decide) : M 155 (182 + 10 * x + 7) = -1 ∨ inb (M 155 (182 + 10 * x + 7)) nf) with e7 | e7
    · have q := go1 0 0 (by rw [e7, if_pos (by decide)]) (by rw [e7, if_pos (by decide)]) (fun A _ => by rw [e7, if_neg (by decide)])
      rw [if_neg (by rw [e7]; decide)]
      exact q
    · obtain ⟨f, hf, ef⟩ := inb_ex e7
      have f8 : inb (nI f) 8 := nI_inb (by omega) (by decide)
      have q := go1 (M 155 (150 + 4 * f + 0)) (M 155 (150 + 4 * f + 3)) (by rw [ef, if_neg (nI_pos (by omega)), nI_ix (by omega)]) (by rw [ef, if_neg (nI_pos (by omega)), nI_ix (by omega)]) (fun A hA => by rw [ef, if_pos (nI_pos' (by omega)), rM_ofField_3 f8, nI_ix (by omega), hA, Option.bind_some])
      rw [ef] at q ⊢
      rw [if_pos (nI_pos' (by omega)), rM_ofField_0 f8, nI_ix (by omega), Option.bind_some]
      simp only [u]
      exact q
  · rw [if_neg cl]
    obtain ⟨B, hB⟩ : ∃ B : SS, B = fun r k => if r = 166 then nm (M 155) x kind word y (lf (M 155 (7 + ix b)) y) k else M r k := ⟨_, rfl⟩
    refine ⟨B, fun r hr => ?_, fun k hk => ?_, by rw [if_neg cl]⟩
    · funext k
      rw [hB]
      dsimp only
      rw [if_neg hr]
    · rw [hB]
      dsimp only
      rw [if_pos rfl]
theorem comes_eqJ (h : LD S T X (M 155) np nf nx nl yr) (b y c : Int32) : cCourt_comes S T X c b y = if 0 ≤ lwO (M 155) b y nl then cCourt_comes_J33 T X S c (T (59 + ix (lwO (M 155) b y nl)) 0) else some (false, S) := by
  have hc := h.cp
  unfold cCourt_comes
  rw [clawOf_eq h, Option.bind_some]
  rcases lwO_or (M 155) b y nl with e | ⟨q, hq, e⟩
  · rw [e, if_pos (by decide), if_neg (by decide)]
    unfold cCourt_comes_J33
    rw [if_pos rfl]
  · rw [e, if_neg (nI_pos (by omega)), if_pos (nI_inb (by omega) (by decide)), if_pos (nI_pos' (by omega))]
theorem clause_both (h : LD S T X (M 155) np nf nx nl yr) {x part : Nat} (hx : x < nx) (hp : part < 3) {b : Int32} (hb : inb b 2) {kind word y : Int32} (hn : ∀ k, k < 11 → S 134 k = nm (M 155) x kind word y (lf (M 155 (7 + ix b)) y) k) : ∃ r A' B', cCourt_comes S T X (nI part) b y = some (r, A') ∧ rM_isClause M (nI x) kind word b y (nI part) = some (r, B') ∧ (∀ x, x ≠ 135 → A' x = S x) ∧ (∀ x, x ≠ 165 → x ≠ 166 → B' x = M x) := by
  have hc := h.cp
  obtain ⟨B, b1, b2, b3⟩ := isClause_eq h hx hb kind word y (nI part)
  rw [b3, comes_eqJ h]
  rcases lwO_or (M 155) b y nl with e | ⟨q, hq, e⟩
  · rw [e, if_neg (by decide), if_neg (by decide)]
    exact ⟨false, S, M, rfl, rfl, fun _ _ => rfl, fun _ _ _ => rfl⟩
  · rw [e, if_pos (nI_pos' (by omega)), if_pos (nI_pos' (by omega)), nI_ix (by omega)]
    have hL : LD S T X (B 155) np nf nx nl yr := by
      rw [b1 155 (by decide)]
      exact h
    obtain ⟨r, A', B', f1, f2, f3, f4⟩ := so_both hL hq hp (fun k hk => by rw [hn k hk, b2 k hk])
    exact ⟨r, A', B', f1, f2, f3, fun x h1 h2 => by rw [f4 x h1]; exact b1 x h2⟩
theorem judge_both (h : LD S T X (M 155) np nf nx nl yr) {x part : Nat} (hx : x < nx) (hp : part < 3) {b : Int32} (hb : inb b 2) (kind y : Int32) : ∃ v A' B', cCourt_judgeAs S T X (39 + x) kind (nI part) b y = some (v, A') ∧ rM_holds M (nI x) kind b y (nI part) = some (v, B') ∧ (∀ x, x ≠ 134 → x ≠ 135 → A' x = S x) ∧ (∀ x, x ≠ 165 → x ≠ 166 → B' x = M x) := by
  have hc := h.cp
  have h20 : inb (nI x) 20 := nI_inb (by omega) (by decide)
  have hib := inb_lt hb
  unfold cCourt_judgeAs rM_holds cFill
  rw [rM_of_8 h20, nI_ix (by omega), Option.bind_some, Option.bind_some, cleft_eq hb, Option.bind_some]
  obtain ⟨P, hP⟩ : ∃ P : SS, P = fun a b => if a = 134 ∧ b < 11 then 0 else S a b := ⟨_, rfl⟩
  have hP1 : ∀ r, r ≠ 134 → P r = S r := fun r hr => by
    rw [hP]
    funext k
    dsimp only
    rw [if_neg (fun z => hr z.1)]
  have hP2 : ∀ k, k < 11 → P 134 k = 0 := fun k hk => by
    rw [hP]
    dsimp only
    rw [if_pos ⟨rfl, hk⟩]
  rw [← hP, up_o (show (15 : Nat) ≠ 134 by decide), hP1 15 (by decide), (h.sh hib).1]
  generalize hQ : up (up P 134 0 kind) 134 2 (lf (M 155 (7 + ix b)) y) = Q
  have hQ1 : ∀ r, r ≠ 134 → Q r = S r := fun r hr => by rw [← hQ, up_o hr, up_o hr]; exact hP1 r hr
  have hQL : LD Q T X (M 155) np nf nx nl yr := h.fr (fun r hr => hQ1 r (by omega))
  obtain ⟨A, a1, a2, a3⟩ := tellPaper_eq hQL hx (kind := kind) (left := lf (M 155 (7 + ix b)) y) (y := y) (by rw [← hQ, up_j (by decide), up_s]) (by rw [← hQ, up_s]) (by rw [← hQ, up_j (by decide), up_j (by decide)]; exact hP2 6 (by decide)) (by rw [← hQ, up_j (by decide), up_j (by decide)]; exact hP2 9 (by decide))
  have hA1 : ∀ r, r ≠ 134 → A r = S r := fun r hr => by rw [a2 r hr]; exact hQ1 r hr
  have e8 : A (39 + x) 8 = M 155 (182 + 10 * x + 8) := by
    rw [hA1 (39 + x) (by omega)]
    exact h.a hx 8 (by decide)
  rw [a1, Option.bind_some, e8]
  obtain ⟨w, hw, ew⟩ := inb_ex (h.oka hx 8 (by decide) : inb (M 155 (182 + 10 * x + 8)) 3)
  have setw : ∀ (C : SS) (v : Int32), (∀ k, k < 11 → k ≠ 7 → C 134 k = A 134 k) → ∀ k, k < 11 → up C 134 7 v 134 k = nm (M 155) x kind v y (lf (M 155 (7 + ix b)) y) k := by
    intro C v hC k hk
    by_cases k7 : k = 7
    · subst k7
      rw [up_s]
      rfl
    · rw [up_j k7, hC k hk k7, a3 k hk]
      clear hC a3
      revert k7
      revert k
      refine eleven ?_ ?_ ?_ ?_ ?_ ?_ ?_ ?_ ?_ ?_ ?_
      all_goals intro k7
      all_goals first | exact absurd rfl k7 | rfl
  by_cases c2 : w = 2
  · subst c2
    rw [ew, if_pos (show nI 2 = 2 from rfl), if_pos (by decide)]
    have hL1 : LD (up A 134 7 0) T X (M 155) np nf nx nl yr := h.fr (fun r hr => by rw [up_o (by omega)]; exact hA1 r (by omega))
    obtain ⟨r1, A1, B1, f1, f2, f3, f4⟩ := clause_both hL1 hx hp hb (setw A 0 (fun _ _ _ => rfl))
    have f3' : ∀ r, r ≠ 134 → r ≠ 135 → A1 r = S r := fun r h1 h2 => by rw [f3 r h2, up_o h1]; exact hA1 r h1
    have hL2 : LD (up A1 134 7 1) T X (B1 155) np nf nx nl yr := by
      rw [f4 155 (by decide) (by decide)]
      exact h.fr (fun r hr => by rw [up_o (by omega)]; exact f3' r (by omega) (by omega))
    have hs2 : ∀ k, k < 11 → up A1 134 7 1 134 k = nm (B1 155) x kind 1 y (lf (B1 155 (7 + ix b)) y) k := by
      rw [f4 155 (by decide) (by decide)]
      exact setw A1 1 (fun k hk h7 => by rw [f3 134 (by decide), up_j h7])
    obtain ⟨r2, A2, B2, g1, g2, g3, g4⟩ := clause_both hL2 hx hp hb hs2
    simp only [f1, f2, Option.bind_some, bit_eq]
    unfold rM_holds_J57
    simp only [g1, g2, Option.bind_some, bit_eq]
    refine ⟨b2i r1 + b2i r2, A2, B2, rfl, ?_, fun r h1 h2 => by rw [g3 r h2, up_o h1]; exact f3' r h1 h2, fun r h1 h2 => by rw [g4 r h1 h2]; exact f4 r h1 h2⟩
    cases r1 <;> cases r2 <;> rfl
  · have hne : ¬ nI w = 2 := fun z => c2 ((nI_eq (b := 2) (by omega) (by decide)).mp z)
    have hnl : ¬ (2 : Int32) ≤ nI w := nle (n := 2) (by omega) (by decide)
    rw [ew, if_neg hne, if_neg hnl]
    have hL1 : LD A T X (M 155) np nf nx nl yr := h.fr (fun r hr => hA1 r (by omega))
    obtain ⟨r1, A1, B1, f1, f2, f3, f4⟩ := clause_both hL1 hx hp hb a3
    rw [ew] at f2
    simp only [f1, f2, Option.bind_some]
    refine ⟨if r1 = true then 2 else 0, A1, B1, ?_, ?_, fun r h1 h2 => by rw [f3 r h2]; exact hA1 r h1, f4⟩
    · cases r1 <;> rfl
    · cases r1 <;> rfl
theorem judged_eq (h : LD S T X (M 155) np nf nx nl yr) (a b c : Int32) : cD_mayBeJudged S a b c = some (decide (inb a nx ∧ inb b 2 ∧ inb c 401 ∧ ¬ c < M 155 (182 + 10 * ix a + 5))) ∧ rM_isAsked M a b c = some (decide (inb a nx ∧ inb b 2 ∧ inb c 401 ∧ ¬ c < M 155 (182 + 10 * ix a + 5))) := by
  have hc := h.cp
  unfold cD_mayBeJudged rM_isAsked
  rw [cLand_hasPaper_eq h.s2 (by omega), rM_isPaper_eq h.n2 (by omega), cD_isBench_eq, rM_isBench_eq, cD_isYear_eq, rM_isYear_eq]
  simp only [Option.bind_some]
  by_cases h1 : inb a nx
  · have h20 : inb a 20 := inb_mono h1 (by omega)
    have hl := inb_lt h1
    by_cases h2 : inb b 2
    · by_cases h3 : inb c 401
      · simp only [decide_eq_true h1, decide_eq_true h2, decide_eq_true h3, if_true, if_pos h20, rM_of_5 h20, Option.bind_some]
        rw [show S (39 + ix a) 5 = _ from h.a hl 5 (by decide)]
        by_cases h4 : c < M 155 (182 + 10 * ix a + 5)
        · rw [if_pos h4, decide_eq_false (fun z => z.2.2.2 h4)]
          exact ⟨rfl, rfl⟩
        · rw [if_neg h4, decide_eq_true ⟨h1, h2, h3, h4⟩]
          exact ⟨rfl, rfl⟩
      · rw [decide_eq_false (fun z : inb a nx ∧ inb b 2 ∧ inb c 401 ∧ ¬ c < M 155 (182 + 10 * ix a + 5) => h3 z.2.2.1)]
        simp only [decide_eq_true h1, decide_eq_true h2, decide_eq_false h3, if_true, Bool.false_eq_true, if_false]
        exact ⟨trivial, trivial⟩
    · rw [decide_eq_false (fun z : inb a nx ∧ inb b 2 ∧ inb c 401 ∧ ¬ c < M 155 (182 + 10 * ix a + 5) => h2 z.2.1)]
      simp only [decide_eq_true h1, decide_eq_false h2, if_true, Bool.false_eq_true, if_false]
      exact ⟨trivial, trivial⟩
  · rw [decide_eq_false (fun z : inb a nx ∧ inb b 2 ∧ inb c 401 ∧ ¬ c < M 155 (182 + 10 * ix a + 5) => h1 z.1)]
    simp only [decide_eq_false h1, Bool.false_eq_true, if_false]
    exact ⟨trivial, trivial⟩
theorem Rel.court {K : KS} {A' B' : SS} (hR : Rel S K T X M) (h3 : ∀ x, x ≠ 134 → x ≠ 135 → A' x = S x) (h4 : ∀ x, x ≠ 165 → x ≠ 166 → x ≠ 157 → x ≠ 158 → x ≠ 159 → B' x = M x) : Rel A' K T X B' := by
  obtain ⟨np, nf, nx, nl, yr, h⟩ := hR.ld
  refine hR.land ⟨?_, fun x g1 g2 => ?_, ?_, ?_, fun x g1 g2 => ?_, fun x g1 g2 => ?_⟩ ⟨?_, ?_, ?_, ?_, ?_, ?_, ?_, ?_, ?_, ?_⟩ ?_
  · exact h3 8 (by decide) (by decide)
  · exact h3 x (by omega) (by omega)
  · exact h3 138 (by decide) (by decide)
  · rw [h3 137 (by decide) (by decide)]
  · exact h3 x (by omega) (by omega)
  · exact h3 x (by omega) (by omega)
  · rw [h4 154 (by decide) (by decide) (by decide) (by decide) (by decide)]
  · rw [h4 154 (by decide) (by decide) (by decide) (by decide) (by decide)]
  · rw [h4 154 (by decide) (by decide) (by decide) (by decide) (by decide)]
  · exact h4 156 (by decide) (by decide) (by decide) (by decide) (by decide)
  · exact h4 160 (by decide) (by decide) (by decide) (by decide) (by decide)
  · exact h4 161 (by decide) (by decide) (by decide) (by decide) (by decide)
  · exact h4 162 (by decide) (by decide) (by decide) (by decide) (by decide)
  · exact h4 168 (by decide) (by decide) (by decide) (by decide) (by decide)
  · exact h4 169 (by decide) (by decide) (by decide) (by decide) (by decide)
  · exact h4 170 (by decide) (by decide) (by decide) (by decide) (by decide)
  · rw [h4 155 (by decide) (by decide) (by decide) (by decide) (by decide)]
    exact (h.fr (fun r hr => h3 r (by omega) (by omega))).rel
end Falls
theorem sim_falls (S : SS) (K : KS) (T : TS) (X : XS) (M : SS) (z0 z1 z2 : Int32) (hR : Rel S K T X M) : ∃ p q, cD_falls S T X z0 z1 z2 = some p ∧ rM_falls M z0 z1 z2 = some q ∧ p.1 = q.1 ∧ Rel p.2 K T X q.2 := by
  obtain ⟨np, nf, nx, nl, yr, h⟩ := hR.ld
  have hc := h.cp
  unfold cD_falls rM_falls
  rw [(judged_eq h z0 z1 z2).1, (judged_eq h z0 z1 z2).2]
  simp only [Option.bind_some, found_eq, finds_eq]
  by_cases c : inb z0 nx ∧ inb z1 2 ∧ inb z2 401 ∧ ¬ z2 < M 155 (182 + 10 * ix z0 + 5)
  · obtain ⟨x, hx, rfl⟩ := inb_ex c.1
    have h20 : inb (nI x) 20 := nI_inb (by omega) (by decide)
    obtain ⟨v, A', B', e1, e2, e3, e4⟩ := judge_both h hx (part := 0) (by omega) c.2.1 (M 155 (182 + 10 * x + 0)) z2
    simp only [decide_eq_true c, if_true]
    simp only [if_pos h20, rM_of_0 h20, Option.bind_some, nI_ix (show x < 2 ^ 31 by omega)]
    unfold cCourt_judge
    rw [show S (39 + x) 0 = _ from h.a hx 0 (by decide), show cCourt_judgeAs S T X (39 + x) _ 0 z1 z2 = _ from e1, show rM_holds M (nI x) _ z1 z2 0 = _ from e2]
    refine ⟨_, _, rfl, rfl, rfl, ?_⟩
    exact hR.court e3 (fun x h1 h2 _ _ _ => e4 x h1 h2)
  · simp only [decide_eq_false c, Bool.false_eq_true, if_false]
    exact ⟨_, _, rfl, rfl, rfl, hR.fnd⟩
theorem sim_truly (S : SS) (K : KS) (T : TS) (X : XS) (M : SS) (z0 z1 z2 : Int32) (hR : Rel S K T X M) : ∃ p q, cD_truly S T X z0 z1 z2 = some p ∧ rM_truly M z0 z1 z2 = some q ∧ p.1 = q.1 ∧ Rel p.2 K T X q.2 := by
  obtain ⟨np, nf, nx, nl, yr, h⟩ := hR.ld
  have hc := h.cp
  unfold cD_truly rM_truly
  rw [(judged_eq h z0 z1 z2).1, (judged_eq h z0 z1 z2).2]
  simp only [Option.bind_some, found_eq, finds_eq]
  by_cases c : inb z0 nx ∧ inb z1 2 ∧ inb z2 401 ∧ ¬ z2 < M 155 (182 + 10 * ix z0 + 5)
  · obtain ⟨x, hx, rfl⟩ := inb_ex c.1
    have h20 : inb (nI x) 20 := nI_inb (by omega) (by decide)
    obtain ⟨v, A', B', e1, e2, e3, e4⟩ := judge_both h hx (part := 2) (by omega) c.2.1 (M 155 (182 + 10 * x + 0)) z2
    simp only [decide_eq_true c, if_true]
    simp only [if_pos h20, rM_of_0 h20, Option.bind_some, nI_ix (show x < 2 ^ 31 by omega)]
    unfold cCourt_judge
    rw [show S (39 + x) 0 = _ from h.a hx 0 (by decide), show cCourt_judgeAs S T X (39 + x) _ 2 z1 z2 = _ from e1, show rM_holds M (nI x) _ z1 z2 2 = _ from e2]
    refine ⟨_, _, rfl, rfl, rfl, ?_⟩
    exact hR.court e3 (fun x h1 h2 _ _ _ => e4 x h1 h2)
  · simp only [decide_eq_false c, Bool.false_eq_true, if_false]
    exact ⟨_, _, rfl, rfl, rfl, hR.fnd⟩
theorem sim_dress (S : SS) (K : KS) (T : TS) (X : XS) (M : SS) (z0 z1 z2 : Int32) (hR : Rel S K T X M) : ∃ p q, cD_dress S T X z0 z1 z2 = some p ∧ rM_dress M z0 z1 z2 = some q ∧ p.1 = q.1 ∧ Rel p.2 K T X q.2 := by
  obtain ⟨np, nf, nx, nl, yr, h⟩ := hR.ld
  have hc := h.cp
  unfold cD_dress rM_dress cCourt_safeKinds
  rw [(judged_eq h z0 z1 z2).1, (judged_eq h z0 z1 z2).2]
  simp only [Option.bind_some, found_eq, finds_eq]
  by_cases c : inb z0 nx ∧ inb z1 2 ∧ inb z2 401 ∧ ¬ z2 < M 155 (182 + 10 * ix z0 + 5)
  · obtain ⟨x, hx, rfl⟩ := inb_ex c.1
    have h20 : inb (nI x) 20 := nI_inb (by omega) (by decide)
    simp only [decide_eq_true c, if_true]
    simp only [if_pos h20, nI_ix (show x < 2 ^ 31 by omega)]
    obtain ⟨⟨A1, s1⟩, ⟨B1, s2⟩, f1, f2, f3⟩ := loop_20 (fun f (a : SS × Int32) i => cCourt_safeKinds_L6 T X f a.1 (39 + x) z1 z2 a.2 i) (fun f (a : SS × Int32) i => rM_dress_L23 f a.1 (nI x) z1 z2 a.2 i) 7 (fun a => some (a.2, a.1)) (fun a => some (a.2, a.1)) (fun _ a b => a.2 = b.2 ∧ (∀ x, x ≠ 134 → x ≠ 135 → a.1 x = S x) ∧ (∀ x, x ≠ 165 → x ≠ 166 → b.1 x = M x)) (by omega) (fun f g i a b hi hI => by
      obtain ⟨i1, i2, i3⟩ := hI
      have hL : LD a.1 T X (b.1 155) np nf nx nl yr := by
        rw [i3 155 (by decide) (by decide)]
        exact h.fr (fun r hr => i2 r (by omega) (by omega))
      obtain ⟨v, A', B', e1, e2, e3, e4⟩ := judge_both hL hx (part := 0) (by omega) c.2.1 (nI i) z2
      refine ⟨(A', a.2 ||| ((if v = 0 then b2i true else b2i false) <<< (nI i &&& 31))), (B', b.2 ||| (if v = 0 then (1 : Int32) <<< (nI i &&& 31) else 0)), ?_, ?_, ?_, fun r h1 h2 => by show A' r = S r; rw [e3 r h1 h2]; exact i2 r h1 h2, fun r h1 h2 => by show B' r = M r; rw [e4 r h1 h2]; exact i3 r h1 h2⟩
      · dsimp only
        rw [cCourt_safeKinds_L6, if_neg (show ¬ (7 : Int32) ≤ nI i from nle (n := 7) hi (by decide)), show cCourt_judgeAs a.1 T X (39 + x) (nI i) 0 z1 z2 = _ from e1, Option.bind_some]
        unfold cCourt_safeKinds_J33
        simp only [bit_eq, Option.bind_some, nI_1]
        by_cases z : v = 0
        · rw [if_pos z, if_pos z]
        · rw [if_neg z, if_neg z]
      · dsimp only
        rw [rM_dress_L23, if_neg (show ¬ (7 : Int32) ≤ nI i from nle (n := 7) hi (by decide)), show rM_holds b.1 (nI x) (nI i) z1 z2 0 = _ from e2, Option.bind_some]
        unfold rM_dress_J53
        simp only [nI_1]
        by_cases z : v = 0
        · rw [if_pos z, if_pos z]
        · rw [if_neg z, if_neg z]
      · dsimp only
        rw [i1]
        by_cases z : v = 0
        · rw [if_pos z, if_pos z]
          rfl
        · rw [if_neg z, if_neg z]
          congr 1
          have : ∀ i, i < 7 → (b2i false) <<< (nI i &&& 31) = 0 := by decide +kernel
          exact this i hi) (fun f g a b hI => ⟨by
      show cCourt_safeKinds_L6 T X (f + 1) a.1 (39 + x) z1 z2 a.2 (nI 7) = _
      rw [cCourt_safeKinds_L6, if_pos (by decide)], by
      show rM_dress_L23 (g + 1) b.1 (nI x) z1 z2 b.2 (nI 7) = _
      rw [rM_dress_L23, if_pos (by decide)]⟩) (S, 0) (M, 0) ⟨rfl, fun _ _ _ => rfl, fun _ _ _ => rfl⟩
    dsimp only at f1 f2 f3
    rw [f1, f2]
    refine ⟨_, _, rfl, rfl, f3.1, ?_⟩
    exact hR.court f3.2.1 (fun x h1 h2 _ _ _ => f3.2.2 x h1 h2)
  · simp only [decide_eq_false c, Bool.false_eq_true, if_false]
    exact ⟨_, _, rfl, rfl, rfl, hR.fnd⟩
