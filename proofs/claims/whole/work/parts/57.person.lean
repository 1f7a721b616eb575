/-! ===== person ===== -/
theorem m1_iff {z : Int32} {n : Nat} (hn : n ≤ 1000) : (-1 ≤ z ∧ z ≤ nI n - 1) ↔ (z = -1 ∨ inb z n) := by
  have e : (nI n - 1).toInt = (n : Int) - 1 := by
    have := pk_sub_toInt (a := n) (b := 1) (by omega) (by decide)
    exact this
  have e1 : z = -1 ↔ z.toInt = -1 := by rw [← Int32.toInt_inj]; rfl
  rw [Int32.le_iff_toInt_le, Int32.le_iff_toInt_le, e, e1]
  show (-1 : Int) ≤ _ ∧ _ ↔ _ ∨ (0 ≤ _ ∧ _)
  omega
theorem cmay_eq {S : SS} {np : Nat} (hs : S 9 7 = nI np) (hn : np ≤ 14) (a b : Int32) : cLand_mayBeParents S a b = some (decide ((a = -1 ∨ inb a np) ∧ (b = -1 ∨ inb b np) ∧ (a = b → a = -1))) := by
  unfold cLand_mayBeParents cLand_mayBeParents_J13 cLand_mayBeParents_J26 cLand_mayBeParents_J36
  simp only [cLand_hasPerson_eq hs (by omega), Option.bind_some]
  by_cases a1 : a = -1
  · by_cases b1 : b = -1
    · simp [a1, b1]
    · by_cases b2 : inb b np
      · simp only [if_pos a1, if_neg b1, decide_eq_true b2, if_true]
        by_cases ab : a = b
        · simp [a1, b2, ab]
        · simp [a1, b1, b2, ab]
      · simp only [if_pos a1, if_neg b1, decide_eq_false b2, Bool.false_eq_true, if_false]
        rw [decide_eq_false]
        intro z
        rcases z.2.1 with z | z
        · exact b1 z
        · exact b2 z
  · by_cases a2 : inb a np
    · simp only [if_neg a1, decide_eq_true a2, if_true]
      by_cases b1 : b = -1
      · have ab : ¬ a = b := fun e => a1 (e.trans b1)
        simp only [if_pos b1, if_neg ab]
        rw [decide_eq_true]
        exact ⟨Or.inr a2, Or.inl b1, fun e => absurd e ab⟩
      · by_cases b2 : inb b np
        · simp only [if_neg b1, decide_eq_true b2, if_true]
          by_cases ab : a = b
          · simp only [if_pos ab]
            rw [decide_eq_false]
            intro z
            exact a1 (z.2.2 ab)
          · simp only [if_neg ab]
            rw [decide_eq_true]
            exact ⟨Or.inr a2, Or.inr b2, fun e => absurd e ab⟩
        · simp only [if_neg b1, decide_eq_false b2, Bool.false_eq_true, if_false]
          rw [decide_eq_false]
          intro z
          rcases z.2.1 with z | z
          · exact b1 z
          · exact b2 z
    · simp only [if_neg a1, decide_eq_false a2, Bool.false_eq_true, if_false]
      rw [decide_eq_false]
      intro z
      rcases z.1 with z | z
      · exact a1 z
      · exact a2 z
theorem birth_iff {b y : Int32} : (-99 ≤ b ∧ b ≤ (if y < 300 then y else 300)) ↔ ((-99 ≤ b ∧ b ≤ 300) ∧ ¬ y < b) := by
  have e3 : (300 : Int32).toInt = 300 := by decide
  by_cases h : y < 300
  · rw [if_pos h, Int32.le_iff_toInt_le, Int32.le_iff_toInt_le, Int32.le_iff_toInt_le, Int32.lt_iff_toInt_lt]
    have := Int32.lt_iff_toInt_lt.mp h
    omega
  · rw [if_neg h, Int32.le_iff_toInt_le, Int32.le_iff_toInt_le, Int32.lt_iff_toInt_lt]
    have := Int32.le_iff_toInt_le.mp (Int32.not_lt.mp h)
    omega
theorem sim_person (S : SS) (K : KS) (T : TS) (X : XS) (M : SS) (z0 z1 z2 z3 : Int32) (hR : Rel S K T X M) : ∃ p q, cD_person S z0 z1 z2 z3 = some p ∧ rM_person M z0 z1 z2 z3 = some q ∧ p.1 = q.1 ∧ Rel p.2 K T X q.2 := by
  obtain ⟨np, nf, nx, nl, yr, h⟩ := hR.ld
  have hc := h.cp
  unfold cD_person rM_person cD_person_J46 rM_person_J75 rM_person_J63
  simp only [within_eq, in_eq, found_eq, finds_eq, cmay_eq h.s0 hc.1, Option.bind_some, h.n0, h.s0, h.s3, h.n3]
  by_cases c1 : -99 ≤ z0 ∧ z0 ≤ (if nI yr < 300 then nI yr else 300)
  · obtain ⟨d1, d2⟩ := birth_iff.mp c1
    simp only [decide_eq_true c1, decide_eq_true d1, if_true, if_neg d2]
    by_cases c2 : (z1 = -1 ∨ inb z1 np) ∧ (z2 = -1 ∨ inb z2 np) ∧ (z1 = z2 → z1 = -1)
    · have g1 := (m1_iff (n := np) (by omega)).mpr c2.1
      have g2 := (m1_iff (n := np) (by omega)).mpr c2.2.1
      simp only [decide_eq_true c2, decide_eq_true g1, decide_eq_true g2, if_true]
      have eJ : ∀ A B : Option (Int32 × SS), (if z1 < 0 then A else if z1 = z2 then B else A) = A := by
        intro A B
        by_cases hz : z1 < 0
        · rw [if_pos hz]
        · rw [if_neg hz, if_neg (fun e => hz (by rw [c2.2.2 e]; decide))]
      rw [eJ]
      by_cases c3 : 0 ≤ z3 ∧ z3 ≤ 9999
      · simp only [decide_eq_true c3, if_true]
        by_cases h3 : np < 14
        · have e8 : nI np < (14 : Int32) := nI_lt (show np < 14 from h3) (by decide)
          have n8 : ¬ nI np = (14 : Int32) := fun e => by have := (nI_eq (show np < 2 ^ 31 by omega) (show 14 < 2 ^ 31 by decide)).mp e; omega
          have hb : inb (nI np) 14 := nI_inb h3 (by decide)
          have hx : ix (nI np) = np := nI_ix (by omega)
          unfold cPerson_begin
          simp only [if_pos e8, if_neg n8, if_pos hb, rM_makes_0 hb, rM_makes_1 hb, rM_makes_2 hb, rM_makes_3 hb, rM_makes_4 hb, rM_makes_5 hb, rM_makes_6 hb, rM_makes_7 hb, rM_makes_8 hb, rM_makes_9 hb, Option.bind_some, hx]
          have hz3 : inb z3 10000 := (inb_lit (by decide)).mp c3
          refine ⟨_, _, rfl, rfl, ?_, hR.land ((((((((((((kS.refl.up (by omega)).up (by omega)).up (by omega)).up (by omega)).up (by omega)).up (by omega)).up (by omega)).up (by omega)).up (by omega)).up (by omega)).up (by omega))) ((((((((((((kM.refl.up (by omega)).up (by omega)).up (by omega)).up (by omega)).up (by omega)).up (by omega)).up (by omega)).up (by omega)).up (by omega)).up (by omega)).up (by omega))) ?_⟩
          · dsimp only
            rw [up_x (by omega), up_x (by omega), up_x (by omega), up_x (by omega), up_x (by omega), up_x (by omega), up_x (by omega), up_x (by omega), up_x (by omega), up_x (by omega), h.s0]
          · refine (h.addP h3 (fun x j g1 g2 => ?_) ?_ (fun a g1 g2 => ?_) ?_ (fun w hw => ?_)).rel
            · dsimp only
              rw [up_n g1, up_x g2, up_x g2, up_x g2, up_x g2, up_x g2, up_x g2, up_x g2, up_x g2, up_x g2, up_x g2]
            · dsimp only
              rw [up_s, up_x (by omega), up_x (by omega), up_x (by omega), up_x (by omega), up_x (by omega), up_x (by omega), up_x (by omega), up_x (by omega), up_x (by omega), up_x (by omega), h.s0, nI_1]
            · dsimp only
              rw [up_j (by omega), up_j (by omega), up_j (by omega), up_j (by omega), up_j (by omega), up_j (by omega), up_j (by omega), up_j (by omega), up_j (by omega), up_j (by omega), up_j (by omega)]
            · dsimp only
              rw [up_j (by omega), up_j (by omega), up_j (by omega), up_j (by omega), up_j (by omega), up_j (by omega), up_j (by omega), up_j (by omega), up_j (by omega), up_j (by omega), up_s, nI_1]
            · dsimp only
              rw [up_x (show 17 + np ≠ 9 by omega)]
              have hw' : w = 0 ∨ w = 1 ∨ w = 2 ∨ w = 3 ∨ w = 4 ∨ w = 5 ∨ w = 6 ∨ w = 7 ∨ w = 8 ∨ w = 9 := by omega
              have u1 : ∀ (A : SS) (x j j' : Nat) (v : Int32), up A x j v x j' = if j' = j then v else A x j' := by
                intro A x j j' v
                by_cases e : j' = j
                · rw [if_pos e, e, up_s]
                · rw [if_neg e, up_j e]
              have u2 : ∀ a b : Nat, (10 + 10 * np + a = 10 + 10 * np + b) = (a = b) := fun a b => propext ⟨fun e => by omega, fun e => by omega⟩
              simp only [u1, u2]
              rcases hw' with rfl | rfl | rfl | rfl | rfl | rfl | rfl | rfl | rfl | rfl
              · exact ⟨by simp [pv], trivial⟩
              · exact ⟨by simp [pv], by simp; exact c2.1⟩
              · exact ⟨by simp [pv], by simp; exact c2.2.1⟩
              · exact ⟨by simp [pv], trivial⟩
              · exact ⟨by simp [pv], by simp; exact Or.inl rfl⟩
              · exact ⟨by simp [pv], by simp; exact Or.inl rfl⟩
              · exact ⟨by simp [pv], by simp; exact hz3⟩
              · exact ⟨by simp [pv], by simp; exact (by decide : inb 3 51)⟩
              · exact ⟨by simp [pv], trivial⟩
              · exact ⟨by simp [pv], trivial⟩
        · have e8 : np = 14 := by omega
          subst e8
          simp only [if_neg (show ¬ nI 14 < (14 : Int32) by decide), if_pos (show nI 14 = (14 : Int32) from rfl)]
          exact ⟨_, _, rfl, rfl, rfl, hR.fnd⟩
      · simp only [decide_eq_false c3, Bool.false_eq_true, if_false]
        exact ⟨_, _, rfl, rfl, rfl, hR.fnd⟩
    · simp only [decide_eq_false c2, Bool.false_eq_true, if_false]
      refine ⟨_, (-100001, up M 154 3 (M 154 3 + 1)), rfl, ?_, rfl, hR.fnd⟩
      by_cases g1 : -1 ≤ z1 ∧ z1 ≤ nI np - 1
      · simp only [decide_eq_true g1, if_true]
        by_cases g2 : -1 ≤ z2 ∧ z2 ≤ nI np - 1
        · simp only [decide_eq_true g2, if_true]
          have k1 := (m1_iff (n := np) (by omega)).mp g1
          have k2 := (m1_iff (n := np) (by omega)).mp g2
          have k3 : z1 = z2 ∧ ¬ z1 = -1 := by
            refine ⟨Decidable.byContradiction fun e => c2 ⟨k1, k2, fun q => absurd q e⟩, fun e => c2 ⟨k1, k2, fun _ => e⟩⟩
          have hz : ¬ z1 < 0 := by
            rcases k1 with k1 | k1
            · exact absurd k1 k3.2
            · exact Int32.not_lt.mpr (inb_0 k1)
          rw [if_neg hz, if_pos k3.1]
        · simp only [decide_eq_false g2, Bool.false_eq_true, if_false]
      · simp only [decide_eq_false g1, Bool.false_eq_true, if_false]
  · simp only [decide_eq_false c1, Bool.false_eq_true, if_false]
    refine ⟨_, (-100001, up M 154 3 (M 154 3 + 1)), rfl, ?_, rfl, hR.fnd⟩
    by_cases d1 : -99 ≤ z0 ∧ z0 ≤ 300
    · have d2 : nI yr < z0 := Decidable.byContradiction fun e => c1 (birth_iff.mpr ⟨d1, e⟩)
      simp only [decide_eq_true d1, if_true, if_pos d2]
    · simp only [decide_eq_false d1, Bool.false_eq_true, if_false]
