/-! ===== sheets ===== -/
theorem cpy_fo {M : SS} (x0 y0 c d n : Nat) (hd : x0 ≠ y0 ∨ d + n ≤ c ∨ c + n ≤ d) : ∀ k, k ≤ n → fo (fun (A : SS) i => up A x0 (c + i) (A y0 (d + i))) k 0 M = fun x j => if x = x0 ∧ c ≤ j ∧ j < c + k then M y0 (d + (j - c)) else M x j := by
  intro k
  induction k with
  | zero =>
    intro _
    funext x j
    rw [if_neg (by omega)]
    rfl
  | succ k ih =>
    intro hk
    rw [fo_last, ih (by omega)]
    funext x j
    rw [Nat.zero_add]
    unfold up
    dsimp only
    by_cases e : x = x0 ∧ j = c + k
    · rw [if_pos e, if_neg (by omega), if_pos (by omega), show d + (j - c) = d + k by omega]
    · rw [if_neg e]
      by_cases e2 : x = x0 ∧ c ≤ j ∧ j < c + k
      · rw [if_pos e2, if_pos (by omega)]
      · rw [if_neg e2, if_neg (by omega)]
theorem zer_fo {M : SS} (x0 c : Nat) (v : Int32) : ∀ k, fo (fun (A : SS) i => up A x0 (c + i) v) k 0 M = fun x j => if x = x0 ∧ c ≤ j ∧ j < c + k then v else M x j := by
  intro k
  induction k with
  | zero =>
    funext x j
    rw [if_neg (by omega)]
    rfl
  | succ k ih =>
    rw [fo_last, ih]
    funext x j
    rw [Nat.zero_add]
    unfold up
    dsimp only
    by_cases e : x = x0 ∧ j = c + k
    · rw [if_pos e, if_pos (by omega)]
    · rw [if_neg e]
      by_cases e2 : x = x0 ∧ c ≤ j ∧ j < c + k
      · rw [if_pos e2, if_pos (by omega)]
      · rw [if_neg e2, if_neg (by omega)]
theorem Rel.sheet {S S' : SS} {K : KS} {T : TS} {X : XS} {M M' : SS} (h : Rel S K T X M) (hS : ∀ x, (x < 146 ∨ 154 ≤ x) → S' x = S x) (hM : ∀ x, ¬ (168 ≤ x ∧ x < 172) → M' x = M x) (hs : SH S' M') : Rel S' K T X M' := by
  obtain ⟨r1, ⟨r2, r3⟩, r4, r5, r6, r7, r8, r9⟩ := h
  refine ⟨?_, ⟨?_, ?_⟩, ?_, hs, ?_, ?_, ?_, r9⟩
  · rw [hM 155 (by decide)]
    exact r1.frame (fun x g1 g2 => hS x (by omega)) (fun x g1 g2 => hS x (by omega))
  · rw [hS 8 (by omega), hM 154 (by decide)]
    exact r2
  · rw [hS 8 (by omega), hM 156 (by decide)]
    rcases r3 with r3 | ⟨r3, r3'⟩
    · exact Or.inl r3
    · exact Or.inr ⟨r3, r3'.frame (fun x g1 g2 => hS x (by omega)) (fun x g1 g2 => hS x (by omega))⟩
  · rw [hS 8 (by omega), hM 154 (by decide)]
    exact r4
  · obtain ⟨n, a1, a2, a3, a4⟩ := r6
    refine ⟨n, a1, by rw [hS 137 (by omega)]; exact a2, by rw [hM 154 (by decide)]; exact a3, ?_⟩
    rw [hS 138 (by omega), hM 160 (by decide)]
    exact a4
  · unfold CN
    rw [hM 161 (by decide), hM 162 (by decide)]
    exact r7
  · unfold TH
    rw [hS 143 (by omega)]
    exact r8
theorem Rel.sh {S : SS} {K : KS} {T : TS} {X : XS} {M : SS} (h : Rel S K T X M) : SH S M := h.2.2.2.1
theorem missing_eq (S : SS) (x : Nat) : cSheet_isMissing S x = some (decide (S x 1 = 0)) := by
  unfold cSheet_isMissing
  by_cases h : S x 1 = 0
  · rw [if_pos h, decide_eq_true h]
  · rw [if_neg h, decide_eq_false h]
theorem sim_sheet (S : SS) (K : KS) (T : TS) (X : XS) (M : SS) (z0 z1 z2 : Int32) (hR : Rel S K T X M) : ∃ p q, cD_sheet S z0 z1 z2 = some p ∧ rM_sheet M z0 z1 z2 = some q ∧ p.1 = q.1 ∧ Rel p.2 K T X q.2 := by
  have hs := hR.sh
  unfold cD_sheet rM_sheet cD_sheet_J29 rM_sheet_J29
  simp only [Option.bind_some, cD_isSheet_eq, rM_isSheet_eq, found_eq, finds_eq]
  by_cases h1 : inb z0 4
  · have hl := inb_lt h1
    have hix : z0 = nI (ix z0) := inb_nI h1
    simp only [decide_eq_true h1, if_true]
    have main : ∃ p q, cD_sheet_J36 S z0 z1 z2 = some p ∧ rM_sheet_J36 M z0 z1 z2 = some q ∧ p.1 = q.1 ∧ Rel p.2 K T X q.2 := by
      unfold cD_sheet_J36 rM_sheet_J36
      simp only [found_eq, finds_eq, Option.bind_some]
      by_cases c1 : 0 ≤ z2
      · by_cases c2 : z2 ≤ 20
        · simp only [if_pos c1, if_pos c2, if_pos h1]
          have key : ∀ v : Int32, inb v 21 → ∃ p q, cD_sheet_J76 S z0 (146 + 2 * ix z0) z1 v = some p ∧ rM_sheet_J81 (up M 168 (ix z0) z1) z0 z0 v = some q ∧ p.1 = q.1 ∧ Rel p.2 K T X q.2 := by
            intro v hv
            unfold cD_sheet_J76 cSheet_begin cFill rM_sheet_J81
            simp only [Option.bind_some, if_pos h1]
            have hloop : rM_sheet_L85 FU (up (up M 168 (ix z0) z1) 169 (ix z0) v) z0 0 = some ((fun A : SS => (A 169 (ix z0), A)) (fo (fun (A : SS) i => up A 170 (20 * ix z0 + i) 0) 20 0 (up (up M 168 (ix z0) z1) 169 (ix z0) v))) := by
              refine loop_0' (fun f A i => rM_sheet_L85 f A z0 i) (fun (A : SS) i => up A 170 (20 * ix z0 + i) 0) 20 (fun A => (A 169 (ix z0), A)) (by decide) (fun f i A hi => ?_) (fun f A => ?_) _
              · have e : (20 : Int32) * z0 + nI i = nI (20 * ix z0 + i) := by
                  obtain ⟨q, hq, rfl⟩ := inb_ex h1
                  rw [nI_ix (by omega), show (20 : Int32) = nI 20 from rfl, pk_mul, nI_add]
                show rM_sheet_L85 (f + 1) A z0 (nI i) = _
                rw [rM_sheet_L85, if_neg (show ¬ (20 : Int32) ≤ nI i from nle (n := 20) hi (by decide)), e, if_pos (nI_inb (by omega) (by decide)), nI_ix (by omega), nI_1]
              · show rM_sheet_L85 (f + 1) A z0 (nI 20) = _
                rw [rM_sheet_L85, if_pos (show (20 : Int32) ≤ nI 20 by decide), if_pos h1]
            rw [hloop, zer_fo]
            refine ⟨_, _, rfl, rfl, ?_, hR.sheet (fun x hx => funext fun j => ?_) (fun x hx => funext fun j => ?_) (fun s hs4 => ?_)⟩
            · dsimp only
              rw [if_neg (by omega), if_neg (by omega), up_s, up_s]
            · dsimp only
              rw [if_neg (by omega), up_x (by omega), up_x (by omega)]
            · dsimp only
              rw [if_neg (by omega), up_x (by omega), up_x (by omega)]
            · dsimp only
              by_cases es : s = ix z0
              · subst es
                rw [if_neg (by omega), if_neg (by omega), if_neg (by omega), if_neg (by omega), up_j (show 1 ≠ 2 by decide), up_s, up_s, up_x (show 168 ≠ 169 by decide), up_s, up_s]
                refine ⟨rfl, rfl, hv, fun j hj => ?_⟩
                rw [if_pos (by omega), if_pos (by omega)]
              · obtain ⟨a1, a2, a3, a4⟩ := hs s hs4
                have q1 : ∀ j, up (up S (146 + 2 * ix z0) 1 z1) (146 + 2 * ix z0) 2 v (146 + 2 * s) j = S (146 + 2 * s) j := fun j => by rw [up_x (by omega), up_x (by omega)]
                have q2 : up (up M 168 (ix z0) z1) 169 (ix z0) v 168 s = M 168 s := by rw [up_x (by decide), up_j es]
                have q3 : up (up M 168 (ix z0) z1) 169 (ix z0) v 169 s = M 169 s := by rw [up_j es, up_x (by decide)]
                rw [if_neg (by omega), if_neg (by omega), if_neg (by omega), if_neg (by omega), q1, q1, q2, q3]
                refine ⟨a1, a2, a3, fun j hj => ?_⟩
                rw [if_neg (by omega), if_neg (by omega), up_x (by omega), up_x (by omega), up_x (by omega), up_x (by omega)]
                exact a4 j hj
          by_cases c3 : z1 = 0
          · simp only [if_pos c3]
            exact key 0 (by decide)
          · simp only [if_neg c3]
            exact key z2 ((inb_lit (by decide)).mp ⟨c1, c2⟩)
        · simp only [if_pos c1, if_neg c2]
          exact ⟨_, _, rfl, rfl, rfl, hR.fnd⟩
      · simp only [if_neg c1]
        exact ⟨_, _, rfl, rfl, rfl, hR.fnd⟩
    by_cases d0 : z1 = 0
    · simp only [if_pos d0]; exact main
    by_cases d1 : z1 = 8
    · simp only [if_neg d0, if_pos d1]; exact main
    by_cases d2 : z1 = 16
    · simp only [if_neg d0, if_neg d1, if_pos d2]; exact main
    by_cases d3 : z1 = 32
    · simp only [if_neg d0, if_neg d1, if_neg d2, if_pos d3]; exact main
    simp only [if_neg d0, if_neg d1, if_neg d2, if_neg d3]
    exact ⟨_, _, rfl, rfl, rfl, hR.fnd⟩
  · simp only [decide_eq_false h1, Bool.false_eq_true, if_false]
    exact ⟨_, _, rfl, rfl, rfl, hR.fnd⟩
theorem sim_put (S : SS) (K : KS) (T : TS) (X : XS) (M : SS) (z0 z1 z2 : Int32) (hR : Rel S K T X M) : ∃ p q, cD_put S z0 z1 z2 = some p ∧ rM_put M z0 z1 z2 = some q ∧ p.1 = q.1 ∧ Rel p.2 K T X q.2 := by
  have hs := hR.sh
  unfold cD_put rM_put
  simp only [Option.bind_some, cD_isSheet_eq, rM_isSheet_eq, found_eq, finds_eq]
  by_cases h1 : inb z0 4
  · have hl := inb_lt h1
    obtain ⟨a1, a2, a3, a4⟩ := hs (ix z0) hl
    obtain ⟨n, hn, en⟩ := inb_ex a3
    simp only [decide_eq_true h1, if_true, if_pos h1, missing_eq, Option.bind_some, a1, a2, within_eq, in_eq]
    by_cases c : M 168 (ix z0) = 0
    · simp only [decide_eq_true c, if_true, if_pos c]
      exact ⟨_, _, rfl, rfl, rfl, hR.fnd⟩
    · simp only [decide_eq_false c, Bool.false_eq_true, if_false, if_neg c]
      by_cases c2 : 0 ≤ z1 ∧ z1 ≤ M 169 (ix z0) - 1
      · have hz : inb z1 n := (inb_iff en (by omega)).mp c2
        have hz20 := inb_mono hz (show n ≤ 20 by omega)
        have hzl := inb_lt hz20
        have e : (20 : Int32) * z0 + z1 = nI (20 * ix z0 + ix z1) := by
          obtain ⟨q, hq, rfl⟩ := inb_ex h1
          obtain ⟨q2, hq2, rfl⟩ := inb_ex hz
          rw [nI_ix (by omega), nI_ix (by omega), show (20 : Int32) = nI 20 from rfl, pk_mul, nI_add]
        simp only [decide_eq_true c2, if_true]
        have key : ∀ v : Int32, ∃ p q, ((cSheet_write_J34 S (146 + 2 * ix z0) z1 v).bind fun p8 => some ((0 : Int32), p8)) = some p ∧ rM_put_J96 M (20 * z0 + z1) v = some q ∧ p.1 = q.1 ∧ Rel p.2 K T X q.2 := by
          intro v
          unfold cSheet_write_J34 rM_put_J96
          rw [if_pos hz20, e, if_pos (nI_inb (by omega) (by decide)), nI_ix (by omega)]
          refine ⟨_, _, rfl, rfl, rfl, hR.sheet (fun x hx => up_o (by omega)) (fun x hx => up_o (by omega)) (fun s hs4 => ?_)⟩
          obtain ⟨b1, b2, b3, b4⟩ := hs s hs4
          dsimp only
          rw [up_x (by omega), up_x (by omega), up_x (by omega), up_x (by omega)]
          refine ⟨b1, b2, b3, fun j hj => ?_⟩
          by_cases es : s = ix z0 ∧ j = ix z1
          · obtain ⟨rfl, rfl⟩ := es
            rw [show 147 + 2 * ix z0 = 146 + 2 * ix z0 + 1 by omega, up_s, up_s]
          · rw [up_n (by omega), up_j (by omega)]
            exact b4 j hj
        unfold cSheet_write
        rw [a1]
        by_cases d1 : M 168 (ix z0) = 8
        · simp only [if_pos d1]; exact key _
        · by_cases d2 : M 168 (ix z0) = 16
          · simp only [if_neg d1, if_pos d2]; exact key _
          · simp only [if_neg d1, if_neg d2]; exact key _
      · simp only [decide_eq_false c2, Bool.false_eq_true, if_false]
        exact ⟨_, _, rfl, rfl, rfl, hR.fnd⟩
  · simp only [decide_eq_false h1, Bool.false_eq_true, if_false]
    exact ⟨_, _, rfl, rfl, rfl, hR.fnd⟩
