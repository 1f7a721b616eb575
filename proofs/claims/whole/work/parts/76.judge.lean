/-! ===== what a bench says of a paper, of a field ===== -/
def nm (N : Nat → Int32) (x : Nat) (kind word y left : Int32) (k : Nat) : Int32 := match k with
  | 0 => kind
  | 1 => y - N (182 + 10 * x + 5)
  | 2 => left
  | 3 => N (182 + 10 * x + 3) - N (182 + 10 * x + 4)
  | 4 => N (182 + 10 * x + 4)
  | 5 => N (182 + 10 * x + 3)
  | 6 => if N (182 + 10 * x + 7) < 0 then 0 else N (150 + 4 * ix (N (182 + 10 * x + 7)) + 0)
  | 7 => word
  | 8 => N (10 + 10 * ix (N (182 + 10 * x + 1)) + 4) ||| N (10 + 10 * ix (N (182 + 10 * x + 2)) + 4)
  | 9 => if N (182 + 10 * x + 7) < 0 then 0 else N (150 + 4 * ix (N (182 + 10 * x + 7)) + 3)
  | _ => N (182 + 10 * x + 6) - N (182 + 10 * x + 5)
theorem nm_6 (N : Nat → Int32) (x : Nat) (kind word y left : Int32) : nm N x kind word y left 6 = if N (182 + 10 * x + 7) < 0 then 0 else N (150 + 4 * ix (N (182 + 10 * x + 7)) + 0) := rfl
theorem nm_9 (N : Nat → Int32) (x : Nat) (kind word y left : Int32) : nm N x kind word y left 9 = if N (182 + 10 * x + 7) < 0 then 0 else N (150 + 4 * ix (N (182 + 10 * x + 7)) + 3) := rfl
theorem eleven {P : Nat → Prop} (h0 : P 0) (h1 : P 1) (h2 : P 2) (h3 : P 3) (h4 : P 4) (h5 : P 5) (h6 : P 6) (h7 : P 7) (h8 : P 8) (h9 : P 9) (h10 : P 10) : ∀ k, k < 11 → P k := by
  intro k hk
  have : k = 0 ∨ k = 1 ∨ k = 2 ∨ k = 3 ∨ k = 4 ∨ k = 5 ∨ k = 6 ∨ k = 7 ∨ k = 8 ∨ k = 9 ∨ k = 10 := by omega
  rcases this with rfl | rfl | rfl | rfl | rfl | rfl | rfl | rfl | rfl | rfl | rfl <;> assumption
theorem up_i (S : SS) (x j : Nat) (v : Int32) (a b : Nat) : up S x j v a b = if a = x ∧ b = j then v else S a b := rfl
section Judge
variable {S : SS} {T : TS} {X : XS} {N : Nat → Int32} {np nf nx nl yr : Nat}
theorem tellField_eq (h : LD S T X N np nf nx nl yr) {f : Nat} (hf : f < nf) : cCourt_tellField S (31 + f) = some (up (up S 134 6 (N (150 + 4 * f + 0))) 134 9 (N (150 + 4 * f + 3))) := by
  have hc := h.cp
  have e0 : S (31 + f) 1 = N (150 + 4 * f + 0) := h.f hf 0 (by decide)
  have e3 : S (31 + f) 3 = N (150 + 4 * f + 3) := h.f hf 3 (by decide)
  have hw : N (150 + 4 * f + 3) = 0 ∨ N (150 + 4 * f + 3) = 1 := h.okf hf 3 (by decide)
  unfold cCourt_tellField
  rw [up_x (show 31 + f ≠ 134 by omega), e0, e3, if_pos hw, bit_eq, Option.bind_some]
  rcases hw with hw | hw
  · rw [hw]
    rfl
  · rw [hw]
    rfl
theorem or01 {a b : Int32} (ha : a = 0 ∨ a = 1) (hb : b = 0 ∨ b = 1) : a ||| b = if a = 0 then (if b = 0 then b2i false else b2i true) else b2i true := by
  rcases ha with rfl | rfl <;> rcases hb with rfl | rfl <;> decide
theorem tellPaper_eq (h : LD S T X N np nf nx nl yr) {x : Nat} (hx : x < nx) {kind left y : Int32} (z0 : S 134 0 = kind) (z2 : S 134 2 = left) (z6 : S 134 6 = 0) (z9 : S 134 9 = 0) : ∃ A, cCourt_tellPaper S (39 + x) y = some A ∧ (∀ r, r ≠ 134 → A r = S r) ∧ ∀ k, k < 11 → A 134 k = nm N x kind (N (182 + 10 * x + 8)) y left k := by
  have hc := h.cp
  have u : ∀ (A : SS) j v k, up A 134 j v (39 + x) k = A (39 + x) k := fun A j v k => up_x (by omega)
  have ea : ∀ w, w < 10 → S (39 + x) w = N (182 + 10 * x + w) := fun w hw => h.a hx w hw
  obtain ⟨b, hb, eb⟩ := inb_ex (h.oka hx 1 (by decide) : inb _ np)
  obtain ⟨t, ht, et⟩ := inb_ex (h.oka hx 2 (by decide) : inb _ np)
  have e4b : S (17 + b) 8 = N (10 + 10 * b + 4) := h.p hb 4 (by decide)
  have e4t : S (17 + t) 8 = N (10 + 10 * t + 4) := h.p ht 4 (by decide)
  have ob : N (10 + 10 * b + 4) = 0 ∨ N (10 + 10 * b + 4) = 1 := h.okp hb 4 (by decide)
  have ot : N (10 + 10 * t + 4) = 0 ∨ N (10 + 10 * t + 4) = 1 := h.okp ht 4 (by decide)
  unfold cCourt_tellPaper cPaper_owed
  simp only [Option.bind_some, u, ea 1 (by decide), ea 2 (by decide), ea 3 (by decide), ea 4 (by decide), ea 5 (by decide), ea 8 (by decide), eb, et, nI_ix (show b < 2 ^ 31 by omega), nI_ix (show t < 2 ^ 31 by omega), if_pos (nI_inb (show b < 14 by omega) (show 14 < 2 ^ 31 by decide)), if_pos (nI_inb (show t < 14 by omega) (show 14 < 2 ^ 31 by decide)), up_x (show 17 + b ≠ 134 by omega), up_x (show 17 + t ≠ 134 by omega), e4b, e4t]
  generalize hA : up (up (up (up (up S 134 1 (y - N (182 + 10 * x + 5))) 134 3 (N (182 + 10 * x + 3) - N (182 + 10 * x + 4))) 134 4 (N (182 + 10 * x + 4))) 134 5 (N (182 + 10 * x + 3))) 134 7 (N (182 + 10 * x + 8)) = A
  have hA1 : ∀ r, r ≠ 134 → A r = S r := fun r hr => by rw [← hA, up_o hr, up_o hr, up_o hr, up_o hr, up_o hr]
  have go : ∀ w : Bool, (N (10 + 10 * b + 4) ||| N (10 + 10 * t + 4)) = b2i w → ∃ A', cCourt_tellPaper_J100 A (39 + x) 8 w = some A' ∧ (∀ r, r ≠ 134 → A' r = S r) ∧ ∀ k, k < 11 → A' 134 k = nm N x kind (N (182 + 10 * x + 8)) y left k := by
    intro w hw
    unfold cCourt_tellPaper_J100
    have e8 : ix (8 : Int32) = 8 := rfl
    rw [bit_eq, Option.bind_some, if_pos (show inb 8 11 by decide), e8]
    simp only [u, hA1 (39 + x) (by omega), ea 5 (by decide), ea 6 (by decide), ea 7 (by decide)]
    generalize hB : up (up A 134 8 (b2i w)) 134 10 (N (182 + 10 * x + 6) - N (182 + 10 * x + 5)) = B
    have hB1 : ∀ r, r ≠ 134 → B r = S r := fun r hr => by rw [← hB, up_o hr, up_o hr]; exact hA1 r hr
    have hBL : LD B T X N np nf nx nl yr := h.fr (fun r hr => hB1 r (by omega))
    rw [cLand_hasField_eq hBL.s1 (by omega), Option.bind_some]
    have base : ∀ k, k < 11 → k ≠ 6 → k ≠ 9 → B 134 k = nm N x kind (N (182 + 10 * x + 8)) y left k := by
      refine eleven ?_ ?_ ?_ ?_ ?_ ?_ ?_ ?_ ?_ ?_ ?_
      all_goals intro h6 h9
      all_goals first | exact absurd rfl h6 | exact absurd rfl h9 | skip
      all_goals rw [← hB, ← hA]
      all_goals simp only [up_i, nm]
      · simpa using z0
      · simp
      · simpa using z2
      · simp
      · simp
      · simp
      · simp
      · rw [eb, et, nI_ix (by omega), nI_ix (by omega), hw]
        simp
      · simp
    have b69 : B 134 6 = 0 ∧ B 134 9 = 0 := by
      rw [← hB, ← hA]
      simp only [up_i]
      exact ⟨by simpa using z6, by simpa using z9⟩
    rcases (h.oka hx 7 (by decide) : N (182 + 10 * x + 7) = -1 ∨ inb (N (182 + 10 * x + 7)) nf) with e7 | e7
    · rw [e7, decide_eq_false (show ¬ inb (-1) nf from fun z => absurd z.1 (by decide)), if_neg (by decide)]
      refine ⟨B, rfl, hB1, fun k hk => ?_⟩
      by_cases k6 : k = 6
      · subst k6
        rw [b69.1, nm_6, e7, if_pos (by decide)]
      · by_cases k9 : k = 9
        · subst k9
          rw [b69.2, nm_9, e7, if_pos (by decide)]
        · exact base k hk k6 k9
    · obtain ⟨f, hf, ef⟩ := inb_ex e7
      rw [decide_eq_true e7, if_pos rfl, ef, if_pos (nI_inb (by omega) (by decide)), nI_ix (by omega), tellField_eq hBL hf, Option.bind_some]
      refine ⟨_, rfl, fun r hr => by rw [up_o hr, up_o hr]; exact hB1 r hr, fun k hk => ?_⟩
      by_cases k6 : k = 6
      · subst k6
        rw [up_j (by decide), up_s, nm_6, ef, if_neg (nI_pos (by omega)), nI_ix (by omega)]
      · by_cases k9 : k = 9
        · subst k9
          rw [up_s, nm_9, ef, if_neg (nI_pos (by omega)), nI_ix (by omega)]
        · rw [up_j k9, up_j k6]
          exact base k hk k6 k9
  have hor := or01 ob ot
  unfold cCourt_tellPaper_J95
  by_cases c1 : N (10 + 10 * b + 4) = 0
  · rw [if_pos c1]
    by_cases c2 : N (10 + 10 * t + 4) = 0
    · rw [if_pos c2]
      exact go false (by rw [hor, if_pos c1, if_pos c2])
    · rw [if_neg c2]
      exact go true (by rw [hor, if_pos c1, if_neg c2])
  · rw [if_neg c1]
    exact go true (by rw [hor, if_neg c1])
end Judge
