/-! ===== a land that grows: person, field ===== -/
theorem EL.ext {b : Nat} {S S' : SS} {N N' : Nat → Int32} {np nf nx nl np' nf' nx' nl' : Nat} (h : EL b S N np nf nx nl) (D : Nat → Prop) (h1 : ∀ a, lvA np' nf' nx' nl' a → D a → S' (b + rg a) (sl a) = N' a) (h2 : ∀ a, lvA np' nf' nx' nl' a → ¬ D a → lvA np nf nx nl a ∧ S' (b + rg a) (sl a) = S (b + rg a) (sl a) ∧ N' a = N a) : EL b S' N' np' nf' nx' nl' := by
  intro a ha
  by_cases hD : D a
  · exact h1 a ha hD
  · obtain ⟨g1, g2, g3⟩ := h2 a ha hD
    rw [g2, g3]
    exact h a g1
theorem rg_at {a r j c : Nat} (ha : a < 406 ∧ a ≠ 9) (h1 : rg a = r) (h2 : sl a = j) (hc : ad r j = c) : a = c := by
  rw [← ad_rg a ha.1 ha.2, h1, h2, hc]
theorem rgP_of {a q : Nat} (hq : q < 14) (h : rg a = 8 + q) : 10 + 10 * q ≤ a ∧ a < 20 + 10 * q := by
  unfold rg at h
  split at h
  · split at h <;> omega
  · split at h
    · omega
    · split at h
      · omega
      · split at h <;> omega
theorem rgF_of {a q : Nat} (hq : q < 8) (h : rg a = 22 + q) : 150 + 4 * q ≤ a ∧ a < 154 + 4 * q := by
  unfold rg at h
  split at h
  · split at h <;> omega
  · split at h
    · omega
    · split at h
      · omega
      · split at h <;> omega
theorem rgA_of {a q : Nat} (hq : q < 20) (h : rg a = 30 + q) : 182 + 10 * q ≤ a ∧ a < 192 + 10 * q := by
  unfold rg at h
  split at h
  · split at h <;> omega
  · split at h
    · omega
    · split at h
      · omega
      · split at h <;> omega
theorem rgL_of {a q : Nat} (hq : q < 12) (h : rg a = 50 + q) (ha : a < 406) : 382 + 2 * q ≤ a ∧ a < 384 + 2 * q := by
  unfold rg at h
  split at h
  · split at h <;> omega
  · split at h
    · omega
    · split at h
      · omega
      · split at h <;> omega
theorem okF_mono {np np' w : Nat} {v : Int32} (h : okF np w v) (hn : np ≤ np') : okF np' w v := by
  unfold okF at h ⊢
  split
  · exact h
  · exact inb_mono h hn
  · exact inb_mono h hn
  · rename_i h0 h1 h2
    split at h
    · exact absurd rfl h0
    · exact absurd rfl h1
    · exact absurd rfl h2
    · exact h
theorem okA_mono {np nf np' nf' w : Nat} {v : Int32} (h : okA np nf w v) (hn : np ≤ np') (hf : nf ≤ nf') : okA np' nf' w v := by
  unfold okA at h ⊢
  split <;> first | exact h | exact inb_mono h hn | skip
  · rcases h with h | h
    · exact Or.inl h
    · exact Or.inr (inb_mono h hf)
  · rename_i h0 h1 h2 h3 h4 h5 h6 h7 h8
    split at h <;> first | exact absurd rfl h0 | exact absurd rfl h1 | exact absurd rfl h2 | exact absurd rfl h3 | exact absurd rfl h4 | exact absurd rfl h5 | exact absurd rfl h6 | exact absurd rfl h7 | exact absurd rfl h8 | exact h
section Grow
variable {S S' : SS} {T : TS} {X : XS} {N N' : Nat → Int32} {np nf nx nl yr : Nat}
theorem LD.addP (h : LD S T X N np nf nx nl yr) (hn : np < 14) (hS : ∀ x j, ¬ (x = 9 ∧ j = 7) → x ≠ 17 + np → S' x j = S x j) (hS7 : S' 9 7 = nI (np + 1)) (hN : ∀ a, a ≠ 0 → ¬ (10 + 10 * np ≤ a ∧ a < 20 + 10 * np) → N' a = N a) (hN0 : N' 0 = nI (np + 1)) (hv : ∀ w, w < 10 → S' (17 + np) (pv w) = N' (10 + 10 * np + w) ∧ okP np w (N' (10 + 10 * np + w))) : LD S' T X N' (np + 1) nf nx nl yr := by
  have hc := h.cp
  obtain ⟨⟨hcap, hy, i0, i1, i2, i3, i4, i7, i8, hP, hF, hA, hL, hX⟩, hE, hT⟩ := h
  refine ⟨⟨⟨by omega, hc.2.1, hc.2.2.1, hc.2.2.2.1⟩, hy, hN0, by rw [hN _ (by omega) (by omega)]; exact i1, by rw [hN _ (by omega) (by omega)]; exact i2, by rw [hN _ (by omega) (by omega)]; exact i3, by rw [hN _ (by omega) (by omega)]; exact i4, by rw [hN _ (by omega) (by omega)]; exact i7, by rw [hN _ (by omega) (by omega)]; exact i8, fun q hq w hw => ?_, fun q hq w hw => by rw [hN _ (by omega) (by omega)]; exact okF_mono (hF q hq w hw) (by omega), fun q hq w hw => by rw [hN _ (by omega) (by omega)]; exact okA_mono (hA q hq w hw) (by omega) (by omega), fun q hq w hw => by rw [hN _ (by omega) (by omega)]; exact hL q hq w hw, fun q hq => by rw [hN _ (by omega) (by omega), hN _ (by omega) (by omega), hN _ (by omega) (by omega), hN _ (by omega) (by omega), hN _ (by omega) (by omega)]; exact hX q hq⟩, ?_, ?_⟩
  · by_cases e : q = np
    · subst e
      exact (hv w hw).2
    · rw [hN _ (by omega) (by omega)]
      exact hP q (by omega) w hw
  · refine hE.ext (fun a => a = 0 ∨ (10 + 10 * np ≤ a ∧ a < 20 + 10 * np)) (fun a ha hD => ?_) (fun a ha hD => ?_)
    · rcases hD with rfl | hD
      · exact hS7.trans hN0.symm
      · obtain ⟨w, hw, rfl⟩ : ∃ w, w < 10 ∧ a = 10 + 10 * np + w := ⟨a - (10 + 10 * np), by omega, by omega⟩
        rw [(rgP hn hw).1, (rgP hn hw).2, show 9 + (8 + np) = 17 + np by omega]
        exact (hv w hw).1
    · have hl := lvA_lt (np := np + 1) (nf := nf) (nx := nx) (nl := nl) ⟨by omega, hc.2.1, hc.2.2.1, hc.2.2.2.1⟩ ha
      refine ⟨?_, hS _ _ ?_ ?_, hN a (by omega) (by omega)⟩
      · unfold lvA at ha ⊢
        omega
      · intro z
        exact hD (Or.inl (rg_at (r := 0) hl (by omega) z.2 (by decide)))
      · intro z
        exact hD (Or.inr (rgP_of hn (by omega)))
  · exact hT.frame (fun x g1 g2 => funext fun j => hS x j (by omega) (by omega)) (fun a ha => hN a (by omega) (by omega))
theorem LD.addF (h : LD S T X N np nf nx nl yr) (hn : nf < 8) (hS : ∀ x j, ¬ (x = 9 ∧ j = 8) → x ≠ 31 + nf → S' x j = S x j) (hS7 : S' 9 8 = nI (nf + 1)) (hN : ∀ a, a ≠ 1 → ¬ (150 + 4 * nf ≤ a ∧ a < 154 + 4 * nf) → N' a = N a) (hN0 : N' 1 = nI (nf + 1)) (hv : ∀ w, w < 4 → S' (31 + nf) (fv w) = N' (150 + 4 * nf + w) ∧ okF np w (N' (150 + 4 * nf + w))) : LD S' T X N' np (nf + 1) nx nl yr := by
  have hc := h.cp
  obtain ⟨⟨hcap, hy, i0, i1, i2, i3, i4, i7, i8, hP, hF, hA, hL, hX⟩, hE, hT⟩ := h
  refine ⟨⟨⟨hc.1, by omega, hc.2.2.1, hc.2.2.2.1⟩, hy, by rw [hN _ (by omega) (by omega)]; exact i0, hN0, by rw [hN _ (by omega) (by omega)]; exact i2, by rw [hN _ (by omega) (by omega)]; exact i3, by rw [hN _ (by omega) (by omega)]; exact i4, by rw [hN _ (by omega) (by omega)]; exact i7, by rw [hN _ (by omega) (by omega)]; exact i8, fun q hq w hw => by rw [hN _ (by omega) (by omega)]; exact hP q hq w hw, fun q hq w hw => ?_, fun q hq w hw => by rw [hN _ (by omega) (by omega)]; exact okA_mono (hA q hq w hw) (by omega) (by omega), fun q hq w hw => by rw [hN _ (by omega) (by omega)]; exact hL q hq w hw, fun q hq => by rw [hN _ (by omega) (by omega), hN _ (by omega) (by omega), hN _ (by omega) (by omega), hN _ (by omega) (by omega), hN _ (by omega) (by omega)]; exact hX q hq⟩, ?_, ?_⟩
  · by_cases e : q = nf
    · subst e
      exact (hv w hw).2
    · rw [hN _ (by omega) (by omega)]
      exact hF q (by omega) w hw
  · refine hE.ext (fun a => a = 1 ∨ (150 + 4 * nf ≤ a ∧ a < 154 + 4 * nf)) (fun a ha hD => ?_) (fun a ha hD => ?_)
    · rcases hD with rfl | hD
      · exact hS7.trans hN0.symm
      · obtain ⟨w, hw, rfl⟩ : ∃ w, w < 4 ∧ a = 150 + 4 * nf + w := ⟨a - (150 + 4 * nf), by omega, by omega⟩
        rw [(rgF hn hw).1, (rgF hn hw).2, show 9 + (22 + nf) = 31 + nf by omega]
        exact (hv w hw).1
    · have hl := lvA_lt (np := np) (nf := nf + 1) (nx := nx) (nl := nl) ⟨hc.1, by omega, hc.2.2.1, hc.2.2.2.1⟩ ha
      refine ⟨?_, hS _ _ ?_ ?_, hN a (by omega) (by omega)⟩
      · unfold lvA at ha ⊢
        omega
      · intro z
        exact hD (Or.inl (rg_at (r := 0) hl (by omega) z.2 (by decide)))
      · intro z
        exact hD (Or.inr (rgF_of hn (by omega)))
  · exact hT.frame (fun x g1 g2 => funext fun j => hS x j (by omega) (by omega)) (fun a ha => hN a (by omega) (by omega))
end Grow
theorem ad2' {z : Int32} {n : Nat} (h : inb z n) (c k : Nat) (hb : n < 2 ^ 31) : nI c + nI k * z = nI (c + k * ix z) := by
  obtain ⟨q, hq, rfl⟩ := inb_ex h
  rw [nI_ix (by omega), pk_mul, nI_add]
theorem sim_field (S : SS) (K : KS) (T : TS) (X : XS) (M : SS) (z0 z1 : Int32) (z2 : Bool) (hR : Rel S K T X M) : ∃ p q, cD_field S z0 z1 z2 = some p ∧ rM_field M z0 z1 z2 = some q ∧ p.1 = q.1 ∧ Rel p.2 K T X q.2 := by
  obtain ⟨np, nf, nx, nl, yr, h⟩ := hR.ld
  have hc := h.cp
  unfold cD_field rM_field cD_field_J21 rM_field_J18
  rw [cLand_hasPerson_eq h.s0 (by omega), rM_isPerson_eq h.n0 (by omega)]
  simp only [Option.bind_some, within_eq, in_eq, found_eq, finds_eq]
  by_cases h1 : inb z0 np
  · by_cases h2 : 1 ≤ z1 ∧ z1 ≤ 99
    · simp only [decide_eq_true h1, decide_eq_true h2, if_true, h.s1, h.n1]
      by_cases h3 : nf < 8
      · have e8 : nI nf < (8 : Int32) := nI_lt (show nf < 8 from h3) (by decide)
        have n8 : ¬ nI nf = (8 : Int32) := fun e => by have := (nI_eq (show nf < 2 ^ 31 by omega) (show 8 < 2 ^ 31 by decide)).mp e; omega
        have hb : inb (nI nf) 8 := nI_inb h3 (by decide)
        have a0 : (150 : Int32) + (4 : Int32) * nI nf = nI (150 + 4 * nf) := by have := ad2' hb 150 4 (by decide); rw [nI_ix (by omega)] at this; exact this
        have a1 : nI (150 + 4 * nf) + 1 = nI (150 + 4 * nf + 1) := nI_1 _
        have a2 : nI (150 + 4 * nf) + 2 = nI (150 + 4 * nf + 2) := nI_add _ 2
        have a3 : nI (150 + 4 * nf) + 3 = nI (150 + 4 * nf + 3) := nI_add _ 3
        have ib0 : inb (nI (150 + 4 * nf)) 10759 := nI_inb (by omega) (by decide)
        have ib : ∀ k, k < 4 → inb (nI (150 + 4 * nf + k)) 10759 := fun k hk => nI_inb (by omega) (by decide)
        have e2 : ∀ (b : Bool) (F : Bool → Option (Int32 × SS)), (if b = true then F true else F false) = F b := by intro b F; cases b <;> rfl
        unfold rM_field_J126 cField_begin
        simp only [if_pos e8, if_neg n8, if_pos hb, a0, a1, a2, a3, if_pos ib0, if_pos (ib 1 (by decide)), if_pos (ib 2 (by decide)), if_pos (ib 3 (by decide)), Option.bind_some, nI_ix (show nf < 2 ^ 31 by omega), nI_ix (show 150 + 4 * nf < 2 ^ 31 by omega), nI_ix (show 150 + 4 * nf + 1 < 2 ^ 31 by omega), nI_ix (show 150 + 4 * nf + 2 < 2 ^ 31 by omega), nI_ix (show 150 + 4 * nf + 3 < 2 ^ 31 by omega)]
        rw [e2 z2 (fun b => some (nI nf, up (up (up (up (up M 155 1 (nI nf + 1)) 155 (150 + 4 * nf) z1) 155 (150 + 4 * nf + 1) z0) 155 (150 + 4 * nf + 2) z0) 155 (150 + 4 * nf + 3) (b2i b)))]
        refine ⟨_, _, rfl, rfl, ?_, hR.land (((((kS.refl.up (by omega)).up (by omega)).up (by omega)).up (by omega)).up (by omega)) (((((kM.refl.up (by omega)).up (by omega)).up (by omega)).up (by omega)).up (by omega)) ?_⟩
        · dsimp only
          rw [up_x (by omega), up_x (by omega), up_x (by omega), up_x (by omega), h.s1]
        · refine (h.addF h3 (fun x j g1 g2 => ?_) ?_ (fun a g1 g2 => ?_) ?_ (fun w hw => ?_)).rel
          · dsimp only
            rw [up_n g1, up_x g2, up_x g2, up_x g2, up_x g2]
          · dsimp only
            rw [up_s, up_x (by omega), up_x (by omega), up_x (by omega), up_x (by omega), h.s1, nI_1]
          · dsimp only
            rw [up_j (by omega), up_j (by omega), up_j (by omega), up_j (by omega), up_j (by omega)]
          · dsimp only
            rw [up_j (by omega), up_j (by omega), up_j (by omega), up_j (by omega), up_s, nI_1]
          · dsimp only
            have : w = 0 ∨ w = 1 ∨ w = 2 ∨ w = 3 := by omega
            have hz : inb z1 100 := ⟨by have := Int32.le_iff_toInt_le.mp h2.1; simp at this; omega, by have := Int32.le_iff_toInt_le.mp h2.2; simp at this; omega⟩
            rcases this with rfl | rfl | rfl | rfl
            · rw [up_x (by omega), up_j (show fv 0 ≠ 3 by decide), up_j (show fv 0 ≠ 2 by decide), show fv 0 = 1 from rfl, up_s, up_j (by omega), up_j (by omega), up_j (by omega), Nat.add_zero, up_s]
              exact ⟨rfl, hz⟩
            · rw [up_x (by omega), up_j (show fv 1 ≠ 3 by decide), up_j (show fv 1 ≠ 2 by decide), up_j (show fv 1 ≠ 1 by decide), show fv 1 = 0 from rfl, up_s, up_j (by omega), up_j (by omega), up_s]
              exact ⟨rfl, h1⟩
            · rw [up_x (by omega), up_j (show fv 2 ≠ 3 by decide), show fv 2 = 2 from rfl, up_s, up_j (by omega), up_s]
              exact ⟨rfl, h1⟩
            · rw [up_x (by omega), show fv 3 = 3 from rfl, up_s, up_s]
              exact ⟨rfl, b2i_z z2⟩
      · have e8 : nf = 8 := by omega
        subst e8
        simp only [if_neg (show ¬ nI 8 < (8 : Int32) by decide), if_pos (show nI 8 = (8 : Int32) from rfl)]
        exact ⟨_, _, rfl, rfl, rfl, hR.fnd⟩
    · simp only [decide_eq_true h1, decide_eq_false h2, if_true, Bool.false_eq_true, if_false]
      exact ⟨_, _, rfl, rfl, rfl, hR.fnd⟩
  · simp only [decide_eq_false h1, Bool.false_eq_true, if_false]
    exact ⟨_, _, rfl, rfl, rfl, hR.fnd⟩
