theorem LRel.congN {b : Nat} {S : SS} {T : TS} {X : XS} {N N' : Nat → Int32} (h : LRel b S T X N) (hN : ∀ a, a < 10759 → N' a = N a) : LRel b S T X N' := by
  obtain ⟨np, nf, nx, nl, yr, ⟨hcap, hy, i0, i1, i2, i3, i4, i7, i8, hP, hF, hA, hL, hX⟩, hE, hT⟩ := h
  have hc := hcap
  unfold caps at hc
  refine ⟨np, nf, nx, nl, yr, ⟨hcap, hy, by rw [hN _ (by omega)]; exact i0, by rw [hN _ (by omega)]; exact i1, by rw [hN _ (by omega)]; exact i2, by rw [hN _ (by omega)]; exact i3, by rw [hN _ (by omega)]; exact i4, by rw [hN _ (by omega)]; exact i7, by rw [hN _ (by omega)]; exact i8, fun q hq w hw => by rw [hN _ (by omega)]; exact hP q hq w hw, fun q hq w hw => by rw [hN _ (by omega)]; exact hF q hq w hw, fun q hq w hw => by rw [hN _ (by omega)]; exact hA q hq w hw, fun q hq w hw => by rw [hN _ (by omega)]; exact hL q hq w hw, fun q hq => by rw [hN _ (by omega), hN _ (by omega), hN _ (by omega), hN _ (by omega), hN _ (by omega)]; exact hX q hq⟩, fun a ha => ?_, fun t ht => ?_, fun q hq => ?_⟩
  · have := (lvA_lt hcap ha).1
    rw [hN a (by omega)]
    exact hE a ha
  · rcases hT.1 t ht with ⟨g1, g2⟩ | g
    · exact Or.inl ⟨g1, by rw [hN _ (by omega)]; exact g2⟩
    · exact Or.inr (g.move (fun k hk => hN _ (by omega)))
  · exact (hT.2 q hq).move (fun k hk => hN _ (by omega))
theorem sim_image (S : SS) (K : KS) (T : TS) (X : XS) (M : SS) (hR : Rel S K T X M) : ∃ p q, cD_image S T X = some p ∧ rM_image M = some q ∧ p.1 = q.1 ∧ Rel p.2.1 K p.2.2 X q.2 := by
  obtain ⟨r1, ⟨r2, r3⟩, r4, r5, r6, r7, r8, r9⟩ := hR
  obtain ⟨A, U, b1, b2, b3, b4⟩ := become_k r1
  unfold cD_image rM_image
  have hl : rM_image_L2 FU M 0 = some ((fun A : SS => ((up A 154 2 1) 155 3, up A 154 2 1)) (fo (fun (A : SS) i => up A 156 (0 + i) (A 155 (0 + i))) 10759 0 M)) := by
    refine loop_0' (fun f A i => rM_image_L2 f A i) (fun (A : SS) i => up A 156 (0 + i) (A 155 (0 + i))) 10759 (fun A => ((up A 154 2 1) 155 3, up A 154 2 1)) (by decide) (fun f i A hi => ?_) (fun f A => ?_) M
    · show rM_image_L2 (f + 1) A (nI i) = _
      rw [rM_image_L2, if_neg (show ¬ (10759 : Int32) ≤ nI i from nle (n := 10759) hi (by decide)), if_pos (nI_inb hi (by decide)), nI_ix (by omega), nI_1, Nat.zero_add]
    · show rM_image_L2 (f + 1) A (nI 10759) = _
      rw [rM_image_L2, if_pos (show (10759 : Int32) ≤ nI 10759 by decide)]
  rw [hl, cpy_fo 156 155 0 0 10759 (Or.inl (by decide)) 10759 (Nat.le_refl _), b1]
  simp only [Option.bind_some]
  obtain ⟨np, nf, nx, nl, yr, h⟩ := r1
  have hS : ∀ x, x ≠ 8 → (x < 71 ∨ 133 ≤ x) → up A 8 7 1 x = S x := fun x h1 h2 => by rw [up_o h1]; exact b3 x (by omega)
  refine ⟨(_, _, _), (_, _), rfl, rfl, ?_, ?_⟩
  · dsimp only
    rw [hS 9 (by decide) (by omega), up_x (by decide), if_neg (by omega)]
    exact (LD.s3 h).trans (LD.n3 h).symm
  · dsimp only
    have hM : ∀ x, x ≠ 154 → x ≠ 156 → up (fun x j => if x = 156 ∧ 0 ≤ j ∧ j < 0 + 10759 then M 155 (0 + (j - 0)) else M x j) 154 2 1 x = M x := fun x h1 h2 => funext fun j => by rw [up_x h1, if_neg (by omega)]
    refine ⟨?_, ⟨?_, Or.inr ⟨?_, ?_⟩⟩, ?_, ?_, ?_, ?_, ?_, r9⟩
    · rw [hM 155 (by decide) (by decide)]
      exact LRel.frameT ⟨np, nf, nx, nl, yr, h⟩ (fun x g1 g2 => hS x (by omega) (by omega)) (fun x g1 g2 => hS x (by omega) (by omega)) (fun x g1 g2 => b4 x (by omega))
    · rw [up_s, up_s]
    · rw [up_s]
    · refine (b2.congN (N' := up (fun x j => if x = 156 ∧ 0 ≤ j ∧ j < 0 + 10759 then M 155 (0 + (j - 0)) else M x j) 154 2 1 156) (fun a ha => ?_)).frame (fun x g1 g2 => up_o (by omega)) (fun x g1 g2 => up_o (by omega))
      rw [up_x (by decide), if_pos (by omega), Nat.zero_add, Nat.sub_zero]
    · rw [up_j (by decide), b3 8 (by omega), up_j (by decide), if_neg (by omega)]
      exact r4
    · intro s hs4
      rw [hS (146 + 2 * s) (by omega) (by omega), hS (147 + 2 * s) (by omega) (by omega), hM 168 (by decide) (by decide), hM 169 (by decide) (by decide), hM 170 (by decide) (by decide)]
      exact r5 s hs4
    · obtain ⟨n, a1, a2, a3, a4⟩ := r6
      refine ⟨n, a1, by rw [hS 137 (by decide) (by omega)]; exact a2, by rw [up_j (by decide), if_neg (by omega)]; exact a3, ?_⟩
      rw [hS 138 (by decide) (by omega), hM 160 (by decide) (by decide)]
      exact a4
    · unfold CN
      rw [hM 161 (by decide) (by decide), hM 162 (by decide) (by decide)]
      exact r7
    · unfold TH
      rw [hS 143 (by decide) (by omega)]
      exact r8
theorem sim_restore (S : SS) (K : KS) (T : TS) (X : XS) (M : SS) (hR : Rel S K T X M) : ∃ p q, cD_restore S T X = some p ∧ rM_restore M = some q ∧ p.1 = q.1 ∧ Rel p.2.1 K p.2.2 X q.2 := by
  have hR0 := hR
  obtain ⟨r1, ⟨r2, r3⟩, r4, r5, r6, r7, r8, r9⟩ := hR
  unfold cD_restore rM_restore
  rcases r3 with r3 | ⟨r3, r3'⟩
  · have m3 : M 154 2 = 0 := r2.symm.trans r3
    rw [m3]
    simp only [if_pos r3, if_true, found_eq, finds_eq, Option.bind_some]
    exact ⟨_, _, rfl, rfl, rfl, hR0.fnd⟩
  · have m3 : M 154 2 = 1 := r2.symm.trans r3
    obtain ⟨A, U, b1, b2, b3, b4⟩ := become r3'
    have hl : rM_restore_L16 FU M 0 = some ((fun A : SS => (A 155 3, A)) (fo (fun (A : SS) i => up A 155 (0 + i) (A 156 (0 + i))) 10759 0 M)) := by
      refine loop_0' (fun f A i => rM_restore_L16 f A i) (fun (A : SS) i => up A 155 (0 + i) (A 156 (0 + i))) 10759 (fun A => (A 155 3, A)) (by decide) (fun f i A hi => ?_) (fun f A => ?_) M
      · show rM_restore_L16 (f + 1) A (nI i) = _
        rw [rM_restore_L16, if_neg (show ¬ (10759 : Int32) ≤ nI i from nle (n := 10759) hi (by decide)), if_pos (nI_inb hi (by decide)), nI_ix (by omega), nI_1, Nat.zero_add]
      · show rM_restore_L16 (f + 1) A (nI 10759) = _
        rw [rM_restore_L16, if_pos (show (10759 : Int32) ≤ nI 10759 by decide)]
    rw [m3, if_neg (show ¬ (1 : Int32) = 0 by decide), hl, cpy_fo 155 156 0 0 10759 (Or.inl (by decide)) 10759 (Nat.le_refl _)]
    rw [if_neg (show ¬ S 8 7 = 0 by rw [r3]; decide)]
    rw [b1]
    simp only [Option.bind_some]
    have b2' : LRel 9 A U X ((fun x j => if x = 155 ∧ 0 ≤ j ∧ j < 0 + 10759 then M 156 (0 + (j - 0)) else M x j : SS) 155) := b2.congN (fun a ha => by dsimp only; rw [if_pos (by omega), Nat.zero_add, Nat.sub_zero])
    obtain ⟨np, nf, nx, nl, yr, h⟩ := b2'
    refine ⟨(_, _, _), (_, _), rfl, rfl, ?_, ?_⟩
    · dsimp only
      exact (LD.s3 h).trans (LD.n3 h).symm
    · dsimp only
      have hM : ∀ x, x ≠ 155 → (fun x j => if x = 155 ∧ 0 ≤ j ∧ j < 0 + 10759 then M 156 (0 + (j - 0)) else M x j : SS) x = M x := fun x h1 => funext fun j => if_neg (by omega)
      refine ⟨⟨np, nf, nx, nl, yr, h⟩, ⟨?_, Or.inr ⟨?_, ?_⟩⟩, ?_, ?_, ?_, ?_, ?_, r9⟩
      · rw [b3 8 (by omega), hM 154 (by decide)]
        exact r2
      · rw [b3 8 (by omega)]
        exact r3
      · rw [hM 156 (by decide)]
        exact r3'.frameT (fun x g1 g2 => b3 x (by omega)) (fun x g1 g2 => b3 x (by omega)) (fun x g1 g2 => b4 x (by omega))
      · rw [b3 8 (by omega), hM 154 (by decide)]
        exact r4
      · intro s hs4
        rw [b3 (146 + 2 * s) (by omega), b3 (147 + 2 * s) (by omega), hM 168 (by decide), hM 169 (by decide), hM 170 (by decide)]
        exact r5 s hs4
      · obtain ⟨n, a1, a2, a3, a4⟩ := r6
        refine ⟨n, a1, by rw [b3 137 (by omega)]; exact a2, by rw [hM 154 (by decide)]; exact a3, ?_⟩
        rw [b3 138 (by omega), hM 160 (by decide)]
        exact a4
      · unfold CN
        rw [hM 161 (by decide), hM 162 (by decide)]
        exact r7
      · unfold TH
        rw [b3 143 (by omega)]
        exact r8
