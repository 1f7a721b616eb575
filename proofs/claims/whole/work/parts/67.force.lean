/-! ===== force ===== -/
theorem TXC.move {S : SS} {N N' : Nat → Int32} {t base base' off n : Nat} (h : TXC S N t base off n) (hN : ∀ k, k ≤ n → N' (base' + k) = N (base + k)) : TXC S N' t base' off n := by
  obtain ⟨h1, h2, h3, h4⟩ := h
  have hN' : ∀ j, j < n → N' (base' + 1 + j) = N (base + 1 + j) := fun j hj => by
    have := hN (1 + j) (by omega)
    rw [show base' + (1 + j) = base' + 1 + j by omega, show base + (1 + j) = base + 1 + j by omega] at this
    exact this
  refine ⟨h1, ?_, fun j hj => by rw [hN' j hj]; exact h3 j hj, ?_⟩
  · have := hN 0 (by omega)
    rw [Nat.add_zero, Nat.add_zero] at this
    rw [this]
    exact h2
  · have : ∀ m i hh, i + m = n → wfc (fun j => N (base + 1 + j)) m i hh → wfc (fun j => N' (base' + 1 + j)) m i hh := by
      intro m
      induction m with
      | zero => intro i hh _ hw; exact hw
      | succ m ih =>
        intro i hh hi hw
        unfold wfc at hw ⊢
        rw [hN' i (by omega)]
        split at hw
        · rename_i c
          rw [if_pos c]
          exact ih _ _ (by omega) hw
        · rename_i c
          rw [if_neg c]
          split at hw
          · rename_i c2
            rw [if_pos c2]
            exact ⟨hw.1, ih _ _ (by omega) hw.2⟩
          · rename_i c2
            rw [if_neg c2]
            exact ⟨hw.1, ih _ _ (by omega) hw.2⟩
    exact this n 0 0 (by omega) h4
theorem TXR.move {S : SS} {X : XS} {N N' : Nat → Int32} {t base base' : Nat} (h : TXR S X N t base) (hN : ∀ k, k < 609 → N' (base' + k) = N (base + k)) : TXR S X N' t base' := by
  obtain ⟨h1, n0, n1, n2, h2, h3, h4, h5, h6, h7⟩ := h
  have ht := h1.2.2.2
  refine ⟨h1, n0, n1, n2, h2, h3, h4, h5.move (fun k hk => hN k (by omega)), h6.move (fun k hk => ?_), h7.move (fun k hk => ?_)⟩
  · have := hN (203 + k) (by omega)
    rw [show base' + (203 + k) = base' + 203 + k by omega, show base + (203 + k) = base + 203 + k by omega] at this
    exact this
  · have := hN (406 + k) (by omega)
    rw [show base' + (406 + k) = base' + 406 + k by omega, show base + (406 + k) = base + 406 + k by omega] at this
    exact this
theorem LRel.frameT {b : Nat} {S S' : SS} {T T' : TS} {X : XS} {N : Nat → Int32} (h : LRel b S T X N) (hS : ∀ x, b ≤ x → x < b + 62 → S' x = S x) (hX : ∀ x, 172 ≤ x → x < 172 + X.2 → S' x = S x) (hT : ∀ x, b ≤ x → x < b + 62 → T' x = T x) : LRel b S' T' X N := by
  obtain ⟨np, nf, nx, nl, yr, hI, hE, hL⟩ := h
  have hc := hI.1
  unfold caps at hc
  refine ⟨np, nf, nx, nl, yr, hI, hE.frame hI.1 hS, ?_⟩
  have := hL.frame hX (fun _ _ => rfl)
  refine ⟨fun t ht => ?_, fun q hq => ?_⟩
  · rw [hT (b + 5) (by omega) (by omega)]
    exact this.1 t ht
  · rw [hT (b + (50 + q)) (by omega) (by omega)]
    exact this.2 q hq
theorem Rel.landT {S S' : SS} {K : KS} {T T' : TS} {X : XS} {M M' : SS} (h : Rel S K T X M) (hS : kS S S' X) (hM : kM M M') (hT : ∀ x, 71 ≤ x → x < 133 → T' x = T x) (hL : LRel 9 S' T' X (M' 155)) : Rel S' K T' X M' := by
  obtain ⟨-, ⟨r2, r3⟩, r4, r5, r6, r7, r8, r9⟩ := h
  obtain ⟨s1, s2, s3, s4, s5, s6⟩ := hS
  obtain ⟨m1, m2, m3, m4, m5, m6, m7, m8, m9, m10⟩ := hM
  refine ⟨hL, ⟨by rw [s1, m1]; exact r2, ?_⟩, by rw [s1, m2]; exact r4, ?_, ?_, ?_, ?_, r9⟩
  · rcases r3 with r3 | ⟨r3, r3'⟩
    · exact Or.inl (by rw [s1]; exact r3)
    · exact Or.inr ⟨by rw [s1]; exact r3, by rw [m4]; exact r3'.frameT (fun x g1 g2 => s2 x g1 g2) s6 (fun x g1 g2 => hT x g1 g2)⟩
  · intro s hs
    obtain ⟨a1, a2, a3, a4⟩ := r5 s hs
    rw [s5 (146 + 2 * s) (by omega) (by omega), s5 (147 + 2 * s) (by omega) (by omega), m8, m9, m10]
    exact ⟨a1, a2, a3, a4⟩
  · obtain ⟨n, a1, a2, a3, a4⟩ := r6
    refine ⟨n, a1, by rw [s4]; exact a2, by rw [m3]; exact a3, ?_⟩
    rw [s3, m5]
    exact a4
  · unfold CN
    rw [m6, m7]
    exact r7
  · unfold TH
    rw [s5 143 (by omega) (by omega)]
    exact r8
theorem LD.addL {S S' : SS} {T T' : TS} {X : XS} {N N' : Nat → Int32} {np nf nx nl yr t : Nat} (h : LD S T X N np nf nx nl yr) (hn : nl < 12) (hS : ∀ x j, ¬ (x = 9 ∧ j = 10) → x ≠ 59 + nl → S' x j = S x j) (hS7 : S' 9 10 = nI (nl + 1)) (hN : ∀ a, a ≠ 4 → ¬ (382 + 2 * nl ≤ a ∧ a < 384 + 2 * nl) → ¬ (406 + 609 * (5 + nl) ≤ a ∧ a < 406 + 609 * (5 + nl) + 609) → N' a = N a) (hN0 : N' 4 = nI (nl + 1)) (hv : ∀ w, w < 2 → S' (59 + nl) (1 + w) = N' (382 + 2 * nl + w) ∧ okL w (N' (382 + 2 * nl + w))) (hT : ∀ x, x ≠ 59 + nl → T' x = T x) (hT0 : T' (59 + nl) 0 = T 14 t) (ht : t < 5) (hx : TXR S X N (T 14 t) (406 + 609 * t)) (hNc : ∀ k, k < 609 → N' (406 + 609 * (5 + nl) + k) = N (406 + 609 * t + k)) : LD S' T' X N' np nf nx (nl + 1) yr := by
  have hc := h.cp
  obtain ⟨⟨hcap, hy, i0, i1, i2, i3, i4, i7, i8, hP, hF, hA, hL, hX⟩, hE, hTT⟩ := h
  refine ⟨⟨⟨hc.1, hc.2.1, hc.2.2.1, by omega⟩, hy, by rw [hN _ (by omega) (by omega) (by omega)]; exact i0, by rw [hN _ (by omega) (by omega) (by omega)]; exact i1, by rw [hN _ (by omega) (by omega) (by omega)]; exact i2, by rw [hN _ (by omega) (by omega) (by omega)]; exact i3, hN0, by rw [hN _ (by omega) (by omega) (by omega)]; exact i7, by rw [hN _ (by omega) (by omega) (by omega)]; exact i8, fun q hq w hw => by rw [hN _ (by omega) (by omega) (by omega)]; exact hP q hq w hw, fun q hq w hw => by rw [hN _ (by omega) (by omega) (by omega)]; exact hF q hq w hw, fun q hq w hw => by rw [hN _ (by omega) (by omega) (by omega)]; exact hA q hq w hw, fun q hq w hw => ?_, fun q hq => by rw [hN _ (by omega) (by omega) (by omega), hN _ (by omega) (by omega) (by omega), hN _ (by omega) (by omega) (by omega), hN _ (by omega) (by omega) (by omega), hN _ (by omega) (by omega) (by omega)]; exact hX q hq⟩, ?_, ?_⟩
  · by_cases e : q = nl
    · subst e
      exact (hv w hw).2
    · rw [hN _ (by omega) (by omega) (by omega)]
      exact hL q (by omega) w hw
  · refine hE.ext (fun a => a = 4 ∨ (382 + 2 * nl ≤ a ∧ a < 384 + 2 * nl)) (fun a ha hD => ?_) (fun a ha hD => ?_)
    · rcases hD with rfl | hD
      · exact hS7.trans hN0.symm
      · obtain ⟨w, hw, rfl⟩ : ∃ w, w < 2 ∧ a = 382 + 2 * nl + w := ⟨a - (382 + 2 * nl), by omega, by omega⟩
        rw [(rgL hw).1, (rgL hw).2, show 9 + (50 + nl) = 59 + nl by omega]
        exact (hv w hw).1
    · have hl := lvA_lt (np := np) (nf := nf) (nx := nx) (nl := nl + 1) ⟨hc.1, hc.2.1, hc.2.2.1, by omega⟩ ha
      refine ⟨?_, hS _ _ ?_ ?_, hN a (by omega) (by omega) (by omega)⟩
      · unfold lvA at ha ⊢
        omega
      · intro z
        exact hD (Or.inl (rg_at (r := 0) hl (by omega) z.2 (by decide)))
      · intro z
        exact hD (Or.inr (rgL_of hn (by omega) hl.1))
  · have hSx : ∀ x, 172 ≤ x → x < 172 + X.2 → S' x = S x := fun x g1 g2 => funext fun j => hS x j (by omega) (by omega)
    refine ⟨fun u hu => ?_, fun q hq => ?_⟩
    · rw [hT (9 + 5) (by omega)]
      rcases hTT.1 u hu with ⟨g1, g2⟩ | g
      · exact Or.inl ⟨g1, by rw [hN _ (by omega) (by omega) (by omega)]; exact g2⟩
      · exact Or.inr (g.frame hSx (fun a g1 g2 => hN a (by omega) (by omega) (by omega)))
    · by_cases e : q = nl
      · subst e
        rw [show 9 + (50 + q) = 59 + q by omega, hT0]
        exact (hx.move hNc).frame hSx (fun _ _ _ => rfl)
      · rw [hT (9 + (50 + q)) (by omega)]
        exact (hTT.2 q (by omega)).frame hSx (fun a g1 g2 => hN a (by omega) (by omega) (by omega))
theorem LD.txt {S : SS} {T : TS} {X : XS} {N : Nat → Int32} {np nf nx nl yr : Nat} (h : LD S T X N np nf nx nl yr) {t : Nat} (ht : t < 5) : (T 14 t = 0 ∧ N (406 + 609 * t) = 0) ∨ (¬ T 14 t = 0 ∧ ¬ N (406 + 609 * t) = 0 ∧ TXR S X N (T 14 t) (406 + 609 * t)) := by
  rcases h.2.2.1 t ht with g | g
  · exact Or.inl g
  · refine Or.inr ⟨?_, ?_, g⟩
    · have := g.1.1
      show ¬ T (9 + 5) t = 0
      omega
    · obtain ⟨h1, n0, n1, n2, h2, h3, h4, h5, -⟩ := g
      rw [h5.2.1]
      have := h1.2.2.2
      exact nI_ne0 (by have := h5.1; omega) (by omega)
theorem sim_force (S : SS) (K : KS) (T : TS) (X : XS) (M : SS) (z0 z1 z2 : Int32) (hR : Rel S K T X M) : ∃ p q, cD_force S T z0 z1 z2 = some p ∧ rM_force M z0 z1 z2 = some q ∧ p.1 = q.1 ∧ Rel p.2.1 K p.2.2 X q.2 := by
  obtain ⟨np, nf, nx, nl, yr, h⟩ := hR.ld
  have hc := h.cp
  unfold cD_force rM_force cD_force_J23 rM_force_J23
  simp only [within_eq, in_eq, found_eq, finds_eq, Option.bind_some, cD_isBench_eq, rM_isBench_eq, cD_isYear_eq, rM_isYear_eq]
  by_cases c0 : 0 ≤ z0 ∧ z0 ≤ 4
  · simp only [decide_eq_true c0, if_true]
    by_cases c1 : inb z1 2
    · simp only [decide_eq_true c1, if_true]
      by_cases c2 : inb z2 401
      · simp only [decide_eq_true c2, if_true]
        have h5 : inb z0 5 := (inb_lit (by decide)).mp c0
        obtain ⟨t, ht, rfl⟩ := inb_ex h5
        have e0 : (406 : Int32) + (609 : Int32) * nI t = nI (406 + 609 * t) := by rw [show (406 : Int32) = nI 406 from rfl, show (609 : Int32) = nI 609 from rfl, pk_mul, nI_add]
        simp only [if_pos h5, nI_ix (show t < 2 ^ 31 by omega), e0, if_pos (nI_inb (show 406 + 609 * t < 10759 by omega) (by decide)), nI_ix (show 406 + 609 * t < 2 ^ 31 by omega), h.s4, h.n4]
        rcases h.txt ht with ⟨g1, g2⟩ | ⟨g1, g2, g3⟩
        · simp only [if_pos g1, if_pos g2]
          exact ⟨_, _, rfl, rfl, rfl, hR.fnd⟩
        · simp only [if_neg g1, if_neg g2]
          by_cases h3 : nl < 12
          · have e8 : nI nl < (12 : Int32) := nI_lt (show nl < 12 from h3) (by decide)
            have n8 : ¬ nI nl = (12 : Int32) := fun e => by have := (nI_eq (show nl < 2 ^ 31 by omega) (show 12 < 2 ^ 31 by decide)).mp e; omega
            have hb : inb (nI nl) 12 := nI_inb h3 (by decide)
            have a0 : (382 : Int32) + (2 : Int32) * nI nl = nI (382 + 2 * nl) := by rw [show (382 : Int32) = nI 382 from rfl, show (2 : Int32) = nI 2 from rfl, pk_mul, nI_add]
            have a1 : nI (382 + 2 * nl) + 1 = nI (382 + 2 * nl + 1) := nI_1 _
            unfold cLaw_begin
            simp only [if_pos e8, if_neg n8, if_pos hb, nI_ix (show nl < 2 ^ 31 by omega), a0, a1, if_pos (nI_inb (show 382 + 2 * nl < 10759 by omega) (by decide)), if_pos (nI_inb (show 382 + 2 * nl + 1 < 10759 by omega) (by decide)), nI_ix (show 382 + 2 * nl < 2 ^ 31 by omega), nI_ix (show 382 + 2 * nl + 1 < 2 ^ 31 by omega), Option.bind_some]
            have hloop : ∀ A : SS, rM_force_L119 FU A (nI t) (nI nl) 0 = some (nI nl, fo (fun (A : SS) i => up A 155 ((406 + 609 * (5 + nl)) + i) (A 155 ((406 + 609 * t) + i))) 609 0 A) := by
              intro A
              refine loop_0' (fun f A i => rM_force_L119 f A (nI t) (nI nl) i) (fun (A : SS) i => up A 155 ((406 + 609 * (5 + nl)) + i) (A 155 ((406 + 609 * t) + i))) 609 (fun A => (nI nl, A)) (by decide) (fun f i A hi => ?_) (fun f A => ?_) A
              · have b1 : nI (406 + 609 * t) + nI i = nI (406 + 609 * t + i) := nI_add _ _
                have b2 : (406 : Int32) + (609 : Int32) * ((5 : Int32) + nI nl) + nI i = nI (406 + 609 * (5 + nl) + i) := by
                  rw [show (406 : Int32) = nI 406 from rfl, show (609 : Int32) = nI 609 from rfl, show (5 : Int32) = nI 5 from rfl, nI_add, pk_mul, nI_add, nI_add]
                show rM_force_L119 (f + 1) A (nI t) (nI nl) (nI i) = _
                rw [rM_force_L119, if_neg (show ¬ (609 : Int32) ≤ nI i from nle (n := 609) hi (by decide)), e0, b1, b2, if_pos (nI_inb (by omega) (by decide)), if_pos (nI_inb (by omega) (by decide)), nI_ix (by omega), nI_ix (by omega), nI_1]
              · show rM_force_L119 (f + 1) A (nI t) (nI nl) (nI 609) = _
                rw [rM_force_L119, if_pos (show (609 : Int32) ≤ nI 609 by decide)]
            rw [hloop, cpy_fo 155 155 (406 + 609 * (5 + nl)) (406 + 609 * t) 609 (by omega) 609 (Nat.le_refl _)]
            refine ⟨(_, _, _), (_, _), rfl, rfl, ?_, hR.landT (T' := upTT T (59 + nl) 0 (T 14 t)) ((kS.refl.up (by omega)).up (by omega) |>.up (by omega)) (kM.refl.ext (fun x hx => funext fun j => ?_)) (fun x g1 g2 => funext fun j => ?_) ?_⟩
            · dsimp only
              rw [up_x (by omega), up_x (by omega), h.s4]
            · dsimp only
              rw [if_neg (by omega), up_x hx, up_x hx, up_x hx]
            · unfold upTT
              rw [if_neg (by omega)]
            · refine (h.addL (t := t) h3 (fun x j q1 q2 => ?_) ?_ (fun a q1 q2 q3 => ?_) ?_ (fun w hw => ?_) (fun x hx => funext fun j => ?_) ?_ ht g3 (fun k hk => ?_)).rel
              · dsimp only
                rw [up_n q1, up_x q2, up_x q2]
              · dsimp only
                rw [up_s, up_x (by omega), up_x (by omega), h.s4, nI_1]
              · dsimp only
                rw [if_neg (by omega), up_j (by omega), up_j (by omega), up_j (by omega)]
              · dsimp only
                rw [if_neg (by omega), up_j (by omega), up_j (by omega), up_s, nI_1]
              · dsimp only
                have hw2 : w = 0 ∨ w = 1 := by omega
                rcases hw2 with rfl | rfl
                · rw [up_x (by omega), up_j (by decide), up_s, if_neg (by omega), up_j (by omega), Nat.add_zero, up_s]
                  exact ⟨rfl, c1⟩
                · rw [up_x (by omega), up_s, if_neg (by omega), up_s]
                  exact ⟨rfl, c2⟩
              · unfold upTT
                rw [if_neg (by omega)]
              · unfold upTT
                rw [if_pos ⟨rfl, rfl⟩]
              · dsimp only
                rw [if_pos (by omega), up_j (by omega), up_j (by omega), up_j (by omega)]
                congr 1
                omega
          · have e8 : nl = 12 := by omega
            subst e8
            simp only [if_neg (show ¬ nI 12 < (12 : Int32) by decide), if_pos (show nI 12 = (12 : Int32) from rfl)]
            exact ⟨_, _, rfl, rfl, rfl, hR.fnd⟩
      · simp only [decide_eq_false c2, Bool.false_eq_true, if_false]
        exact ⟨_, _, rfl, rfl, rfl, hR.fnd⟩
    · simp only [decide_eq_false c1, Bool.false_eq_true, if_false]
      exact ⟨_, _, rfl, rfl, rfl, hR.fnd⟩
  · simp only [decide_eq_false c0, Bool.false_eq_true, if_false]
    exact ⟨_, _, rfl, rfl, rfl, hR.fnd⟩
