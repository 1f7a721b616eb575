/-! ===== copy ===== -/
theorem mt0 {a b : Prop} (h : a → b) (hb : ¬ b) : ¬ a := fun x => hb (h x)
theorem hasRow_eq {S : SS} {x m : Nat} (hm : m ≤ 20) (hs : S x 2 = nI m) (f n : Int32) : cSheet_hasRow S x f n = some (decide (0 ≤ f.toInt ∧ 0 ≤ n.toInt ∧ f.toInt + n.toInt ≤ (m : Int))) := by
  unfold cSheet_hasRow
  rw [hs]
  have e0 : ∀ z : Int32, z < 0 ↔ z.toInt < 0 := fun z => by rw [Int32.lt_iff_toInt_lt]; rfl
  by_cases c1 : f < 0
  · rw [if_pos c1, decide_eq_false]
    have := (e0 f).mp c1
    omega
  · have d1 := mt0 (e0 f).mpr c1
    rw [if_neg c1]
    by_cases c2 : n < 0
    · rw [if_pos c2, decide_eq_false]
      have := (e0 n).mp c2
      omega
    · have d2 := mt0 (e0 n).mpr c2
      rw [if_neg c2]
      by_cases c3 : nI m < n
      · rw [if_pos c3, decide_eq_false]
        have := Int32.lt_iff_toInt_lt.mp c3
        rw [nI_toInt (by omega)] at this
        omega
      · have d3 := mt0 Int32.lt_iff_toInt_lt.mpr c3
        rw [nI_toInt (by omega)] at d3
        rw [if_neg c3]
        have hn : inb n 21 := ⟨by omega, by omega⟩
        obtain ⟨q, hq, rfl⟩ := inb_ex hn
        rw [nI_toInt (by omega)] at d3 ⊢
        rw [pk_sub (by omega)]
        by_cases c4 : nI (m - q) < f
        · rw [if_pos c4, decide_eq_false]
          have := Int32.lt_iff_toInt_lt.mp c4
          rw [nI_toInt (by omega)] at this
          omega
        · have d4 := mt0 Int32.lt_iff_toInt_lt.mpr c4
          rw [nI_toInt (by omega)] at d4
          rw [if_neg c4, decide_eq_true]
          omega
theorem l_sum2 (a b : Int32) : (a.toInt64 + b.toInt64).toInt = a.toInt + b.toInt := by
  rw [Int64.toInt_add, Int32.toInt_toInt64, Int32.toInt_toInt64]
  have h1 := Int32.le_toInt a
  have h2 := Int32.toInt_lt a
  have h3 := Int32.le_toInt b
  have h4 := Int32.toInt_lt b
  rw [Int.bmod_eq_of_le (by omega) (by omega)]
theorem l_gt (a b c : Int32) : (0 < lg_cmp (a.toInt64 + b.toInt64) c.toInt64) ↔ c.toInt < a.toInt + b.toInt := by
  rw [lg_cmp_gt, Int64.lt_iff_toInt_lt, l_sum2, Int32.toInt_toInt64]
theorem l_le (a b c : Int32) : (lg_cmp (a.toInt64 + b.toInt64) c.toInt64 ≤ 0) ↔ a.toInt + b.toInt ≤ c.toInt := by
  rw [lg_cmp_le, Int64.le_iff_toInt_le, l_sum2, Int32.toInt_toInt64]
theorem copy_loop {M : SS} {s t f g n : Nat} (hs : s < 4) (ht : t < 4) (hf : f + n ≤ 20) (hg : g + n ≤ 20) : ∃ M', rM_copy_L127 FU M (nI s) (nI f) (nI t) (nI g) (nI n) 0 = some (nI n, M') ∧ (∀ x, x ≠ 170 → x ≠ 171 → M' x = M x) ∧ ∀ j, M' 170 j = if 20 * t + g ≤ j ∧ j < 20 * t + g + n then M 170 (20 * s + f + (j - (20 * t + g))) else M 170 j := by
  have e1 : ∀ (u v i : Nat), ((20 : Int32) * nI u + nI v) + nI i = nI (20 * u + v + i) := by
    intro u v i
    rw [show (20 : Int32) = nI 20 from rfl, pk_mul, nI_add, nI_add]
  have l1 : rM_copy_L127 FU M (nI s) (nI f) (nI t) (nI g) (nI n) 0 = rM_copy_L164 FU (fo (fun (A : SS) i => up A 171 (0 + i) (A 170 ((20 * s + f) + i))) n 0 M) (nI t) (nI g) (nI n) 0 := by
    have : ∀ k i A fu, i + k = n → k < fu → rM_copy_L127 fu A (nI s) (nI f) (nI t) (nI g) (nI n) (nI i) = rM_copy_L164 FU (fo (fun (A : SS) i => up A 171 (0 + i) (A 170 ((20 * s + f) + i))) k i A) (nI t) (nI g) (nI n) 0 := by
      intro k
      induction k with
      | zero =>
        intro i A fu hi hfu
        obtain ⟨h, rfl⟩ : ∃ h, fu = h + 1 := ⟨fu - 1, by omega⟩
        rw [rM_copy_L127, show i = n by omega, if_pos (Int32.le_refl _)]
        rfl
      | succ k ih =>
        intro i A fu hi hfu
        obtain ⟨h, rfl⟩ : ∃ h, fu = h + 1 := ⟨fu - 1, by omega⟩
        rw [rM_copy_L127, if_neg (nle (show i < n by omega) (by omega)), e1, if_pos (nI_inb (by omega) (by decide)), if_pos (nI_inb (by omega) (by decide)), nI_ix (by omega), nI_ix (by omega), nI_1, ih (i + 1) _ h (by omega) (by omega)]
        show _ = rM_copy_L164 FU (fo _ k (i + 1) (up A 171 (0 + i) (A 170 (20 * s + f + i)))) _ _ _ _
        rw [Nat.zero_add]
    exact this n 0 M FU (by omega) (by unfold FU; omega)
  have l2 : ∀ A : SS, rM_copy_L164 FU A (nI t) (nI g) (nI n) 0 = some (nI n, fo (fun (A : SS) i => up A 170 ((20 * t + g) + i) (A 171 (0 + i))) n 0 A) := by
    intro A
    refine loop_0' (fun f A i => rM_copy_L164 f A (nI t) (nI g) (nI n) i) (fun (A : SS) i => up A 170 ((20 * t + g) + i) (A 171 (0 + i))) n (fun A => (nI n, A)) (by omega) (fun f i A hi => ?_) (fun f A => ?_) A
    · show rM_copy_L164 (f + 1) A _ _ _ (nI i) = _
      rw [rM_copy_L164, if_neg (nle hi (by omega)), e1, if_pos (nI_inb (by omega) (by decide)), if_pos (nI_inb (by omega) (by decide)), nI_ix (by omega), nI_ix (by omega), nI_1, Nat.zero_add]
    · show rM_copy_L164 (f + 1) A _ _ _ (nI n) = _
      rw [rM_copy_L164, if_pos (Int32.le_refl _)]
  rw [l1, l2, cpy_fo 171 170 0 (20 * s + f) n (Or.inl (by decide)) n (Nat.le_refl _), cpy_fo 170 171 (20 * t + g) 0 n (Or.inl (by decide)) n (Nat.le_refl _)]
  refine ⟨_, rfl, fun x h1 h2 => funext fun j => ?_, fun j => ?_⟩
  · rw [if_neg (by omega), if_neg (by omega)]
  · by_cases c : 20 * t + g ≤ j ∧ j < 20 * t + g + n
    · rw [if_pos ⟨rfl, c⟩, if_pos c, if_pos (by omega)]
      congr 1
      omega
    · rw [if_neg (fun z => c z.2), if_neg c, if_neg (by omega)]
theorem sim_copy (S : SS) (K : KS) (T : TS) (X : XS) (M : SS) (z0 z1 z2 z3 z4 : Int32) (hR : Rel S K T X M) : ∃ p q, cD_copy S z0 z1 z2 z3 z4 = some p ∧ rM_copy M z0 z1 z2 z3 z4 = some q ∧ p.1 = q.1 ∧ Rel p.2 K T X q.2 := by
  have hs := hR.sh
  unfold cD_copy rM_copy cD_copy_J14 rM_copy_J14 cD_copy_J45 rM_copy_J39 cD_copy_J111 rM_copy_J117
  simp only [Option.bind_some, cD_isSheet_eq, rM_isSheet_eq, found_eq, finds_eq, missing_eq]
  by_cases h1 : inb z0 4
  · simp only [decide_eq_true h1, if_true]
    by_cases h2 : inb z2 4
    · have l1 := inb_lt h1
      have l2 := inb_lt h2
      obtain ⟨a1, a2, a3, a4⟩ := hs (ix z0) l1
      obtain ⟨b1, b2, b3, b4⟩ := hs (ix z2) l2
      obtain ⟨m, hm, em⟩ := inb_ex a3
      obtain ⟨n, hn, en⟩ := inb_ex b3
      simp only [decide_eq_true h2, if_true, if_pos h1, if_pos h2, a1, b1]
      by_cases c1 : M 168 (ix z0) = 0
      · simp only [decide_eq_true c1, if_true, if_pos c1]
        exact ⟨_, _, rfl, rfl, rfl, hR.fnd⟩
      simp only [decide_eq_false c1, Bool.false_eq_true, if_false, if_neg c1]
      by_cases c2 : M 168 (ix z2) = 0
      · simp only [decide_eq_true c2, if_true, if_pos c2]
        exact ⟨_, _, rfl, rfl, rfl, hR.fnd⟩
      simp only [decide_eq_false c2, Bool.false_eq_true, if_false, if_neg c2]
      by_cases c3 : M 168 (ix z0) = M 168 (ix z2)
      · have e0 : ∀ z : Int32, z < 0 ↔ z.toInt < 0 := fun z => by rw [Int32.lt_iff_toInt_lt]; rfl
        have tm : (M 169 (ix z0)).toInt = (m : Int) := by rw [em, nI_toInt (by omega)]
        have tn : (M 169 (ix z2)).toInt = (n : Int) := by rw [en, nI_toInt (by omega)]
        simp only [if_pos c3, hasRow_eq (show m ≤ 20 by omega) (a2.trans em), hasRow_eq (show n ≤ 20 by omega) (b2.trans en), Option.bind_some, e0, l_gt, l_le, tm, tn]
        by_cases r1 : 0 ≤ z1.toInt ∧ 0 ≤ z4.toInt ∧ z1.toInt + z4.toInt ≤ (m : Int)
        · by_cases r2 : 0 ≤ z3.toInt ∧ 0 ≤ z4.toInt ∧ z3.toInt + z4.toInt ≤ (n : Int)
          · have cp : cpOk 20 20 z1 z3 z4 := ⟨r1.1, r2.1, r1.2.1, by have := r1.2.2; omega, by have := r2.2.2; omega⟩
            rw [decide_eq_true r1, decide_eq_true r2, if_pos rfl, if_pos rfl, if_pos cp, if_neg (by omega), if_neg (by omega), if_neg (by omega), if_neg (by omega), if_pos r2.2.2]
            obtain ⟨f, hf, ef⟩ := inb_ex (show inb z1 21 from ⟨r1.1, by omega⟩)
            obtain ⟨g, hg, eg⟩ := inb_ex (show inb z3 21 from ⟨r2.1, by omega⟩)
            obtain ⟨k, hk, ek⟩ := inb_ex (show inb z4 21 from ⟨r1.2.1, by omega⟩)
            have i1 : ix z1 = f := by rw [ef]; exact nI_ix (by omega)
            have i3 : ix z3 = g := by rw [eg]; exact nI_ix (by omega)
            have i4 : ix z4 = k := by rw [ek]; exact nI_ix (by omega)
            have t1 : z1.toInt = (f : Int) := by rw [ef]; exact nI_toInt (by omega)
            have t3 : z3.toInt = (g : Int) := by rw [eg]; exact nI_toInt (by omega)
            have t4 : z4.toInt = (k : Int) := by rw [ek]; exact nI_toInt (by omega)
            obtain ⟨M', m1, m2, m3⟩ := copy_loop (M := M) (s := ix z0) (t := ix z2) (f := f) (g := g) (n := k) l1 l2 (by omega) (by omega)
            rw [← inb_nI h1, ← inb_nI h2, ← ef, ← eg, ← ek] at m1
            rw [m1]
            refine ⟨_, _, rfl, rfl, rfl, hR.sheet (fun x hx => funext fun j => ?_) (fun x hx => m2 x (by omega) (by omega)) (fun s hs4 => ?_)⟩
            · dsimp only
              unfold cpS
              rw [if_neg (by omega)]
            · dsimp only
              obtain ⟨d1, d2, d3, d4⟩ := hs s hs4
              unfold cpS
              rw [if_neg (by omega), if_neg (by omega), m2 168 (by decide) (by decide), m2 169 (by decide) (by decide), i1, i3, i4]
              refine ⟨d1, d2, d3, fun j hj => ?_⟩
              rw [m3]
              by_cases es : s = ix z2
              · subst es
                by_cases cj : g ≤ j ∧ j < g + k
                · rw [if_pos (by omega), if_pos (by omega), show 146 + 2 * ix z0 + 1 = 147 + 2 * ix z0 by omega, a4 _ (by omega)]
                  congr 1
                  omega
                · rw [if_neg (by omega), if_neg (by omega)]
                  exact d4 j hj
              · rw [if_neg (by omega), if_neg (by omega)]
                exact d4 j hj
          · rw [decide_eq_true r1, decide_eq_false r2, if_pos rfl, if_neg (by decide)]
            refine ⟨_, (-100001, up M 154 3 (M 154 3 + 1)), rfl, ?_, rfl, hR.fnd⟩
            rw [if_neg (by omega)]
            by_cases q1 : z3.toInt < 0
            · rw [if_pos q1]
            · rw [if_neg q1, if_neg (by omega), if_neg (by omega), if_neg (by omega)]
        · rw [decide_eq_false r1, if_neg (by decide)]
          refine ⟨_, (-100001, up M 154 3 (M 154 3 + 1)), rfl, ?_, rfl, hR.fnd⟩
          by_cases q1 : z1.toInt < 0
          · rw [if_pos q1]
          · rw [if_neg q1]
            by_cases q2 : z3.toInt < 0
            · rw [if_pos q2]
            · rw [if_neg q2]
              by_cases q3 : z4.toInt < 0
              · rw [if_pos q3]
              · rw [if_neg q3, if_pos (by omega)]
      · simp only [if_neg c3]
        exact ⟨_, _, rfl, rfl, rfl, hR.fnd⟩
    · simp only [decide_eq_false h2, Bool.false_eq_true, if_false]
      exact ⟨_, _, rfl, rfl, rfl, hR.fnd⟩
  · simp only [decide_eq_false h1, Bool.false_eq_true, if_false]
    exact ⟨_, _, rfl, rfl, rfl, hR.fnd⟩
