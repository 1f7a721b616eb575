/-! ===== small sums of thrift; proves ===== -/
theorem hung_c : ∀ r, r < 130 → (if (0 : Int32) < 10 - nI r then 10 - nI r else 0) = nI (10 - r) := by decide +kernel
theorem kept_c : ∀ r, r < 130 → (if (if (0 : Int32) < nI r - 10 then nI r - 10 else 0) < 60 then (if (0 : Int32) < nI r - 10 then nI r - 10 else 0) else 60) = nI (min 60 (r - 10)) := by decide +kernel
theorem hung_m : ∀ r, r < 130 → (0 ≤ nI r - 10 → 10 - r = 0) ∧ (¬ 0 ≤ nI r - 10 → -(nI r - 10) = nI (10 - r)) := by decide +kernel
theorem kept_m : ∀ r, r < 130 → (¬ 0 ≤ nI r - 10 → min 60 (r - 10) = 0) ∧ (0 ≤ nI r - 10 → nI r - 10 ≤ 60 → nI r - 10 = nI (min 60 (r - 10))) ∧ (0 ≤ nI r - 10 → ¬ nI r - 10 ≤ 60 → min 60 (r - 10) = 60) := by decide +kernel
theorem chung_eq {r : Nat} (h : r < 130) : cThrift_hungerWith (nI r) = some (nI (10 - r)) := by
  unfold cThrift_hungerWith
  rw [hung_c r h]
theorem ckept_eq {r : Nat} (h : r < 130) : cThrift_keptOf (nI r) = some (nI (min 60 (r - 10))) := by
  unfold cThrift_keptOf
  rw [kept_c r h]
theorem min_lt {a b : Nat} (ha : a < 2 ^ 31) (hb : b < 2 ^ 31) : (if nI b < nI a then nI b else nI a) = nI (min a b) := by
  by_cases c : b < a
  · rw [if_pos (nI_lt c ha), Nat.min_eq_right (by omega)]
  · rw [if_neg (nI_nlt (by omega) hb), Nat.min_eq_left (by omega)]
theorem cmost_eq {a b : Nat} (ha : a < 2 ^ 30) (hb : b < 2 ^ 30) : cThrift_mostPayment (nI a) (nI b) = some (nI (min 9 (min a b))) := by
  unfold cThrift_mostPayment
  rw [min_lt (by omega) (by omega)]
  have := min_lt (a := 9) (b := min a b) (by decide) (by omega)
  exact congrArg some this
theorem mmost_eq {a b : Nat} (ha : a < 2 ^ 30) (hb : b < 2 ^ 30) : rM_mostPaid (nI a) (nI b) = some (nI (min 9 (min a b))) := by
  have h9 : ∀ c, c < 2 ^ 30 → rM_mostPaid_J10 (nI c) = some (nI (min 9 c)) := by
    intro c hc
    unfold rM_mostPaid_J10
    by_cases d : 9 ≤ c
    · rw [if_pos (show (9 : Int32) ≤ nI c from nI_le (a := 9) d (by omega)), Nat.min_eq_left d]
      rfl
    · rw [if_neg (show ¬ (9 : Int32) ≤ nI c from nle (n := 9) (by omega) (by decide)), Nat.min_eq_right (by omega)]
  unfold rM_mostPaid
  by_cases c : b ≤ a
  · rw [if_pos (nI_le c (by omega)), h9 b hb, Nat.min_eq_right c]
  · rw [if_neg (nle (by omega) (by omega)), h9 a ha, Nat.min_eq_left (show a ≤ b by omega)]
theorem proves_loop {S M : SS} {q n : Nat} (hq : q < 4) (hn : n ≤ 20) (h1 : S (146 + 2 * q) 2 = nI n) (h2 : M 169 q = nI n) (h3 : ∀ j, j < 20 → S (147 + 2 * q) j = M 170 (20 * q + j)) (v : Int32) : ∀ d i s o a7 f g, i + d = 40 → d < f → d < g → s ≤ 60 → o ≤ 60 → ∃ r, cThrift_check_L12 S f v (146 + 2 * q) (nI s) (nI o) a7 (nI i) = some r ∧ rM_proves_L75 g M v (nI q) (nI s) (nI o) a7 (nI i) = some (r, M) := by
  intro d
  induction d using Nat.strongRecOn with
  | _ d ih =>
  intro i s o a7 f g hi hf hg hs ho
  obtain ⟨f', rfl⟩ : ∃ f', f = f' + 1 := ⟨f - 1, by omega⟩
  obtain ⟨g', rfl⟩ : ∃ g', g = g' + 1 := ⟨g - 1, by omega⟩
  have hq4 : inb (nI q) 4 := nI_inb hq (by decide)
  have hix : ix (nI q) = q := nI_ix (by omega)
  rw [cThrift_check_L12, rM_proves_L75, if_pos hq4, hix, h1, h2, nI_1]
  by_cases c : n ≤ i + 1
  · have c' : nI n ≤ nI (i + 1) := nI_le c (by omega)
    rw [if_pos c', if_pos c']
    by_cases c2 : a7 + 2 * nI o ≤ v
    · rw [if_pos c2, if_pos c2]; exact ⟨_, rfl, rfl⟩
    · rw [if_neg c2, if_neg c2]; exact ⟨_, rfl, rfl⟩
  · have c' : ¬ nI n ≤ nI (i + 1) := nle (by omega) (by omega)
    have e1 : (20 : Int32) * nI q + nI i = nI (20 * q + i) := by rw [show (20 : Int32) = nI 20 from rfl, pk_mul, nI_add]
    have e2 : nI (20 * q + i) + 1 = nI (20 * q + i + 1) := nI_1 _
    rw [if_neg c', if_neg c', if_pos (nI_inb (show i < 20 by omega) (by decide)), e1, e2, if_pos (nI_inb (show 20 * q + i < 80 by omega) (by decide)), if_pos (nI_inb (show 20 * q + i + 1 < 80 by omega) (by decide)), nI_ix (show i < 2 ^ 31 by omega), nI_ix (show 20 * q + i < 2 ^ 31 by omega), nI_ix (show 20 * q + i + 1 < 2 ^ 31 by omega), show 146 + 2 * q + 1 = 147 + 2 * q by omega, h3 i (by omega), cD_isHarvest_eq, in_eq]
    simp only [Option.bind_some]
    by_cases c3 : inb (M 170 (20 * q + i)) 31
    · have c3' : 0 ≤ M 170 (20 * q + i) ∧ M 170 (20 * q + i) ≤ 30 := (inb_lit (by decide)).mpr c3
      obtain ⟨w, hw, ew⟩ := inb_ex c3
      rw [decide_eq_true c3, decide_eq_true c3', if_pos rfl, if_pos rfl, if_pos (nI_inb (show i + 1 < 20 by omega) (by decide)), nI_ix (show i + 1 < 2 ^ 31 by omega), h3 (i + 1) (by omega), ew, nI_add, cmost_eq (by omega) (by omega), mmost_eq (by omega) (by omega), show 20 * q + (i + 1) = 20 * q + i + 1 by omega]
      simp only [Option.bind_some, within_eq, in_eq]
      by_cases c4 : 0 ≤ M 170 (20 * q + i + 1) ∧ M 170 (20 * q + i + 1) ≤ nI (min 9 (min (s + w) o))
      · obtain ⟨p, hp, ep⟩ := inb_ex (show inb (M 170 (20 * q + i + 1)) (min 9 (min (s + w) o) + 1) from (inb_lit (by rw [nI_toInt (by omega)]; omega)).mp c4)
        have er : nI (s + w) - nI p = nI (s + w - p) := pk_sub (by omega)
        rw [decide_eq_true c4, if_pos rfl, if_pos rfl, ep, er, chung_eq (by omega), ckept_eq (by omega), pk_sub (show p ≤ o by omega)]
        simp only [Option.bind_some]
        have hr : s + w - p < 130 := by omega
        have key : ∀ (w1 : Int32), w1 = nI (10 - (s + w - p)) → rM_proves_J186 (rM_proves_L75 g') M v (nI q) (nI o) (nI i) (nI p) (nI (s + w - p) - 10) a7 w1 = rM_proves_L75 g' M v (nI q) (nI (min 60 (s + w - p - 10))) (nI (o - p)) (a7 + nI (10 - (s + w - p))) (nI (i + 2)) := by
          intro w1 hw1
          unfold rM_proves_J186 rM_proves_J212
          rw [hw1, pk_sub (show p ≤ o by omega), show nI i + 2 = nI (i + 2) from nI_add i 2]
          obtain ⟨k1, k2, k3⟩ := kept_m _ hr
          by_cases z1 : 0 ≤ nI (s + w - p) - 10
          · rw [if_pos z1]
            by_cases z2 : nI (s + w - p) - 10 ≤ 60
            · rw [if_pos z2, k2 z1 z2]
            · rw [if_neg z2, k3 z1 z2]
              rfl
          · rw [if_neg z1, k1 z1]
            rfl
        obtain ⟨m1, m2⟩ := hung_m _ hr
        have km : (if 0 ≤ nI (s + w - p) - 10 then rM_proves_J186 (rM_proves_L75 g') M v (nI q) (nI o) (nI i) (nI p) (nI (s + w - p) - 10) a7 0 else rM_proves_J186 (rM_proves_L75 g') M v (nI q) (nI o) (nI i) (nI p) (nI (s + w - p) - 10) a7 (-(nI (s + w - p) - 10))) = rM_proves_L75 g' M v (nI q) (nI (min 60 (s + w - p - 10))) (nI (o - p)) (a7 + nI (10 - (s + w - p))) (nI (i + 2)) := by
          by_cases z1 : 0 ≤ nI (s + w - p) - 10
          · rw [if_pos z1]
            exact key 0 (by rw [m1 z1]; rfl)
          · rw [if_neg z1]
            exact key _ (m2 z1)
        rw [km, show nI i + 2 = nI (i + 2) from nI_add i 2]
        exact ih (d - 2) (by omega) (i + 2) _ _ _ f' g' (by omega) (by omega) (by omega) (by omega) (by omega)
      · rw [decide_eq_false c4, if_neg (by decide), if_neg (by decide)]
        exact ⟨_, rfl, rfl⟩
    · have c3' : ¬ (0 ≤ M 170 (20 * q + i) ∧ M 170 (20 * q + i) ≤ 30) := fun z => c3 ((inb_lit (by decide)).mp z)
      rw [decide_eq_false c3, decide_eq_false c3', if_neg (by decide), if_neg (by decide)]
      exact ⟨_, rfl, rfl⟩
theorem sim_proves (S : SS) (K : KS) (T : TS) (X : XS) (M : SS) (z0 z1 z2 z3 : Int32) (hR : Rel S K T X M) : ∃ p q, cD_proves S z0 z1 z2 z3 = some p ∧ rM_proves M z0 z1 z2 z3 = some q ∧ p.1 = q.1 ∧ Rel p.2 K T X q.2 := by
  have hs := hR.sh
  unfold cD_proves rM_proves cD_proves_J33 rM_proves_J39 cThrift_check
  simp only [within_eq, in_eq, found_eq, finds_eq, Option.bind_some, cD_isPurse_eq, cD_isSheet_eq, rM_isSheet_eq, missing_eq]
  have pz : ∀ z : Int32, decide (0 ≤ z ∧ z ≤ 60) = decide (inb z 61) := fun z => decide_eq_decide.mpr (inb_lit (by decide))
  rw [pz, pz]
  by_cases c0 : inb z0 61
  · simp only [decide_eq_true c0, if_true]
    by_cases c1 : inb z1 61
    · simp only [decide_eq_true c1, if_true]
      by_cases c2 : 0 ≤ z2 ∧ z2 ≤ 999
      · simp only [decide_eq_true c2, if_true]
        by_cases c3 : inb z3 4
        · obtain ⟨q, hq, rfl⟩ := inb_ex c3
          obtain ⟨a1, a2, a3, a4⟩ := hs q hq
          obtain ⟨n, hn, en⟩ := inb_ex a3
          simp only [decide_eq_true c3, if_true, if_pos c3, nI_ix (show q < 2 ^ 31 by omega), a1]
          by_cases c4 : M 168 q = 0
          · simp only [decide_eq_true c4, if_true, if_pos c4]
            exact ⟨_, _, rfl, rfl, rfl, hR.fnd⟩
          · simp only [decide_eq_false c4, Bool.false_eq_true, if_false, if_neg c4]
            obtain ⟨s, hs1, rfl⟩ := inb_ex c0
            obtain ⟨o, ho1, rfl⟩ := inb_ex c1
            obtain ⟨r, r1, r2⟩ := proves_loop hq (show n ≤ 20 by omega) (a2.trans en) en a4 z2 40 0 s o 0 FU FU (by omega) (by unfold FU; omega) (by unfold FU; omega) (by omega) (by omega)
            rw [show (0 : Int32) = nI 0 from rfl] 
            rw [show nI 0 = (0 : Int32) from rfl] at r1 r2 ⊢
            rw [r1, r2]
            exact ⟨_, _, rfl, rfl, rfl, hR⟩
        · simp only [decide_eq_false c3, Bool.false_eq_true, if_false]
          exact ⟨_, _, rfl, rfl, rfl, hR.fnd⟩
      · simp only [decide_eq_false c2, Bool.false_eq_true, if_false]
        exact ⟨_, _, rfl, rfl, rfl, hR.fnd⟩
    · simp only [decide_eq_false c1, Bool.false_eq_true, if_false]
      exact ⟨_, _, rfl, rfl, rfl, hR.fnd⟩
  · simp only [decide_eq_false c0, Bool.false_eq_true, if_false]
    exact ⟨_, _, rfl, rfl, rfl, hR.fnd⟩
