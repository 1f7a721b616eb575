theorem rg_ne7 (a : Nat) : rg a ≠ 7 := by
  unfold rg
  repeat' split
  all_goals omega
theorem LD.rests {S S' : SS} {T : TS} {X : XS} {N : Nat → Int32} {np nf nx nl yr : Nat} (h : LD S T X N np nf nx nl yr) (hS : ∀ x, x ≠ 16 → S' x = S x) : LD S' T X N np nf nx nl yr := by
  refine ⟨h.1, fun a ha => ?_, h.2.2.frame (fun x g1 g2 => hS x (by omega)) (fun _ _ => rfl)⟩
  have := rg_ne7 a
  rw [hS (9 + rg a) (by omega)]
  exact h.2.1 a ha
theorem ringI (s A B w b : Int32) : s - (A + w) + (B + b) = s - A + B - w + b := by
  simp only [Int32.sub_eq_add_neg, Int32.neg_add]
  ac_rfl
section Chain2
variable {S : SS} {T : TS} {X : XS} {N : Nat → Int32} {np nf nx nl yr : Nat}
theorem rest_neg {s a b : Nat} (hs : s < 10000) (ha : a ≤ 200000) (hb : b ≤ 200000) : (0 ≤ nI s - nI a + nI b) ↔ ¬ s + b < a := by
  have e : nI s - nI a + nI b = nI (s + b) - nI a := by
    rw [← nI_add]
    simp only [Int32.sub_eq_add_neg]
    ac_rfl
  rw [e, Int32.le_iff_toInt_le, pk_sub_toInt (by omega) (by omega)]
  show (0 : Int) ≤ _ ↔ _
  omega
theorem behind_eq (h : LD S T X N np nf nx nl yr) (U x : Int32) : ∃ S', cLand_unableBehind S U x = some (gI N x np nx U, S') ∧ ∀ y, y ≠ 16 → S' y = S y := by
  have hc := h.cp
  unfold cLand_unableBehind
  obtain ⟨A1, e1, I1, J1⟩ := loop_e0 (fun f A i => cLand_unableBehind_L2 f A U x i) np (fun A => cLand_unableBehind_L33 FU A U x 0) (fun i A => (∀ y, y ≠ 16 → A y = S y) ∧ ∀ p, p < i → A 16 p = N (10 + 10 * p + 6)) (by omega) (fun f i A hi hI => by
    have e6 : S (17 + i) 3 = N (10 + 10 * i + 6) := h.p hi 6 (by decide)
    refine ⟨up A 16 i (N (10 + 10 * i + 6)), ?_, fun y hy => by rw [up_o hy]; exact hI.1 y hy, fun p hp => ?_⟩
    · show cLand_unableBehind_L2 (f + 1) A U x (nI i) = _
      rw [cLand_unableBehind_L2, hI.1 9 (by decide), h.s0, if_neg (nle hi (by omega)), if_pos (nI_inb (by omega) (by decide)), nI_ix (by omega), hI.1 (17 + i) (by omega), e6, nI_1]
    · by_cases e : p = i
      · subst e
        rw [up_s]
      · rw [up_j e]
        exact hI.2 p (by omega)) (fun f A hI => by
    show cLand_unableBehind_L2 (f + 1) A U x (nI np) = _
    rw [cLand_unableBehind_L2, hI.1 9 (by decide), h.s0, if_pos (Int32.le_refl _)]) S ⟨fun _ _ => rfl, fun p hp => absurd hp (by omega)⟩
  obtain ⟨A2, e2, I2, J2⟩ := loop_e0 (fun f A i => cLand_unableBehind_L33 f A U x i) nx (fun A => cLand_unableBehind_L122 FU A 0 0) (fun k A => (∀ y, y ≠ 16 → A y = S y) ∧ ∀ p, p < np → A 16 p = N (10 + 10 * p + 6) - fo (oweF N (nI p) x) k 0 0 + fo (owtF N (nI p) x U) k 0 0) (by omega) (fun f k A hk hI => by
    have hI1 := hI.1
    have h20 : inb (nI k) 20 := nI_inb (by omega) (by decide)
    obtain ⟨b, hb, eb⟩ := inb_ex (h.oka hk 1 (by decide) : inb _ np)
    obtain ⟨t, ht, et⟩ := inb_ex (h.oka hk 2 (by decide) : inb _ np)
    have b1 : S (39 + k) 1 = nI b := (h.a hk 1 (by decide)).trans eb
    have t1 : S (39 + k) 2 = nI t := (h.a hk 2 (by decide)).trans et
    have go : ∀ w : Int32, (∀ p a, oweF N (nI p) x a k = a + (if nI b = nI p then w else 0)) → (∀ p a, owtF N (nI p) x U a k = a + (if nI t = nI p then (if (U >>> (nI b &&& 31)) &&& 1 = 0 then w else 0) else 0)) → ∃ A', cLand_unableBehind_J63 (cLand_unableBehind_L33 f) A U x (nI k) (39 + k) w = cLand_unableBehind_L33 f A' U x (nI (k + 1)) ∧ (∀ y, y ≠ 16 → A' y = S y) ∧ ∀ p, p < np → A' 16 p = N (10 + 10 * p + 6) - fo (oweF N (nI p) x) (k + 1) 0 0 + fo (owtF N (nI p) x U) (k + 1) 0 0 := by
      intro w hw1 hw2
      generalize hbeta : (if (U >>> (nI b &&& 31)) &&& 1 = 0 then w else 0) = beta at hw2
      have b14 : inb (nI b) 14 := nI_inb (by omega) (by decide)
      have t14 : inb (nI t) 14 := nI_inb (by omega) (by decide)
      refine ⟨up (up A 16 b (A 16 b - w)) 16 t ((up A 16 b (A 16 b - w)) 16 t + beta), ?_, fun y hy => by rw [up_o hy, up_o hy]; exact hI1 y hy, fun p hp => ?_⟩
      · unfold cLand_unableBehind_J63 cLand_unableBehind_J109
        have q2 : up A 16 b (A 16 b - w) (39 + k) 2 = nI t := by rw [up_x (by omega), hI1 (39 + k) (by omega)]; exact t1
        have q1 : up A 16 b (A 16 b - w) (39 + k) 1 = nI b := by rw [up_x (by omega), hI1 (39 + k) (by omega)]; exact b1
        rw [hI1 (39 + k) (by omega), b1, if_pos b14, nI_ix (show b < 2 ^ 31 by omega), q2, q1, if_pos t14, nI_ix (show t < 2 ^ 31 by omega), nI_1, ← hbeta]
        by_cases c : (U >>> (nI b &&& 31)) &&& 1 = 0
        · rw [if_pos c, if_pos c, if_pos t14]
        · rw [if_neg c, if_neg c, if_pos t14]
      · rw [fo_last, fo_last, Nat.zero_add, hw1, hw2, ringI, ← hI.2 p hp]
        have eqb : (nI b = nI p) = (b = p) := propext (nI_eq (by omega) (by omega))
        have eqt : (nI t = nI p) = (t = p) := propext (nI_eq (by omega) (by omega))
        simp only [eqb, eqt]
        have hA1 : up A 16 b (A 16 b - w) 16 p = A 16 p - (if b = p then w else 0) := by
          by_cases c : b = p
          · subst c
            rw [up_s, if_pos rfl]
          · rw [up_j (fun z => c z.symm), if_neg c, Int32.sub_zero]
        by_cases c : t = p
        · subst c
          rw [up_s, if_pos rfl, hA1]
        · rw [up_j (fun z => c z.symm), if_neg c, hA1, Int32.add_zero]
    have hst : cLand_unableBehind_L33 (f + 1) A U x (nI k) = if nI k = x then cLand_unableBehind_J63 (cLand_unableBehind_L33 f) A U x (nI k) (39 + k) 0 else cLand_unableBehind_J63 (cLand_unableBehind_L33 f) A U x (nI k) (39 + k) (if N (182 + 10 * k + 9) = 0 then N (182 + 10 * k + 3) - N (182 + 10 * k + 4) else 0) := by
      rw [cLand_unableBehind_L33, hI1 9 (by decide), h.s2, if_neg (nle hk (by omega)), if_pos h20, nI_ix (by omega), openOwed_eq, hI1 (39 + k) (by omega), h.a hk 9 (by decide), h.a hk 3 (by decide), h.a hk 4 (by decide)]
      rfl
    show ∃ a', cLand_unableBehind_L33 (f + 1) A U x (nI k) = cLand_unableBehind_L33 f a' U x (nI (k + 1)) ∧ _
    rw [hst]
    by_cases c1 : nI k = x
    · rw [if_pos c1]
      refine go 0 (fun p a => ?_) (fun p a => ?_)
      · unfold oweF
        rw [if_pos c1, ite_self]
      · unfold owtF
        rw [if_pos c1, ite_self, ite_self]
    · rw [if_neg c1]
      refine go _ (fun p a => ?_) (fun p a => ?_)
      · unfold oweF
        rw [if_neg c1, eb]
        by_cases c2 : N (182 + 10 * k + 9) = 0
        · rw [if_pos c2, if_pos c2]
        · rw [if_neg c2, if_neg c2, ite_self]
      · unfold owtF
        rw [if_neg c1, eb, et]
        by_cases c2 : N (182 + 10 * k + 9) = 0
        · rw [if_pos c2, if_pos c2]
        · rw [if_neg c2, if_neg c2, ite_self, ite_self]) (fun f A hI => by
    show cLand_unableBehind_L33 (f + 1) A U x (nI nx) = _
    rw [cLand_unableBehind_L33, hI.1 9 (by decide), h.s2, if_pos (Int32.le_refl _)]) A1 ⟨I1, fun p hp => by rw [J1 p hp]; show _ = _ - (0 : Int32) + 0; rw [Int32.sub_zero, Int32.add_zero]⟩
  have e3 : cLand_unableBehind_L122 FU A2 0 0 = some (gI N x np nx U, A2) := by
    refine loop_0' (fun f a i => cLand_unableBehind_L122 f A2 a i) (setF (cnt_ N x U nx)) np (fun a => (a, A2)) (by omega) (fun f i a hi => ?_) (fun f a => ?_) 0
    · show cLand_unableBehind_L122 (f + 1) A2 a (nI i) = _
      obtain ⟨s, hs, es⟩ := inb_ex (h.okp hi 6 (by decide) : inb _ 10000)
      obtain ⟨f1, f2⟩ := sumB_eq h x (p := i) nx (Nat.le_refl _)
      obtain ⟨f3, f4⟩ := sumT_eq h x U (p := i) nx (Nat.le_refl _)
      rw [cLand_unableBehind_L122, I2 9 (by decide), h.s0, if_neg (nle hi (by omega)), if_pos (nI_inb (by omega) (by decide)), nI_ix (by omega), J2 i hi, f1, f3, es]
      unfold cLand_unableBehind_J147 setF cnt_
      rw [es, nI_ix (by omega)]
      simp only [bit_eq, Option.bind_some, nI_1]
      by_cases c : s + sumT N x U i nx < sumB N x i nx
      · rw [if_neg (fun z => (rest_neg hs (by omega) (by omega)).mp z c), decide_eq_true c, if_pos rfl]
        rfl
      · rw [if_pos ((rest_neg hs (by omega) (by omega)).mpr c), decide_eq_false c, if_neg (by decide)]
        simp [b2i]
    · show cLand_unableBehind_L122 (f + 1) A2 a (nI np) = _
      rw [cLand_unableBehind_L122, I2 9 (by decide), h.s0, if_pos (Int32.le_refl _)]
  refine ⟨A2, ?_, I2⟩
  rw [show cLand_unableBehind_L2 FU S U x 0 = _ from e1, show cLand_unableBehind_L33 FU A1 U x 0 = _ from e2, e3]
theorem mset_eq {M : SS} (h : LD S T X (M 155) np nf nx nl yr) (U x : Int32) (k19 : SS → Int32 → Int32 → Bool → Option (Int32 × SS)) : rM_chain_L29 k19 FU M x U 0 0 = if gI (M 155) x np nx U = U then k19 M x (gI (M 155) x np nx U) false else k19 M x (gI (M 155) x np nx U) true := by
  have hc := h.cp
  have : ∀ k i a f, i + k = np → k < f → rM_chain_L29 k19 f M x U a (nI i) = if fo (setF (cnt_ (M 155) x U nx)) k i a = U then k19 M x (fo (setF (cnt_ (M 155) x U nx)) k i a) false else k19 M x (fo (setF (cnt_ (M 155) x U nx)) k i a) true := by
    intro k
    induction k with
    | zero =>
      intro i a f hi hf
      obtain ⟨g, rfl⟩ : ∃ g, f = g + 1 := ⟨f - 1, by omega⟩
      rw [rM_chain_L29, h.n0, show i = np by omega, if_pos (Int32.le_refl _)]
      rfl
    | succ k ih =>
      intro i a f hi hf
      obtain ⟨g, rfl⟩ : ∃ g, f = g + 1 := ⟨f - 1, by omega⟩
      have h14 : inb (nI i) 14 := nI_inb (by omega) (by decide)
      obtain ⟨s, hs, es⟩ := inb_ex (h.okp (show i < np by omega) 6 (by decide) : inb _ 10000)
      obtain ⟨f1, f2⟩ := sumB_eq h x (p := i) nx (Nat.le_refl _)
      obtain ⟨f3, f4⟩ := sumT_eq h x U (p := i) nx (Nat.le_refl _)
      rw [rM_chain_L29, h.n0, if_neg (nle (by omega) (by omega)), mowes_eq h.n2 (by omega), rM_own_6 h14, nI_ix (by omega), mowedTo_eq h.n2 (by omega), f1, f3, es]
      simp only [Option.bind_some, nI_add]
      have step : (if nI (sumB (M 155) x i nx) ≤ nI (s + sumT (M 155) x U i nx) then rM_chain_J77 k19 (rM_chain_L29 k19 g) M x U (nI i) a 0 else rM_chain_J77 k19 (rM_chain_L29 k19 g) M x U (nI i) a ((1 : Int32) <<< (nI i &&& 31))) = rM_chain_L29 k19 g M x U (setF (cnt_ (M 155) x U nx) a i) (nI (i + 1)) := by
        unfold rM_chain_J77 setF cnt_
        rw [es, nI_ix (by omega), nI_1]
        by_cases c : s + sumT (M 155) x U i nx < sumB (M 155) x i nx
        · rw [if_neg (nle c (by omega)), decide_eq_true c, if_pos rfl]
        · rw [if_pos (nI_le (by omega) (by omega)), decide_eq_false c, if_neg (by decide)]
      rw [step]
      exact ih (i + 1) _ g (by omega) (by omega)
  exact this np 0 0 FU (by omega) (by unfold FU; omega)
/-- how many of the first n are in a set -/
def cntB (U : Int32) : Nat → Nat
  | 0 => 0
  | k + 1 => cntB U k + (if bt U k = true then 1 else 0)
theorem cntB_le (U : Int32) : ∀ k, cntB U k ≤ k := by
  intro k
  induction k with
  | zero => exact Nat.le_refl _
  | succ k ih =>
    unfold cntB
    split <;> omega
theorem cntB_mono {U V : Int32} (h : ∀ q, q < 32 → bt U q = true → bt V q = true) : ∀ k, k ≤ 32 → cntB U k ≤ cntB V k := by
  intro k
  induction k with
  | zero => intro _; exact Nat.le_refl _
  | succ k ih =>
    intro hk
    have := ih (by omega)
    show cntB U k + _ ≤ cntB V k + _
    by_cases c : bt U k = true
    · rw [if_pos c, if_pos (h k (by omega) c)]
      omega
    · rw [if_neg c]
      omega
theorem cntB_lt {U V : Int32} (h : ∀ q, q < 32 → bt U q = true → bt V q = true) : ∀ k, k ≤ 32 → (∃ q, q < k ∧ bt U q = false ∧ bt V q = true) → cntB U k < cntB V k := by
  intro k
  induction k with
  | zero => intro _ ⟨q, hq, _⟩; omega
  | succ k ih =>
    intro hk ⟨q, hq, h1, h2⟩
    show cntB U k + _ < cntB V k + _
    by_cases e : q = k
    · subst e
      rw [if_neg (by rw [h1]; decide), if_pos h2]
      have := cntB_mono h q (by omega)
      omega
    · have := ih (by omega) ⟨q, by omega, h1, h2⟩
      by_cases c : bt U k = true
      · rw [if_pos c, if_pos (h k (by omega) c)]
        omega
      · rw [if_neg c]
        omega
theorem chain_loop {M : SS} (h0 : LD S T X (M 155) np nf nx nl yr) (x : Int32) : ∀ m U r f g A, np - cntB U np ≤ m → r + m ≤ 14 → m < f → m + 1 < g → (∀ y, y ≠ 16 → A y = S y) → (∀ q, q < 32 → bt U q = true → bt (gI (M 155) x np nx U) q = true) → (∀ q, q < 32 → np ≤ q → bt U q = false) → ∃ V A', cLand_unableWithout_L4 f A x U (nI r) = some (V, A') ∧ rM_chain_L19 g M x U true = some (V, M) ∧ ∀ y, y ≠ 16 → A' y = S y := by
  have hc := h0.cp
  intro m
  induction m with
  | zero =>
    intro U r f g A hm hr hf hg hA hU hU2
    obtain ⟨f', rfl⟩ : ∃ f', f = f' + 1 := ⟨f - 1, by omega⟩
    obtain ⟨g', rfl⟩ : ∃ g', g = g' + 2 := ⟨g - 2, by omega⟩
    obtain ⟨A', b1, b2⟩ := behind_eq (h0.rests hA) U x
    have e : gI (M 155) x np nx U = U := by
      apply b_ext
      intro q hq
      cases hb : bt U q
      · cases hg : bt (gI (M 155) x np nx U) q
        · rfl
        · exfalso
          have hqn : q < np := by
            unfold gI at hg
            rw [bt_set _ _ (by omega) _ hq] at hg
            exact of_decide_eq_true ((Bool.and_eq_true _ _).mp hg).1
          have := cntB_lt hU np (by omega) ⟨q, hqn, hb, hg⟩
          have := cntB_le (gI (M 155) x np nx U) np
          omega
      · exact hU q hq hb
    refine ⟨U, A', ?_, ?_, fun y hy => by rw [b2 y hy]; exact hA y hy⟩
    · rw [cLand_unableWithout_L4, if_neg (show ¬ (14 : Int32) < nI r from nI_nlt (a := 14) (b := r) (by omega) (by decide)), b1]
      simp only [Option.bind_some, e, if_true]
    · rw [rM_chain_L19, if_pos rfl, mset_eq h0, e, if_pos rfl, rM_chain_L19, if_neg (by decide)]
  | succ m ih =>
    intro U r f g A hm hr hf hg hA hU hU2
    obtain ⟨f', rfl⟩ : ∃ f', f = f' + 1 := ⟨f - 1, by omega⟩
    obtain ⟨g', rfl⟩ : ∃ g', g = g' + 2 := ⟨g - 2, by omega⟩
    obtain ⟨A', b1, b2⟩ := behind_eq (h0.rests hA) U x
    by_cases e : gI (M 155) x np nx U = U
    · refine ⟨U, A', ?_, ?_, fun y hy => by rw [b2 y hy]; exact hA y hy⟩
      · rw [cLand_unableWithout_L4, if_neg (show ¬ (14 : Int32) < nI r from nI_nlt (a := 14) (b := r) (by omega) (by decide)), b1]
        simp only [Option.bind_some, e, if_true]
      · rw [rM_chain_L19, if_pos rfl, mset_eq h0, e, if_pos rfl, rM_chain_L19, if_neg (by decide)]
    · have hbits : ∀ q, q < 32 → np ≤ q → bt (gI (M 155) x np nx U) q = false := by
        intro q hq hn
        unfold gI
        rw [bt_set _ _ (by omega) _ hq, decide_eq_false (by omega), Bool.false_and]
      have hlt : cntB U np < cntB (gI (M 155) x np nx U) np := by
        refine cntB_lt hU np (by omega) (Classical.byContradiction fun hn => e (b_ext fun q hq => ?_))
        cases hb : bt U q
        · cases hg : bt (gI (M 155) x np nx U) q
          · rfl
          · exfalso
            have hqn : q < np := Decidable.byContradiction fun z => by
              rw [hbits q hq (by omega)] at hg
              cases hg
            exact hn ⟨q, hqn, hb, hg⟩
        · exact hU q hq hb
      obtain ⟨V, A'', c1, c2, c3⟩ := ih (gI (M 155) x np nx U) (r + 1) f' (g' + 1) A' (by have := cntB_le U np; omega) (by omega) (by omega) (by omega) (fun y hy => by rw [b2 y hy]; exact hA y hy) (gI_mono x hc.1 hU) hbits
      refine ⟨V, A'', ?_, ?_, c3⟩
      · rw [cLand_unableWithout_L4, if_neg (show ¬ (14 : Int32) < nI r from nI_nlt (a := 14) (b := r) (by omega) (by decide)), b1]
        simp only [Option.bind_some, if_neg e, nI_1]
        exact c1
      · rw [rM_chain_L19, if_pos rfl, mset_eq h0, if_neg e]
        exact c2
end Chain2
theorem sim_chain (S : SS) (K : KS) (T : TS) (X : XS) (M : SS) (z0 : Int32) (hR : Rel S K T X M) : ∃ p q, cD_chain S z0 = some p ∧ rM_chain M z0 = some q ∧ p.1 = q.1 ∧ Rel p.2 K T X q.2 := by
  obtain ⟨np, nf, nx, nl, yr, h⟩ := hR.ld
  have hc := h.cp
  unfold cD_chain rM_chain cLand_unableWithout
  rw [cLand_hasPaper_eq h.s2 (by omega), rM_isPaper_eq h.n2 (by omega)]
  simp only [Option.bind_some, found_eq, finds_eq]
  by_cases h1 : inb z0 nx
  · simp only [decide_eq_true h1, if_true]
    have z0' : ∀ q, q < 32 → bt 0 q = true → bt (gI (M 155) z0 np nx 0) q = true := fun q _ hb => by rw [b_0] at hb; cases hb
    obtain ⟨V, A, c1, c2, c3⟩ := chain_loop h z0 14 0 0 FU FU S (by omega) (by omega) (by unfold FU; omega) (by unfold FU; omega) (fun _ _ => rfl) z0' (fun q _ _ => b_0 q)
    rw [show cLand_unableWithout_L4 FU S z0 0 0 = _ from c1, c2]
    refine ⟨_, _, rfl, rfl, rfl, hR.land (kS.refl.ext (fun x hx => c3 x (by omega))) kM.refl ?_⟩
    exact (h.rests c3).rel
  · simp only [decide_eq_false h1, Bool.false_eq_true, if_false]
    exact ⟨_, _, rfl, rfl, rfl, hR.fnd⟩
