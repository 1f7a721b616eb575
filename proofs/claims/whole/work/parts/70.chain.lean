/-! ===== chain ===== -/
theorem sh_bit (x : Int32) {n : Nat} (hn : n < 32) : ((x >>> (nI n &&& 31)) &&& 1) = 0 ↔ bt x n = false := by
  have h1 : ∀ i, bt 1 i = decide (i = 0) := by
    intro i
    by_cases h : i < 32
    · exact (by decide +kernel : ∀ i, i < 32 → bt 1 i = decide (i = 0)) i h
    · rw [b_big (by omega), decide_eq_false (by omega)]
  constructor
  · intro h
    have := congrArg (fun y => bt y 0) h
    simp only [b_and, b_0, h1, b_sshr n hn x (show 0 < 32 by decide)] at this
    rw [if_pos (by omega)] at this
    simpa using this
  · intro h
    apply b_ext
    intro i hi
    rw [b_and, b_0, h1]
    by_cases c : i = 0
    · subst c
      rw [b_sshr n hn x hi, if_pos (by omega), Nat.add_zero, h]
      rfl
    · rw [decide_eq_false c, Bool.and_false]
theorem bt_one {p i : Nat} (hp : p < 32) (hi : i < 32) : bt ((1 : Int32) <<< (nI p &&& 31)) i = decide (p = i) := by
  rw [b_shl p hp 1 hi]
  have h1 : ∀ i, i < 32 → bt 1 i = decide (i = 0) := by decide +kernel
  by_cases c : p ≤ i
  · rw [decide_eq_true c, Bool.true_and, h1 _ (by omega)]
    exact decide_eq_decide.mpr (by omega)
  · rw [decide_eq_false c, Bool.false_and, decide_eq_false (by omega)]
def setF (P : Nat → Bool) (a : Int32) (i : Nat) : Int32 := a ||| (if P i = true then (1 : Int32) <<< (nI i &&& 31) else 0)
theorem bt_set (P : Nat → Bool) : ∀ k, k ≤ 32 → ∀ q, q < 32 → bt (fo (setF P) k 0 0) q = (decide (q < k) && P q) := by
  intro k
  induction k with
  | zero =>
    intro _ q hq
    rw [decide_eq_false (by omega), Bool.false_and]
    exact b_0 q
  | succ k ih =>
    intro hk q hq
    rw [fo_last, Nat.zero_add]
    unfold setF
    rw [b_or]
    have := ih (by omega) q hq
    unfold setF at this
    rw [this]
    by_cases c : P k = true
    · rw [if_pos c, bt_one (by omega) hq]
      by_cases e : k = q
      · subst e
        rw [decide_eq_true rfl, decide_eq_true (show k < k + 1 by omega), c]
        simp
      · rw [decide_eq_false e, Bool.or_false]
        congr 1
        exact decide_eq_decide.mpr (by omega)
    · rw [if_neg c, b_0, Bool.or_false]
      by_cases e : k = q
      · subst e
        rw [decide_eq_false (show ¬ k < k by omega), Bool.false_and]
        cases h : P k
        · simp
        · exact absurd h c
      · congr 1
        exact decide_eq_decide.mpr (by omega)
section Chain
variable {S : SS} {T : TS} {X : XS} {N : Nat → Int32} {np nf nx nl yr : Nat}
/-- what a paper owes, if it isn't the one that is left out -/
def owN (N : Nat → Int32) (x : Int32) (i : Nat) : Nat := if nI i = x then 0 else if N (182 + 10 * i + 9) = 0 then ix (N (182 + 10 * i + 3) - N (182 + 10 * i + 4)) else 0
def sumB (N : Nat → Int32) (x : Int32) (p : Nat) : Nat → Nat
  | 0 => 0
  | k + 1 => sumB N x p k + (if N (182 + 10 * k + 1) = nI p then owN N x k else 0)
def sumT (N : Nat → Int32) (x U : Int32) (p : Nat) : Nat → Nat
  | 0 => 0
  | k + 1 => sumT N x U p k + (if N (182 + 10 * k + 2) = nI p ∧ bt U (ix (N (182 + 10 * k + 1))) = false then owN N x k else 0)
theorem sumB_s (N : Nat → Int32) (x : Int32) (p k : Nat) : sumB N x p (k + 1) = sumB N x p k + (if N (182 + 10 * k + 1) = nI p then owN N x k else 0) := rfl
theorem sumT_s (N : Nat → Int32) (x U : Int32) (p k : Nat) : sumT N x U p (k + 1) = sumT N x U p k + (if N (182 + 10 * k + 2) = nI p ∧ bt U (ix (N (182 + 10 * k + 1))) = false then owN N x k else 0) := rfl
theorem LD.owe (h : LD S T X N np nf nx nl yr) {i : Nat} (hi : i < nx) : ∃ m, m < 10000 ∧ N (182 + 10 * i + 3) - N (182 + 10 * i + 4) = nI m := by
  obtain ⟨s, hs, es⟩ := inb_ex (h.oka hi 3 (by decide) : inb _ 10000)
  obtain ⟨q, hq, eq⟩ := inb_ex (h.oka hi 4 (by decide) : inb _ 10000)
  have hqs : q ≤ s := by
    have := (h.okx hi).1
    rw [es, eq] at this
    exact (nI_leI (by omega) (by omega)).mp this
  exact ⟨s - q, by omega, by rw [es, eq, pk_sub hqs]⟩
theorem owN_lt (h : LD S T X N np nf nx nl yr) {i : Nat} (hi : i < nx) (x : Int32) : owN N x i < 10000 := by
  obtain ⟨m, hm, em⟩ := h.owe hi
  unfold owN
  rw [em, nI_ix (by omega)]
  repeat' split
  all_goals omega
theorem sumB_eq (h : LD S T X N np nf nx nl yr) (x : Int32) {p : Nat} : ∀ k, k ≤ nx → fo (oweF N (nI p) x) k 0 0 = nI (sumB N x p k) ∧ sumB N x p k ≤ 10000 * k := by
  intro k
  induction k with
  | zero => intro _; exact ⟨rfl, by unfold sumB; omega⟩
  | succ k ih =>
    intro hk
    obtain ⟨e1, e2⟩ := ih (by omega)
    obtain ⟨m, hm, em⟩ := h.owe (show k < nx by omega)
    have hlt := owN_lt h (show k < nx by omega) x
    refine ⟨?_, ?_⟩
    · rw [fo_last, Nat.zero_add, e1]
      rw [sumB_s]
      unfold oweF owN
      rw [em, nI_ix (by omega)]
      by_cases c1 : nI k = x
      · rw [if_pos c1, if_pos c1, ite_self]
        exact nI_add _ 0
      · rw [if_neg c1, if_neg c1]
        by_cases c2 : N (182 + 10 * k + 9) = 0
        · rw [if_pos c2, if_pos c2]
          by_cases c3 : N (182 + 10 * k + 1) = nI p
          · rw [if_pos c3, if_pos c3]
            exact nI_add _ _
          · rw [if_neg c3, if_neg c3]
            exact nI_add _ 0
        · rw [if_neg c2, if_neg c2, ite_self]
          exact nI_add _ 0
    · rw [sumB_s]
      split <;> omega
theorem sumT_eq (h : LD S T X N np nf nx nl yr) (x U : Int32) {p : Nat} : ∀ k, k ≤ nx → fo (owtF N (nI p) x U) k 0 0 = nI (sumT N x U p k) ∧ sumT N x U p k ≤ 10000 * k := by
  intro k
  have hc := h.cp
  induction k with
  | zero => intro _; exact ⟨rfl, by unfold sumT; omega⟩
  | succ k ih =>
    intro hk
    obtain ⟨e1, e2⟩ := ih (by omega)
    obtain ⟨m, hm, em⟩ := h.owe (show k < nx by omega)
    have hlt := owN_lt h (show k < nx by omega) x
    obtain ⟨b, hb, eb⟩ := inb_ex (h.oka (show k < nx by omega) 1 (by decide) : inb _ np)
    refine ⟨?_, ?_⟩
    · rw [fo_last, Nat.zero_add, e1]
      rw [sumT_s]
      unfold owtF owN
      rw [em, nI_ix (by omega), eb, nI_ix (by omega)]
      by_cases c1 : nI k = x
      · rw [if_pos c1, if_pos c1, ite_self]
        exact nI_add _ 0
      · rw [if_neg c1, if_neg c1]
        by_cases c2 : N (182 + 10 * k + 9) = 0
        · rw [if_pos c2, if_pos c2]
          by_cases c3 : N (182 + 10 * k + 2) = nI p
          · rw [if_pos c3]
            by_cases c4 : bt U b = false
            · rw [if_pos ((sh_bit U (by omega)).mpr c4), if_pos ⟨c3, c4⟩]
              exact nI_add _ _
            · rw [if_neg (fun z => c4 ((sh_bit U (by omega)).mp z)), if_neg (fun z => c4 z.2)]
              exact nI_add _ 0
          · rw [if_neg c3, if_neg (fun z => c3 z.1)]
            exact nI_add _ 0
        · rw [if_neg c2, if_neg c2, ite_self]
          exact nI_add _ 0
    · rw [sumT_s]
      split <;> omega
/-- who can't, if those of U can't -/
def cnt_ (N : Nat → Int32) (x U : Int32) (nx p : Nat) : Bool := decide (ix (N (10 + 10 * p + 6)) + sumT N x U p nx < sumB N x p nx)
def gI (N : Nat → Int32) (x : Int32) (np nx : Nat) (U : Int32) : Int32 := fo (setF (cnt_ N x U nx)) np 0 0
theorem sumT_mono (x U V : Int32) (p : Nat) (hUV : ∀ q, q < 32 → bt U q = true → bt V q = true) : ∀ k, sumT N x V p k ≤ sumT N x U p k := by
  intro k
  induction k with
  | zero => exact Nat.le_refl _
  | succ k ih =>
    rw [sumT_s, sumT_s]
    have : ∀ q, bt V q = false → bt U q = false := by
      intro q hq
      by_cases c : q < 32
      · cases hu : bt U q
        · rfl
        · rw [hUV q c hu] at hq
          cases hq
      · exact b_big (by omega)
    by_cases c : N (182 + 10 * k + 2) = nI p ∧ bt V (ix (N (182 + 10 * k + 1))) = false
    · rw [if_pos c, if_pos ⟨c.1, this _ c.2⟩]
      omega
    · rw [if_neg c]
      split <;> omega
theorem gI_mono (x : Int32) {U V : Int32} (hn : np ≤ 14) (hUV : ∀ q, q < 32 → bt U q = true → bt V q = true) : ∀ q, q < 32 → bt (gI N x np nx U) q = true → bt (gI N x np nx V) q = true := by
  intro q hq h
  unfold gI at h ⊢
  rw [bt_set _ _ (by omega) _ hq] at h ⊢
  have h1 := (Bool.and_eq_true _ _).mp h
  rw [h1.1, Bool.true_and]
  unfold cnt_ at h1 ⊢
  have := of_decide_eq_true h1.2
  exact decide_eq_true (by have := sumT_mono (N := N) x U V q hUV nx; omega)
end Chain
