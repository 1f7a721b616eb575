/-! ===== which law; law ===== -/
theorem fo_last {α : Type} (op : α → Nat → α) : ∀ k i a, fo op (k + 1) i a = op (fo op k i a) (i + k) := by
  intro k
  induction k with
  | zero => intro i a; rfl
  | succ k ih =>
    intro i a
    show fo op (k + 1) (i + 1) (op a i) = _
    rw [ih (i + 1) (op a i), show i + 1 + k = i + (k + 1) by omega]
    rfl
def lwF (N : Nat → Int32) (b y : Int32) (a : Int32) (i : Nat) : Int32 := if N (382 + 2 * i + 0) = b ∧ ¬ y < N (382 + 2 * i + 1) then nI i else a
def lwO (N : Nat → Int32) (b y : Int32) (nl : Nat) : Int32 := fo (lwF N b y) nl 0 (-1)
theorem lwO_or (N : Nat → Int32) (b y : Int32) (nl : Nat) : lwO N b y nl = -1 ∨ ∃ q, q < nl ∧ lwO N b y nl = nI q := by
  induction nl with
  | zero => exact Or.inl rfl
  | succ k ih =>
    have e : lwO N b y (k + 1) = lwF N b y (lwO N b y k) k := by
      unfold lwO
      rw [fo_last, Nat.zero_add]
    rw [e]
    unfold lwF
    split
    · exact Or.inr ⟨k, by omega, rfl⟩
    · rcases ih with ih | ⟨q, hq, ih⟩
      · exact Or.inl ih
      · exact Or.inr ⟨q, by omega, ih⟩
theorem mlawOf_eq {M : SS} {nl : Nat} (hn : M 155 4 = nI nl) (hl : nl ≤ 12) (b y : Int32) : rM_lawOf M b y = some (lwO (M 155) b y nl) := by
  unfold rM_lawOf
  refine loop_0' (fun f a i => rM_lawOf_L5 M f b y a i) (lwF (M 155) b y) nl id (by omega) (fun f i a hi => ?_) (fun f a => ?_) (-1)
  · have h12 : inb (nI i) 12 := nI_inb (by omega) (by decide)
    have hix : ix (nI i) = i := nI_ix (by omega)
    have a0 : (382 : Int32) + (2 : Int32) * nI i = nI (382 + 2 * i) := by have := ad2' h12 382 2 (by decide); rw [hix] at this; exact this
    have a1 : nI (382 + 2 * i) + 1 = nI (382 + 2 * i + 1) := nI_1 _
    rw [rM_lawOf_L5, hn, if_neg (nle hi (by omega))]
    unfold rM_lawOf_J57 rM_lawOf_J58 lwF
    simp only [a0, a1, if_pos (nI_inb (show 382 + 2 * i < 10759 by omega) (by decide)), if_pos (nI_inb (show 382 + 2 * i + 1 < 10759 by omega) (by decide)), nI_ix (show 382 + 2 * i < 2 ^ 31 by omega), nI_ix (show 382 + 2 * i + 1 < 2 ^ 31 by omega), nI_1]
    rw [Nat.add_zero]
    by_cases c1 : M 155 (382 + 2 * i) = b
    · by_cases c2 : y < M 155 (382 + 2 * i + 1)
      · rw [if_pos c1, if_pos c2, if_neg (fun z => z.2 c2)]
      · rw [if_pos c1, if_neg c2, if_pos ⟨c1, c2⟩]
    · rw [if_neg c1, if_neg (fun z => c1 z.1)]
  · rw [rM_lawOf_L5, hn, if_pos (Int32.le_refl _)]
    rfl
theorem clawOf_eq {S : SS} {T : TS} {X : XS} {N : Nat → Int32} {np nf nx nl yr : Nat} (h : LD S T X N np nf nx nl yr) (b y : Int32) : cLand_lawOf S b y = some (lwO N b y nl) := by
  have hc := h.cp
  unfold cLand_lawOf
  rw [h.s4]
  have : ∀ k, k ≤ nl → ∀ f, k < f → cLand_lawOf_L7 S f b y (nI k - 1) = some (lwO N b y k) := by
    intro k
    induction k with
    | zero =>
      intro _ f hf
      obtain ⟨g, rfl⟩ : ∃ g, f = g + 1 := ⟨f - 1, by omega⟩
      rw [cLand_lawOf_L7, if_pos (by decide)]
      rfl
    | succ k ih =>
      intro hk f hf
      obtain ⟨g, rfl⟩ : ∃ g, f = g + 1 := ⟨f - 1, by omega⟩
      have h12 : inb (nI k) 12 := nI_inb (by omega) (by decide)
      have e : lwO N b y (k + 1) = lwF N b y (lwO N b y k) k := by
        unfold lwO
        rw [fo_last, Nat.zero_add]
      have e1 := h.l (show k < nl by omega) 0 (by decide)
      have e2 := h.l (show k < nl by omega) 1 (by decide)
      rw [nI_pred, cLand_lawOf_L7, if_neg (nI_pos (by omega)), if_pos h12, nI_ix (by omega), e]
      unfold cLand_lawOf_J39 lwF
      rw [← Int32.sub_eq_add_neg, ih (by omega) g (by omega)]
      rw [show S (59 + k) 1 = N (382 + 2 * k + 0) from e1, show S (59 + k) 2 = N (382 + 2 * k + 1) from e2]
      by_cases c1 : N (382 + 2 * k + 0) = b
      · by_cases c2 : y < N (382 + 2 * k + 1)
        · rw [if_pos c1, if_pos c2, if_neg (fun z => z.2 c2)]
        · rw [if_pos c1, if_neg c2, if_pos ⟨c1, c2⟩]
      · rw [if_neg c1, if_neg (fun z => c1 z.1)]
  exact this nl (Nat.le_refl _) FU (by unfold FU; omega)
theorem sim_law (S : SS) (K : KS) (T : TS) (X : XS) (M : SS) (z0 z1 : Int32) (hR : Rel S K T X M) : ∃ p q, cD_law S z0 z1 = some p ∧ rM_law M z0 z1 = some q ∧ p.1 = q.1 ∧ Rel p.2 K T X q.2 := by
  obtain ⟨np, nf, nx, nl, yr, h⟩ := hR.ld
  have hc := h.cp
  unfold cD_law rM_law cD_law_J14 rM_law_J14
  simp only [Option.bind_some, cD_isBench_eq, rM_isBench_eq, cD_isYear_eq, rM_isYear_eq, found_eq, finds_eq, clawOf_eq h, mlawOf_eq h.n4 (show nl ≤ 12 by omega)]
  by_cases h1 : inb z0 2
  · by_cases h2 : inb z1 401
    · simp only [decide_eq_true h1, decide_eq_true h2, if_true]
      by_cases c : lwO (M 155) z0 z1 nl < 0
      · rw [if_pos c, if_neg (Int32.not_le.mpr c)]
        exact ⟨_, _, rfl, rfl, rfl, hR.fnd⟩
      · rw [if_neg c, if_pos (Int32.not_lt.mp c)]
        exact ⟨_, _, rfl, rfl, rfl, hR⟩
    · simp only [decide_eq_true h1, decide_eq_false h2, if_true, Bool.false_eq_true, if_false]
      exact ⟨_, _, rfl, rfl, rfl, hR.fnd⟩
  · simp only [decide_eq_false h1, Bool.false_eq_true, if_false]
    exact ⟨_, _, rfl, rfl, rfl, hR.fnd⟩
