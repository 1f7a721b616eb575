/-! ===== heirs of the class ===== -/
section HeirsC
variable {S : SS} {T : TS} {X : XS} {N : Nat → Int32} {np nf nx nl yr : Nat}
theorem LD.dead (h : LD S T X N np nf nx nl yr) {p : Nat} (hp : p < np) : cPerson_isDead S (17 + p) = some (!al N p) := by
  rw [isDead_eq, show S (17 + p) 4 = _ from h.p hp 3 (by decide)]
  rfl
theorem LD.chd (h : LD S T X N np nf nx nl yr) {c p : Nat} (hc : c < np) : cPerson_isChildOf S (17 + c) (nI p) = some (chd N c p) := by
  rw [isChildOf_eq, show S (17 + c) 1 = _ from h.p hc 1 (by decide), show S (17 + c) 2 = _ from h.p hc 2 (by decide)]
  rfl
theorem edg_of {k p c : Nat} (hp : p < c) : edg N np k p c = (chd N c p && hasH N np k c) := by
  unfold edg
  rw [decide_eq_true hp, Bool.true_and]
theorem edg_lo {k p c : Nat} (hp : c ≤ p) : edg N np k p c = false := by
  unfold edg
  rw [decide_eq_false (by omega), Bool.false_and, Bool.false_and]
theorem heirs_eq (h : LD S T X N np nf nx nl yr) : ∀ k l p f, l + k = 5 → k < f → p < np → ∃ v, rHeirs S f (nI p) (nI l) = some v ∧ ∀ q, q < 32 → bt v q = decide (0 < shr N np k p q) := by
  have hc := h.cp
  intro k
  induction k with
  | zero =>
    intro l p f hl hf hp
    obtain ⟨g, rfl⟩ : ∃ g, f = g + 1 := ⟨f - 1, by omega⟩
    have hl5 : l = 5 := by omega
    subst hl5
    rw [rHeirs, cLand_heirsFrom, if_pos (nI_inb (by omega) (by decide)), nI_ix (by omega), h.dead hp]
    cases ha : al N p
    · refine ⟨0, ?_, fun q hq => by rw [b_0, shr_0 ha, decide_eq_false (by omega)]⟩
      show cLand_heirsFrom_L23 _ S (19999 + 1) _ _ _ _ = _
      rw [cLand_heirsFrom_L23, if_pos (show (5 : Int32) ≤ nI 5 by decide)]
      split <;> rfl
    · refine ⟨_, rfl, fun q hq => ?_⟩
      rw [bt_one (by omega) hq, shr_al ha]
      by_cases e : p = q
      · rw [if_pos e, decide_eq_true e]
        rfl
      · rw [if_neg e, decide_eq_false e]
        rfl
  | succ k ih =>
    intro l p f hl hf hp
    obtain ⟨g, rfl⟩ : ∃ g, f = g + 1 := ⟨f - 1, by omega⟩
    rw [rHeirs, cLand_heirsFrom, if_pos (nI_inb (by omega) (by decide)), nI_ix (by omega), h.dead hp]
    cases ha : al N p
    · obtain ⟨v, e1, e2⟩ := loop_ex (fun f a i => cLand_heirsFrom_L23 (rHeirs S g) S f (nI p) (nI l) a i) np (fun a => some a) (fun j a => p < j ∧ ∀ q, q < 32 → bt a q = decide (0 < sm (fun c => if edg N np k p c = true then shr N np k c q else 0) j)) (fun f j a hj hI => by
        show ∃ a', cLand_heirsFrom_L23 (rHeirs S g) S (f + 1) (nI p) (nI l) a (nI j) = cLand_heirsFrom_L23 (rHeirs S g) S f (nI p) (nI l) a' (nI (j + 1)) ∧ _
        rw [cLand_heirsFrom_L23, h.s0, if_neg (nle hj (by omega)), if_neg (show ¬ (5 : Int32) ≤ nI l from nle (n := 5) (by omega) (by decide)), if_pos (nI_inb (by omega) (by decide)), nI_ix (by omega), h.chd hj]
        cases hcd : chd N j p
        · refine ⟨a, by rw [← nI_1]; rfl, by omega, fun q hq => ?_⟩
          rw [sm_s, if_neg (by rw [edg_of hI.1, hcd, Bool.false_and]; decide), mn_0]
          exact hI.2 q hq
        · obtain ⟨v, f1, f2⟩ := ih (l + 1) j g (by omega) (by omega) hj
          refine ⟨a ||| v, ?_, by omega, fun q hq => ?_⟩
          · rw [Option.bind_some, if_pos rfl, nI_1, f1, ← nI_1]
            rfl
          · rw [b_or, hI.2 q hq, f2 q hq, sm_s, edg_of hI.1, hcd, Bool.true_and]
            have : (if hasH N np k j = true then shr N np k j q else 0) = shr N np k j q := by
              by_cases c : hasH N np k j = true
              · rw [if_pos c]
              · rw [if_neg c]
                by_cases z : 0 < shr N np k j q
                · exact absurd (shr_has k j q z) c
                · omega
            rw [this]
            rw [← Bool.decide_or]
            exact decide_eq_decide.mpr mn_pos.symm) (fun f a _ => by
        show cLand_heirsFrom_L23 (rHeirs S g) S (f + 1) (nI p) (nI l) a (nI np) = _
        rw [cLand_heirsFrom_L23, h.s0, if_pos (Int32.le_refl _)]) (np - (p + 1)) (p + 1) 0 FU (by omega) (by unfold FU; omega) ⟨by omega, fun q hq => by
          rw [b_0, sm_zero (p + 1) (fun i hi => by rw [edg_lo (by omega), if_neg (by decide)])]
          rfl⟩
      refine ⟨v, ?_, fun q hq => ?_⟩
      · rw [nI_1]
        exact e1
      · rw [e2.2 q hq]
        exact decide_eq_decide.mpr (shr_pos_s ha).symm
    · refine ⟨_, rfl, fun q hq => ?_⟩
      rw [bt_one (by omega) hq, shr_al ha]
      by_cases e : p = q
      · rw [if_pos e, decide_eq_true e]
        rfl
      · rw [if_neg e, decide_eq_false e]
        rfl
theorem bits_0 {v : Int32} {k p : Nat} (hp : p < np) (hn : np ≤ 14) (h : ∀ q, q < 32 → bt v q = decide (0 < shr N np k p q)) : (v = 0) ↔ hasH N np k p = false := by
  constructor
  · intro e
    cases hh : hasH N np k p
    · rfl
    · obtain ⟨q, hq, h2⟩ := has_shr k p hp hh
      have := h q (by omega)
      rw [e, b_0, decide_eq_true h2] at this
      cases this
  · intro e
    apply b_ext
    intro q hq
    rw [b_0, h q hq]
    refine decide_eq_false (fun z => ?_)
    rw [shr_has k p q z] at e
    cases e
theorem mn_le0 {a b : Nat} (h0 : ¬ a = 0) (hb : 0 < b) : mn a b = if a ≤ b then a else b := by
  unfold mn
  rw [if_neg h0, if_neg (by omega)]
  split <;> omega
theorem share_eq (h : LD S T X N np nf nx nl yr) {q : Nat} (hq : q < np) : ∀ k l p f, l + k = 5 → k < f → p < np → rShare S f (nI p) (nI q) (nI l) = some (nI (shr N np k p q)) := by
  have hc := h.cp
  have lv : ∀ (k p : Nat) (fS : Int32 → Int32 → Int32 → Option Int32), p < np → al N p = true → (if nI p = nI q then cLand_shareFrom_J22 fS S true else cLand_shareFrom_J22 fS S false) = some (nI (shr N np k p q)) := by
    intro k p fS hp ha
    rw [shr_al ha]
    unfold cLand_shareFrom_J22
    by_cases e : p = q
    · rw [if_pos (by rw [e]), if_pos e]
      rfl
    · rw [if_neg (fun z => e ((nI_eq (by omega) (by omega)).mp z)), if_neg e]
      rfl
  intro k
  induction k with
  | zero =>
    intro l p f hl hf hp
    obtain ⟨g, rfl⟩ : ∃ g, f = g + 1 := ⟨f - 1, by omega⟩
    have hl5 : l = 5 := by omega
    subst hl5
    rw [rShare, cLand_shareFrom, if_pos (nI_inb (by omega) (by decide)), nI_ix (by omega), h.dead hp]
    cases ha : al N p
    · show cLand_shareFrom_L37 _ S (19999 + 1) _ _ _ _ _ _ = _
      rw [cLand_shareFrom_L37, if_pos (show (5 : Int32) ≤ nI 5 by decide), shr_0 ha]
      split <;> rfl
    · exact lv 0 p _ hp ha
  | succ k ih =>
    intro l p f hl hf hp
    obtain ⟨g, rfl⟩ : ∃ g, f = g + 1 := ⟨f - 1, by omega⟩
    rw [rShare, cLand_shareFrom, if_pos (nI_inb (by omega) (by decide)), nI_ix (by omega), h.dead hp]
    cases ha : al N p
    · obtain ⟨v, e1, e2⟩ := loop_ex (fun f (a : Int32 × Int32) i => cLand_shareFrom_L37 (rShare S g) S f (nI p) (nI q) (nI l) a.1 a.2 i) np (fun a => some (a.2 * a.1)) (fun j a => p < j ∧ a.1 = nI (cntF (edg N np k p) j) ∧ a.2 = nI (sm (fun c => if edg N np k p c = true then shr N np k c q else 0) j)) (fun f j a hj hI => by
        obtain ⟨a4, a5⟩ := a
        obtain ⟨i1, i2, i3⟩ := hI
        dsimp only at i2 i3 ⊢
        rw [cLand_shareFrom_L37, h.s0, if_neg (nle hj (by omega)), if_neg (show ¬ (5 : Int32) ≤ nI l from nle (n := 5) (by omega) (by decide)), if_pos (nI_inb (by omega) (by decide)), nI_ix (by omega), h.chd hj]
        have skip : edg N np k p j = false → ∃ a' : Int32 × Int32, cLand_shareFrom_J113 (rShare S g) S (cLand_shareFrom_L37 (rShare S g) S f) (nI p) (nI q) (nI l) a4 a5 (nI j) = cLand_shareFrom_L37 (rShare S g) S f (nI p) (nI q) (nI l) a'.1 a'.2 (nI (j + 1)) ∧ p < j + 1 ∧ a'.1 = nI (cntF (edg N np k p) (j + 1)) ∧ a'.2 = nI (sm (fun c => if edg N np k p c = true then shr N np k c q else 0) (j + 1)) := by
          intro he
          refine ⟨(a4, a5), by rw [← nI_1]; rfl, by omega, ?_, ?_⟩
          · rw [cntF_s, he, if_neg (by decide)]
            exact i2
          · rw [sm_s, he, if_neg (by decide), mn_0]
            exact i3
        cases hcd : chd N j p
        · exact skip (by rw [edg_of i1, hcd]; rfl)
        · obtain ⟨v, f1, f2⟩ := heirs_eq h k (l + 1) j 11 (by omega) (by omega) hj
          have f1' : cLand_heirsFrom_r S (nI j) (nI l + 1) = some v := by
            rw [nI_1]
            exact f1
          rw [Option.bind_some, if_pos rfl, f1', Option.bind_some]
          have hb := bits_0 (N := N) hj hc.1 f2
          cases hh : hasH N np k j
          · rw [if_pos (hb.mpr hh)]
            exact skip (by rw [edg_of i1, hcd, hh]; rfl)
          · rw [if_neg (fun z => by have := hb.mp z; rw [hh] at this; cases this)]
            have he : edg N np k p j = true := by rw [edg_of i1, hcd, hh]; rfl
            have hle : sm (fun c => if edg N np k p c = true then shr N np k c q else 0) j ≤ 14 ^ 5 := sm_le _ (fun i _ => by
              split
              · exact Nat.le_trans (shr_le hc.1 _ _ _) (Nat.pow_le_pow_right (by decide) (by omega))
              · exact Nat.zero_le _)
            have hle2 : shr N np k j q ≤ 14 ^ 5 := Nat.le_trans (shr_le hc.1 _ _ _) (Nat.pow_le_pow_right (by decide) (by omega))
            rw [show (14 : Nat) ^ 5 = 537824 from rfl] at hle hle2
            rw [nI_1, ih (l + 1) j g (by omega) (by omega) hj, Option.bind_some, i2, nI_1]
            refine ⟨(nI (cntF (edg N np k p) j + 1), nI (mn (sm (fun c => if edg N np k p c = true then shr N np k c q else 0) j) (shr N np k j q))), ?_, by omega, ?_, ?_⟩
            · rw [i3]
              generalize sm (fun c => if edg N np k p c = true then shr N np k c q else 0) j = s at hle ⊢
              by_cases z : shr N np k j q = 0
              · rw [z, if_pos (show nI 0 ≤ 0 by decide), mn_0, ← nI_1 j]
                rfl
              · rw [if_neg (nI_nle (by omega) (by omega))]
                by_cases z2 : s = 0
                · rw [z2, if_pos (show nI 0 = 0 from rfl), mn_0l, ← nI_1 j]
                  rfl
                · rw [if_neg (nI_ne0 (by omega) (by omega)), mn_le0 z2 (by omega)]
                  by_cases z3 : s ≤ shr N np k j q
                  · rw [if_pos (nI_le z3 (by omega)), if_pos z3, ← nI_1 j]
                    rfl
                  · rw [if_neg (nle (by omega) (by omega)), if_neg z3, ← nI_1 j]
                    rfl
            · rw [cntF_s, if_pos he]
            · rw [sm_s, if_pos he]) (fun f a _ => by
        show cLand_shareFrom_L37 (rShare S g) S (f + 1) (nI p) (nI q) (nI l) a.1 a.2 (nI np) = _
        rw [cLand_shareFrom_L37, h.s0, if_pos (Int32.le_refl _)]) (np - (p + 1)) (p + 1) (0, 0) FU (by omega) (by unfold FU; omega) ⟨by omega, by
          rw [cntF_zero (p + 1) (fun i hi => edg_lo (by omega))]
          rfl, by
          rw [sm_zero (p + 1) (fun i hi => by rw [edg_lo (by omega), if_neg (by decide)])]
          rfl⟩
      rw [nI_1]
      refine Eq.trans e1 ?_
      rw [e2.2.1, e2.2.2, shr_s ha, pk_mul, Nat.mul_comm]
      rfl
    · exact lv _ p _ hp ha
theorem heirsOf_c (h : LD S T X N np nf nx nl yr) {p : Nat} (hp : p < np) : ∃ v, cLand_heirsOf S (nI p) = some v ∧ ∀ q, q < 32 → bt v q = decide (0 < shr N np 5 p q) := by
  obtain ⟨v, e1, e2⟩ := heirs_eq h 5 0 p 11 (by omega) (by omega) hp
  refine ⟨v, ?_, e2⟩
  unfold cLand_heirsOf
  rw [show cLand_heirsFrom_r S (nI p) 0 = some v from e1]
  rfl
theorem shareOf_c (h : LD S T X N np nf nx nl yr) {p q : Nat} (hp : p < np) (hq : q < np) : cLand_shareOf S (nI p) (nI q) = some (nI (shr N np 5 p q)) := by
  unfold cLand_shareOf
  rw [show cLand_shareFrom_r S (nI p) (nI q) 0 = _ from share_eq h hq 5 0 p 11 (by omega) (by omega) hp]
  rfl
end HeirsC
