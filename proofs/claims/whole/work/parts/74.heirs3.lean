/-! ===== heirs of the reference ===== -/
section HeirsM
variable {N : Nat → Int32} {np : Nat}
theorem misChild_eq {M : SS} {c p : Nat} (hc : c < 14) : rM_isChild M (nI c) (nI p) = some (chd (M 155) c p) := by
  have h14 : inb (nI c) 14 := nI_inb hc (by decide)
  unfold rM_isChild rM_isChild_J20 chd
  rw [rM_own_1 h14, rM_own_2 h14, nI_ix (by omega)]
  simp only [Option.bind_some]
  by_cases h1 : M 155 (10 + 10 * c + 1) = nI p
  · rw [if_pos h1, decide_eq_true (Or.inl h1)]
  · rw [if_neg h1]
    by_cases h2 : M 155 (10 + 10 * c + 2) = nI p
    · rw [if_pos h2, decide_eq_true (Or.inr h2)]
    · rw [if_neg h2, decide_eq_false (fun z => z.elim h1 h2)]
theorem mlives_eq {M : SS} {p : Nat} (hp : p < 14) : rM_lives0 M (nI p) = some (al (M 155) p) := by
  rw [lives0_eq (nI_inb hp (by decide)), nI_ix (by omega)]
  rfl
theorem a14 (l p : Nat) : ((14 : Int32) * nI l) + nI p = nI (14 * l + p) := by
  rw [show (14 : Int32) * nI l = nI (14 * l) from pk_mul 14 l, nI_add]
theorem a14b (l p : Nat) : (((14 : Int32) * nI l) + (14 : Int32)) + nI p = nI (14 * (l + 1) + p) := by
  rw [show (14 : Int32) * nI l = nI (14 * l) from pk_mul 14 l, show (14 : Int32) = nI 14 from rfl, nI_add, nI_add]
  rfl
def HF (M0 M : SS) : Prop := ∀ x, x ≠ 157 → x ≠ 158 → x ≠ 159 → M x = M0 x
def P1 (M0 M : SS) (np l j : Nat) : Prop := HF M0 M ∧ ∀ a p, a ≤ 5 → p < np → (l < a ∨ (a = l ∧ p < j)) → M 157 (14 * a + p) = b2i (hasH (M0 155) np (5 - a) p) ∧ M 158 (14 * a + p) = nI (nsh (M0 155) np (5 - a) p) ∧ M 159 (14 * a + p) = 0
theorem b2i_0 {b : Bool} : (b2i b = 0) ↔ b = false := by cases b <;> decide
theorem f26 {M0 M : SS} {l j : Nat} (h0 : M0 155 0 = nI np) (hn : np ≤ 14) (hl : l ≤ 5) (hj : j < np) (h : P1 M0 M np l j) (k2 : SS → Int32 → Int32 → Option SS) (k8 : SS → Int32 → Int32 → Int32 → Option SS) (r : Int32) : rM_findHeirs_L26 k2 k8 FU M r (nI l) (nI j) 0 (nI j + 1) = rM_findHeirs_J86 k2 k8 M r (nI l) (nI j) (nI (nsh (M0 155) np (5 - l) j)) := by
  have e155 : M 155 = M0 155 := h.1 155 (by decide) (by decide) (by decide)
  by_cases c5 : l = 5
  · subst c5
    show rM_findHeirs_L26 k2 k8 (19999 + 1) M r _ _ _ _ = _
    rw [rM_findHeirs_L26, if_pos (show (5 : Int32) ≤ nI 5 by decide)]
    split <;> rfl
  · obtain ⟨v, e1, e2⟩ := loop_ex (fun f a i => rM_findHeirs_L26 k2 k8 f M r (nI l) (nI j) a i) np (fun a => rM_findHeirs_J86 k2 k8 M r (nI l) (nI j) a) (fun c a => j < c ∧ a = nI (cntF (edg (M0 155) np (4 - l) j) c)) (fun f c a hc hI => by
      obtain ⟨i1, i2⟩ := hI
      show ∃ a', rM_findHeirs_L26 k2 k8 (f + 1) M r (nI l) (nI j) a (nI c) = rM_findHeirs_L26 k2 k8 f M r (nI l) (nI j) a' (nI (c + 1)) ∧ _
      rw [rM_findHeirs_L26, e155, h0, if_neg (nle hc (by omega)), if_neg (show ¬ (5 : Int32) ≤ nI l from nle (n := 5) (by omega) (by decide)), misChild_eq (by omega), e155, a14b, if_pos (nI_inb (by omega) (by decide)), nI_ix (by omega), (h.2 (l + 1) c (by omega) hc (Or.inl (by omega))).1, show 5 - (l + 1) = 4 - l by omega]
      refine ⟨nI (cntF (edg (M0 155) np (4 - l) j) (c + 1)), ?_, by omega, rfl⟩
      rw [cntF_s, edg_of i1, i2]
      unfold rM_findHeirs_J76 rM_findHeirs_J77
      cases h1 : chd (M0 155) c j
      · rw [Option.bind_some, if_neg (by decide), Bool.false_and, if_neg (by decide), ← nI_1 c, ← nI_add]
        rfl
      · cases h2 : hasH (M0 155) np (4 - l) c
        · rw [Option.bind_some, if_pos rfl, if_pos (show b2i false = 0 from rfl), Bool.and_false, if_neg (by decide), ← nI_1 c, ← nI_add]
          rfl
        · rw [Option.bind_some, if_pos rfl, if_neg (by decide), Bool.and_true, if_pos rfl, ← nI_1 c, ← nI_add]
          rfl) (fun f a _ => by
      show rM_findHeirs_L26 k2 k8 (f + 1) M r (nI l) (nI j) a (nI np) = _
      rw [rM_findHeirs_L26, e155, h0, if_pos (Int32.le_refl _)]) (np - (j + 1)) (j + 1) 0 FU (by omega) (by unfold FU; omega) ⟨by omega, by
        rw [cntF_zero (j + 1) (fun i hi => edg_lo (by omega))]
        rfl⟩
    rw [nI_1]
    refine Eq.trans e1 ?_
    rw [e2.2]
    rw [show 5 - l = (4 - l) + 1 by omega]
    rfl
theorem f86 {M0 M : SS} {l j : Nat} (hn : np ≤ 14) (hl : l ≤ 5) (hj : j < np) (h : P1 M0 M np l j) (k2 : SS → Int32 → Int32 → Option SS) (k8 : SS → Int32 → Int32 → Int32 → Option SS) (r : Int32) : ∃ M', rM_findHeirs_J86 k2 k8 M r (nI l) (nI j) (nI (nsh (M0 155) np (5 - l) j)) = k8 M' r (nI l) (nI (j + 1)) ∧ P1 M0 M' np l (j + 1) := by
  have e155 : M 155 = M0 155 := h.1 155 (by decide) (by decide) (by decide)
  have h84 : inb (nI (14 * l + j)) 84 := nI_inb (by omega) (by decide)
  have hns := nsh_le (N := M0 155) (np := np) (5 - l) j
  refine ⟨up (up (up M 158 (14 * l + j) (nI (nsh (M0 155) np (5 - l) j))) 157 (14 * l + j) (b2i (hasH (M0 155) np (5 - l) j))) 159 (14 * l + j) 0, ?_, fun x h1 h2 h3 => by rw [up_o h3, up_o h1, up_o h2]; exact h.1 x h1 h2 h3, fun a p ha hp hlt => ?_⟩
  · unfold rM_findHeirs_J86 rM_findHeirs_J122 rM_findHeirs_J127
    rw [a14, if_pos h84, nI_ix (by omega), mlives_eq (by omega), up_o (by decide), e155, hasH_eq, nI_1]
    have nb : ∀ b : Bool, vp_nar .boolean (b2i b) = b2i b := by decide
    cases ha : al (M0 155) j
    · rw [Option.bind_some, if_neg (by decide), Bool.false_or]
      by_cases z : 0 < nsh (M0 155) np (5 - l) j
      · rw [if_neg (nI_nle z (by omega)), decide_eq_true z, if_pos h84, if_pos h84, nb]
      · rw [if_pos (by rw [show nsh (M0 155) np (5 - l) j = 0 by omega]; decide), decide_eq_false z, if_pos h84, if_pos h84, nb]
    · rw [Option.bind_some, if_pos rfl, Bool.true_or, if_pos h84, if_pos h84, nb]
  · by_cases e : a = l ∧ p = j
    · obtain ⟨rfl, rfl⟩ := e
      refine ⟨?_, ?_, ?_⟩
      · rw [up_x (by decide), up_s]
      · rw [up_x (by decide), up_x (by decide), up_s]
      · rw [up_s]
    · have hne : 14 * a + p ≠ 14 * l + j := by omega
      have hh := h.2 a p ha hp (by omega)
      exact ⟨by rw [up_x (by decide), up_j hne, up_x (by decide)]; exact hh.1, by rw [up_x (by decide), up_x (by decide), up_j hne]; exact hh.2.1, by rw [up_j hne, up_x (by decide), up_x (by decide)]; exact hh.2.2⟩
theorem f8 {M0 M : SS} {l : Nat} (h0 : M0 155 0 = nI np) (hn : np ≤ 14) (hl : l ≤ 5) (h : P1 M0 M np l 0) (k2 : SS → Int32 → Int32 → Option SS) (r : Int32) : ∃ M', rM_findHeirs_L8 k2 FU M r (nI l) 0 = k2 M' r (nI l + (-1)) ∧ P1 M0 M' np l np :=
  loop_e0 (fun f A i => rM_findHeirs_L8 k2 f A r (nI l) i) np (fun A => k2 A r (nI l + (-1))) (fun j A => P1 M0 A np l j) (by omega) (fun f j A hj hI => by
    show ∃ a', rM_findHeirs_L8 k2 (f + 1) A r (nI l) (nI j) = _ ∧ _
    rw [rM_findHeirs_L8, hI.1 155 (by decide) (by decide) (by decide), h0, if_neg (nle hj (by omega)), f26 h0 hn hl hj hI]
    exact f86 hn hl hj hI _ _ r) (fun f A hI => by
    show rM_findHeirs_L8 k2 (f + 1) A r (nI l) (nI np) = _
    rw [rM_findHeirs_L8, hI.1 155 (by decide) (by decide) (by decide), h0, if_pos (Int32.le_refl _)]) M h
theorem f2 {M0 : SS} (h0 : M0 155 0 = nI np) (hn : np ≤ 14) {r : Nat} (hr : r < np) : ∀ l M f, l ≤ 5 → l + 1 < f → P1 M0 M np l 0 → ∃ M', rM_findHeirs_L2 f M (nI r) (nI l) = rM_findHeirs_L161 FU (up M' 159 r 1) 0 ∧ P1 M0 M' np 0 np := by
  intro l
  induction l with
  | zero =>
    intro M f _ hf hP
    obtain ⟨g, rfl⟩ : ∃ g, f = g + 1 + 1 := ⟨f - 2, by omega⟩
    obtain ⟨M', e1, e2⟩ := f8 h0 hn (by omega) hP (rM_findHeirs_L2 (g + 1)) (nI r)
    refine ⟨M', ?_, e2⟩
    rw [rM_findHeirs_L2, if_neg (nI_pos (by omega)), e1, show nI 0 + (-1) = (-1 : Int32) from rfl, rM_findHeirs_L2, if_pos (by decide), if_pos (nI_inb (by omega) (by decide)), nI_ix (by omega)]
  | succ l ih =>
    intro M f hl hf hP
    obtain ⟨g, rfl⟩ : ∃ g, f = g + 1 := ⟨f - 1, by omega⟩
    obtain ⟨M', e1, e2⟩ := f8 h0 hn hl hP (rM_findHeirs_L2 g) (nI r)
    have e3 : nI (l + 1) + (-1) = nI l := by
      rw [← Int32.sub_eq_add_neg]
      exact nI_pred l
    rw [rM_findHeirs_L2, if_neg (nI_pos (by omega)), e1, e3]
    exact ih M' g (by omega) (by omega) ⟨e2.1, fun a p ha hp hlt => e2.2 a p ha hp (by omega)⟩
def trm (N : Nat → Int32) (np r l c p : Nat) : Nat := if al N p = false ∧ edg N np (4 - l) p c = true then fwd N np r l p * nsh N np (5 - l) p else 0
def P2 (M0 M : SS) (np r l j c0 : Nat) : Prop := HF M0 M ∧ (∀ a p, a ≤ 5 → p < np → M 157 (14 * a + p) = b2i (hasH (M0 155) np (5 - a) p) ∧ M 158 (14 * a + p) = nI (nsh (M0 155) np (5 - a) p)) ∧ (∀ a p, a ≤ l → p < np → M 159 (14 * a + p) = nI (fwd (M0 155) np r a p)) ∧ (∀ c, c < np → l < 5 → M 159 (14 * (l + 1) + c) = nI (sm (trm (M0 155) np r l c) (if c < c0 then j + 1 else j))) ∧ (∀ a c, l + 1 < a → a ≤ 5 → c < np → M 159 (14 * a + c) = 0)
theorem P2.c {M0 M : SS} {np r l j c0 c1 : Nat} (h : P2 M0 M np r l j c0) (hc : ∀ c, c < np → l < 5 → sm (trm (M0 155) np r l c) (if c < c0 then j + 1 else j) = sm (trm (M0 155) np r l c) (if c < c1 then j + 1 else j)) : P2 M0 M np r l j c1 :=
  ⟨h.1, h.2.1, h.2.2.1, fun c h1 h2 => by rw [h.2.2.2.1 c h1 h2, hc c h1 h2], h.2.2.2.2⟩
theorem P2.next {M0 M : SS} {np r l j : Nat} (h : P2 M0 M np r l j np) : P2 M0 M np r l (j + 1) 0 :=
  ⟨h.1, h.2.1, h.2.2.1, fun c h1 h2 => by rw [h.2.2.2.1 c h1 h2, if_pos h1, if_neg (by omega)], h.2.2.2.2⟩
theorem f224 {M0 M : SS} {r l j : Nat} (h0 : M0 155 0 = nI np) (hn : np ≤ 14) (hl : l < 5) (hj : j < np) (ha : al (M0 155) j = false) (hp : 0 < fwd (M0 155) np r l j * nsh (M0 155) np (5 - l) j) (h : P2 M0 M np r l j (j + 1)) (k161 : SS → Int32 → Option SS) (k168 : SS → Int32 → Int32 → Option SS) : ∃ M', rM_findHeirs_L224 k161 k168 FU M (nI l) (nI j) (nI (fwd (M0 155) np r l j * nsh (M0 155) np (5 - l) j)) (nI j + 1) = k168 M' (nI l) (nI (j + 1)) ∧ P2 M0 M' np r l j np := by
  have hb : fwd (M0 155) np r l j * nsh (M0 155) np (5 - l) j ≤ 537824 * 14 := Nat.mul_le_mul (Nat.le_trans (fwd_le hn r l j) (Nat.pow_le_pow_right (by decide) (by omega) : 14 ^ l ≤ 14 ^ 5)) (Nat.le_trans (nsh_le _ _) hn)
  have hts : ∀ c i, trm (M0 155) np r l c i ≤ 537824 * 14 := by
    intro c i
    unfold trm
    split
    · exact Nat.mul_le_mul (Nat.le_trans (fwd_le hn r l i) (Nat.pow_le_pow_right (by decide) (by omega) : 14 ^ l ≤ 14 ^ 5)) (Nat.le_trans (nsh_le _ _) hn)
    · exact Nat.zero_le _
  obtain ⟨v, e1, e2⟩ := loop_ex (fun f A i => rM_findHeirs_L224 k161 k168 f A (nI l) (nI j) (nI (fwd (M0 155) np r l j * nsh (M0 155) np (5 - l) j)) i) np (fun A => rM_findHeirs_J304 k161 k168 A (nI l) (nI j)) (fun c A => j < c ∧ P2 M0 A np r l j c) (fun f c A hc hI => by
    obtain ⟨i1, i2⟩ := hI
    have e155 : A 155 = M0 155 := i2.1 155 (by decide) (by decide) (by decide)
    show ∃ a', rM_findHeirs_L224 k161 k168 (f + 1) A (nI l) (nI j) _ (nI c) = rM_findHeirs_L224 k161 k168 f a' (nI l) (nI j) _ (nI (c + 1)) ∧ _
    have h4 := i2.2.2.2.1 c hc hl
    rw [if_neg (by omega)] at h4
    rw [rM_findHeirs_L224, e155, h0, if_neg (nle hc (by omega)), misChild_eq (by omega), e155, a14b, if_pos (nI_inb (by omega) (by decide)), nI_ix (by omega), (i2.2.1 (l + 1) c (by omega) hc).1, h4, show 5 - (l + 1) = 4 - l by omega, Option.bind_some]
    have hsm : sm (trm (M0 155) np r l c) j ≤ 537824 * 14 := sm_le _ (fun i _ => hts c i)
    have skip : edg (M0 155) np (4 - l) j c = false → ∃ a', rM_findHeirs_J298 k161 k168 (rM_findHeirs_L224 k161 k168 f) A (nI l) (nI j) (nI (fwd (M0 155) np r l j * nsh (M0 155) np (5 - l) j)) (nI c) = rM_findHeirs_L224 k161 k168 f a' (nI l) (nI j) (nI (fwd (M0 155) np r l j * nsh (M0 155) np (5 - l) j)) (nI (c + 1)) ∧ j < c + 1 ∧ P2 M0 a' np r l j (c + 1) := by
      intro he
      refine ⟨A, by rw [← nI_1 c]; rfl, by omega, i2.c (fun c' h1 h2 => ?_)⟩
      by_cases ec : c' = c
      · subst ec
        rw [if_neg (by omega), if_pos (by omega), sm_s]
        unfold trm
        rw [he, if_neg (fun z => Bool.noConfusion z.2), mn_0]
      · by_cases c2 : c' < c
        · rw [if_pos c2, if_pos (by omega)]
        · rw [if_neg c2, if_neg (by omega)]
    cases h1 : chd (M0 155) c j
    · rw [if_neg (by decide)]
      exact skip (by rw [edg_of i1, h1]; rfl)
    · rw [if_pos rfl]
      cases h2 : hasH (M0 155) np (4 - l) c
      · rw [if_pos (show b2i false = 0 from rfl)]
        exact skip (by rw [edg_of i1, h2, Bool.and_false])
      · rw [if_neg (show ¬ b2i true = 0 by decide)]
        have he : edg (M0 155) np (4 - l) j c = true := by rw [edg_of i1, h1, h2]; rfl
        have ht : trm (M0 155) np r l c j = fwd (M0 155) np r l j * nsh (M0 155) np (5 - l) j := by
          unfold trm
          rw [if_pos ⟨ha, he⟩]
        have hs1 := sm_s (trm (M0 155) np r l c) j
        rw [ht] at hs1
        have keep : sm (trm (M0 155) np r l c) (j + 1) = sm (trm (M0 155) np r l c) j → P2 M0 A np r l j (c + 1) := fun hk => i2.c (fun c' h1 h2 => by
          by_cases ec : c' = c
          · subst ec
            rw [if_neg (by omega), if_pos (by omega), hk]
          · by_cases c2 : c' < c
            · rw [if_pos c2, if_pos (by omega)]
            · rw [if_neg c2, if_neg (by omega)])
        have put : sm (trm (M0 155) np r l c) (j + 1) = fwd (M0 155) np r l j * nsh (M0 155) np (5 - l) j → ∃ a', rM_findHeirs_J289 k161 k168 (rM_findHeirs_L224 k161 k168 f) A (nI l) (nI j) (nI (fwd (M0 155) np r l j * nsh (M0 155) np (5 - l) j)) (nI c) (nI (14 * (l + 1) + c)) = rM_findHeirs_L224 k161 k168 f a' (nI l) (nI j) (nI (fwd (M0 155) np r l j * nsh (M0 155) np (5 - l) j)) (nI (c + 1)) ∧ j < c + 1 ∧ P2 M0 a' np r l j (c + 1) := by
          intro hk
          refine ⟨up A 159 (14 * (l + 1) + c) (nI (fwd (M0 155) np r l j * nsh (M0 155) np (5 - l) j)), ?_, by omega, fun x g1 g2 g3 => by rw [up_o g3]; exact i2.1 x g1 g2 g3, fun a p g1 g2 => by rw [up_x (by decide), up_x (by decide)]; exact i2.2.1 a p g1 g2, fun a p g1 g2 => by rw [up_j (by omega)]; exact i2.2.2.1 a p g1 g2, fun c' g1 g2 => ?_, fun a c' g1 g2 g3 => by rw [up_j (by omega)]; exact i2.2.2.2.2 a c' g1 g2 g3⟩
          · unfold rM_findHeirs_J289
            rw [if_pos (nI_inb (by omega) (by decide)), nI_ix (by omega), ← nI_1 c]
            rfl
          · by_cases ec : c' = c
            · subst ec
              rw [up_s, if_pos (by omega), hk]
            · rw [up_j (by omega), i2.2.2.2.1 c' g1 g2]
              by_cases c2 : c' < c
              · rw [if_pos c2, if_pos (by omega)]
              · rw [if_neg c2, if_neg (by omega)]
        by_cases z : sm (trm (M0 155) np r l c) j = 0
        · rw [z, if_pos (show nI 0 = 0 from rfl)]
          exact put (by rw [hs1, z, mn_0l])
        · rw [if_neg (nI_ne0 (by omega) (by omega))]
          rw [mn_le0 z hp] at hs1
          by_cases z3 : sm (trm (M0 155) np r l c) j ≤ fwd (M0 155) np r l j * nsh (M0 155) np (5 - l) j
          · rw [if_pos (nI_le z3 (by omega))]
            rw [if_pos z3] at hs1
            exact ⟨A, by rw [← nI_1 c]; rfl, by omega, keep hs1⟩
          · rw [if_neg (nle (by omega) (by omega))]
            rw [if_neg z3] at hs1
            exact put hs1) (fun f A hI => by
    show rM_findHeirs_L224 k161 k168 (f + 1) A (nI l) (nI j) _ (nI np) = _
    rw [rM_findHeirs_L224, hI.2.1 155 (by decide) (by decide) (by decide), h0, if_pos (Int32.le_refl _)]) (np - (j + 1)) (j + 1) M FU (by omega) (by unfold FU; omega) ⟨by omega, h⟩
  refine ⟨v, ?_, e2.2⟩
  rw [nI_1]
  refine Eq.trans e1 ?_
  unfold rM_findHeirs_J304
  rw [nI_1]
theorem f168 {M0 M : SS} {r l : Nat} (h0 : M0 155 0 = nI np) (hn : np ≤ 14) (hl : l < 5) (h : P2 M0 M np r l 0 0) (k161 : SS → Int32 → Option SS) : ∃ M', rM_findHeirs_L168 k161 FU M (nI l) 0 = k161 M' (nI (l + 1)) ∧ P2 M0 M' np r (l + 1) 0 0 := by
  obtain ⟨M', e1, e2⟩ := loop_e0 (fun f A i => rM_findHeirs_L168 k161 f A (nI l) i) np (fun A => k161 A (nI l + 1)) (fun j A => P2 M0 A np r l j 0) (by omega) (fun f j A hj hI => by
    have e155 : A 155 = M0 155 := hI.1 155 (by decide) (by decide) (by decide)
    show ∃ a', rM_findHeirs_L168 k161 (f + 1) A (nI l) (nI j) = rM_findHeirs_L168 k161 f a' (nI l) (nI (j + 1)) ∧ _
    have hb : fwd (M0 155) np r l j * nsh (M0 155) np (5 - l) j ≤ 537824 * 14 := Nat.mul_le_mul (Nat.le_trans (fwd_le hn r l j) (Nat.pow_le_pow_right (by decide) (by omega) : 14 ^ l ≤ 14 ^ 5)) (Nat.le_trans (nsh_le _ _) hn)
    rw [rM_findHeirs_L168, e155, h0, if_neg (nle hj (by omega)), a14, if_pos (nI_inb (by omega) (by decide)), nI_ix (by omega), hI.2.2.1 l j (Nat.le_refl _) hj, (hI.2.1 l j (by omega) hj).2, pk_mul, mlives_eq (by omega), e155]
    have skip : (∀ c, trm (M0 155) np r l c j = 0) → ∃ a', rM_findHeirs_J304 k161 (rM_findHeirs_L168 k161 f) A (nI l) (nI j) = rM_findHeirs_L168 k161 f a' (nI l) (nI (j + 1)) ∧ P2 M0 a' np r l (j + 1) 0 := by
      intro ht
      refine ⟨A, by rw [← nI_1 j]; rfl, hI.1, hI.2.1, hI.2.2.1, fun c h1 h2 => ?_, hI.2.2.2.2⟩
      rw [hI.2.2.2.1 c h1 h2, if_neg (by omega), if_neg (by omega), sm_s, ht c, mn_0]
    by_cases z : fwd (M0 155) np r l j * nsh (M0 155) np (5 - l) j = 0
    · rw [z, if_pos (show nI 0 = 0 from rfl)]
      exact skip (fun c => by unfold trm; rw [z, ite_self])
    · rw [if_neg (nI_ne0 (by omega) (by omega))]
      cases ha : al (M0 155) j
      · rw [Option.bind_some, if_neg (by decide)]
        obtain ⟨M', g1, g2⟩ := f224 h0 hn hl hj ha (by omega) (hI.c (fun c h1 h2 => by
          by_cases c2 : c < j + 1
          · rw [if_neg (by omega), if_pos c2, sm_s]
            unfold trm
            rw [edg_lo (show c ≤ j by omega), if_neg (fun z => Bool.noConfusion z.2), mn_0]
          · rw [if_neg (by omega), if_neg c2])) k161 (rM_findHeirs_L168 k161 f)
        exact ⟨M', g1, g2.next⟩
      · rw [Option.bind_some, if_pos rfl]
        exact skip (fun c => by unfold trm; rw [ha, if_neg (fun z => Bool.noConfusion z.1)])) (fun f A hI => by
    show rM_findHeirs_L168 k161 (f + 1) A (nI l) (nI np) = _
    rw [rM_findHeirs_L168, hI.1 155 (by decide) (by decide) (by decide), h0, if_pos (Int32.le_refl _)]) M h
  refine ⟨M', by rw [← nI_1]; exact e1, e2.1, e2.2.1, fun a p ha hp => ?_, fun c h1 h2 => ?_, fun a c h1 h2 h3 => e2.2.2.2.2 a c (by omega) h2 h3⟩
  · by_cases c : a = l + 1
    · subst c
      rw [e2.2.2.2.1 p hp hl, if_neg (by omega)]
      rfl
    · exact e2.2.2.1 a p (by omega) hp
  · rw [e2.2.2.2.2 (l + 1 + 1) c (by omega) (by omega) h1, if_neg (by omega)]
    rfl
theorem f161 {M0 : SS} {r : Nat} (h0 : M0 155 0 = nI np) (hn : np ≤ 14) : ∀ k l M f, l + k = 5 → k < f → P2 M0 M np r l 0 0 → ∃ M', rM_findHeirs_L161 f M (nI l) = some M' ∧ P2 M0 M' np r 5 0 0 := by
  intro k
  induction k with
  | zero =>
    intro l M f hl hf hP
    obtain ⟨g, rfl⟩ : ∃ g, f = g + 1 := ⟨f - 1, by omega⟩
    have : l = 5 := by omega
    subst this
    exact ⟨M, by rw [rM_findHeirs_L161, if_pos (by decide)], hP⟩
  | succ k ih =>
    intro l M f hl hf hP
    obtain ⟨g, rfl⟩ : ∃ g, f = g + 1 := ⟨f - 1, by omega⟩
    obtain ⟨M', e1, e2⟩ := f168 h0 hn (by omega) hP (rM_findHeirs_L161 g)
    rw [rM_findHeirs_L161, if_neg (show ¬ (5 : Int32) ≤ nI l from nle (n := 5) (by omega) (by decide)), e1]
    exact ih (l + 1) M' g (by omega) (by omega) e2
theorem findHeirs_m {M : SS} {r : Nat} (h0 : M 155 0 = nI np) (hn : np ≤ 14) (hr : r < np) : ∃ M', rM_findHeirs M (nI r) = some M' ∧ HF M M' ∧ ∀ a p, a ≤ 5 → p < np → M' 159 (14 * a + p) = nI (fwd (M 155) np r a p) := by
  unfold rM_findHeirs
  obtain ⟨A, e1, e2⟩ := f2 h0 hn hr 5 M FU (by omega) (by unfold FU; omega) ⟨fun _ _ _ _ => rfl, fun a p ha hp hlt => by omega⟩
  rw [show rM_findHeirs_L2 FU M (nI r) 5 = _ from e1]
  have key : ∀ a p, a ≤ 5 → p < np → (up A 159 r 1) 159 (14 * a + p) = if a = 0 ∧ p = r then 1 else 0 := by
    intro a p ha hp
    by_cases c : a = 0 ∧ p = r
    · rw [if_pos c, c.1, c.2, show 14 * 0 + r = r by omega, up_s]
    · rw [if_neg c, up_j (by omega)]
      exact (e2.2 a p ha hp (by omega)).2.2
  obtain ⟨M', e3, e4⟩ := f161 (M0 := M) (r := r) h0 hn 5 0 (up A 159 r 1) FU (by omega) (by unfold FU; omega) ⟨fun x h1 h2 h3 => by rw [up_o h3]; exact e2.1 x h1 h2 h3, fun a p ha hp => by
      rw [up_x (by decide), up_x (by decide)]
      exact ⟨(e2.2 a p ha hp (by omega)).1, (e2.2 a p ha hp (by omega)).2.1⟩, fun a p ha hp => by
      rw [key a p (by omega) hp]
      have : a = 0 := by omega
      subst this
      unfold fwd
      by_cases c : p = r
      · rw [if_pos ⟨rfl, c⟩, if_pos c]
        rfl
      · rw [if_neg (fun z => c z.2), if_neg c]
        rfl, fun c h1 h2 => by
      rw [key _ c (by omega) h1, if_neg (by omega), if_neg (by omega)]
      rfl, fun a c h1 h2 h3 => by
      rw [key a c h2 h3, if_neg (by omega)]⟩
  exact ⟨M', e3, e4.1, fun a p ha hp => e4.2.2.1 a p ha hp⟩
theorem partOf_m {M M' : SS} {r q : Nat} (hn : np ≤ 14) (hq : q < np) (hF : HF M M') (hf : ∀ a p, a ≤ 5 → p < np → M' 159 (14 * a + p) = nI (fwd (M 155) np r a p)) : rM_partOf M' (nI q) = some (nI (prt (M 155) np r q)) := by
  have e155 : M' 155 = M 155 := hF 155 (by decide) (by decide) (by decide)
  unfold rM_partOf
  obtain ⟨v, e1, e2⟩ := loop_e0 (fun f a i => rM_partOf_L4 M' f (nI q) a i) 6 (fun a => some a) (fun l a => a = nI (if al (M 155) q = true then sm (fun l => fwd (M 155) np r l q) l else 0)) (by omega) (fun f l a hl hI => by
    show ∃ a', rM_partOf_L4 M' (f + 1) (nI q) a (nI l) = rM_partOf_L4 M' f (nI q) a' (nI (l + 1)) ∧ _
    rw [rM_partOf_L4, if_neg (show ¬ (6 : Int32) ≤ nI l from nle (n := 6) hl (by decide)), mlives_eq (by omega), e155, a14, if_pos (nI_inb (by omega) (by decide)), nI_ix (by omega), hf l q (by omega) hq, Option.bind_some]
    refine ⟨_, ?_, rfl⟩
    have hb : fwd (M 155) np r l q ≤ 537824 := Nat.le_trans (fwd_le hn r l q) (Nat.pow_le_pow_right (by decide) (by omega) : 14 ^ l ≤ 14 ^ 5)
    have hs : sm (fun l => fwd (M 155) np r l q) l ≤ 537824 := sm_le _ (fun i hi => Nat.le_trans (fwd_le hn r i q) (Nat.pow_le_pow_right (by decide) (by omega) : 14 ^ i ≤ 14 ^ 5))
    unfold rM_partOf_J33 rM_partOf_J50 rM_partOf_J55 rM_partOf_J56
    rw [nI_1]
    cases ha : al (M 155) q
    · rw [if_neg (by decide), if_pos (Int32.le_refl _), if_neg (by decide), hI, ha, if_neg (by decide)]
    · rw [if_pos rfl, if_pos rfl, hI, ha, if_pos rfl, sm_s]
      generalize sm (fun l => fwd (M 155) np r l q) l = s at hs ⊢
      generalize fwd (M 155) np r l q = w at hb ⊢
      by_cases z : w = 0
      · rw [z, if_pos (show nI 0 ≤ 0 by decide), mn_0]
      · rw [if_neg (nI_nle (by omega) (by omega))]
        by_cases z2 : s = 0
        · rw [z2, if_pos (show nI 0 = 0 from rfl), mn_0l]
        · rw [if_neg (nI_ne0 (by omega) (by omega)), mn_le0 z2 (by omega)]
          by_cases z3 : s ≤ w
          · rw [if_pos (nI_le z3 (by omega)), if_pos z3]
          · rw [if_neg (nle (by omega) (by omega)), if_neg z3]) (fun f a _ => by
    show rM_partOf_L4 M' (f + 1) (nI q) a (nI 6) = _
    rw [rM_partOf_L4, if_pos (by decide)]) 0 (by show (0 : Int32) = nI (if _ then 0 else 0); rw [ite_self]; rfl)
  refine Eq.trans e1 ?_
  rw [e2]
  rfl
theorem heirsOf_m {M : SS} {r : Nat} (h0 : M 155 0 = nI np) (hn : np ≤ 14) (hr : r < np) : ∃ v M', rM_heirsOf M (nI r) = some (v, M') ∧ HF M M' ∧ ∀ q, q < 32 → bt v q = decide (q < np ∧ 0 < shr (M 155) np 5 r q) := by
  obtain ⟨M', e1, e2, e3⟩ := findHeirs_m h0 hn hr
  have e155 : M' 155 = M 155 := e2 155 (by decide) (by decide) (by decide)
  unfold rM_heirsOf
  rw [e1, Option.bind_some]
  have e4 : rM_heirsOf_L9 FU M' 0 0 = some (fo (setF (fun q => decide (0 < shr (M 155) np 5 r q))) np 0 0, M') := by
    refine loop_0' (fun f a i => rM_heirsOf_L9 f M' a i) (setF (fun q => decide (0 < shr (M 155) np 5 r q))) np (fun a => (a, M')) (by omega) (fun f i a hi => ?_) (fun f a => ?_) 0
    · show rM_heirsOf_L9 (f + 1) M' a (nI i) = _
      have hb := shr_le (N := M 155) hn 5 r i
      rw [show (14 : Nat) ^ 5 = 537824 from rfl] at hb
      rw [rM_heirsOf_L9, e155, h0, if_neg (nle hi (by omega)), partOf_m hn hi e2 e3, Option.bind_some, prt_eq hr hi]
      unfold rM_heirsOf_J35 setF
      dsimp only
      rw [nI_1]
      by_cases z : 0 < shr (M 155) np 5 r i
      · rw [if_neg (nI_nle z (by omega)), if_pos (decide_eq_true z)]
      · rw [if_pos (by rw [show shr (M 155) np 5 r i = 0 by omega]; decide), if_neg (fun w => z (of_decide_eq_true w))]
    · show rM_heirsOf_L9 (f + 1) M' a (nI np) = _
      rw [rM_heirsOf_L9, e155, h0, if_pos (Int32.le_refl _)]
  refine ⟨_, M', e4, e2, fun q hq => ?_⟩
  rw [bt_set _ _ (by omega) q hq, Bool.decide_and]
end HeirsM
theorem shr_lt {N : Nat → Int32} {np : Nat} : ∀ k p q, p < np → 0 < shr N np k p q → q < np := by
  intro k
  induction k with
  | zero =>
    intro p q hp h
    unfold shr at h
    split at h
    · rename_i c
      omega
    · omega
  | succ k ih =>
    intro p q hp h
    cases ha : al N p
    · obtain ⟨c, hc, h2⟩ := (sm_pos _ _).mp ((shr_pos_s ha).mp h)
      split at h2
      · exact ih c q hc h2
      · omega
    · rw [shr_al ha] at h
      split at h
      · omega
      · omega
theorem kM.hf {M M' : SS} (h : HF M M') : kM M M' := by
  refine ⟨?_, ?_, ?_, ?_, ?_, ?_, ?_, ?_, ?_, ?_⟩
  all_goals rw [h _ (by decide) (by decide) (by decide)]
theorem heirs_both {S : SS} {T : TS} {X : XS} {M : SS} {np nf nx nl yr : Nat} (h : LD S T X (M 155) np nf nx nl yr) {r : Nat} (hr : r < np) : ∃ v M', cLand_heirsOf S (nI r) = some v ∧ rM_heirsOf M (nI r) = some (v, M') ∧ HF M M' ∧ ∀ q, q < 32 → bt v q = decide (0 < shr (M 155) np 5 r q) := by
  have hc := h.cp
  obtain ⟨v, e1, e2⟩ := heirsOf_c h hr
  obtain ⟨w, M', f1, f2, f3⟩ := heirsOf_m h.n0 hc.1 hr
  have : w = v := by
    apply b_ext
    intro q hq
    rw [f3 q hq, e2 q hq]
    exact decide_eq_decide.mpr ⟨fun z => z.2, fun z => ⟨shr_lt 5 r q hr z, z⟩⟩
  subst this
  exact ⟨w, M', e1, f1, f2, e2⟩
theorem sim_heirs (S : SS) (K : KS) (T : TS) (X : XS) (M : SS) (z0 : Int32) (hR : Rel S K T X M) : ∃ p q, cD_heirs S z0 = some p ∧ rM_heirs M z0 = some q ∧ p.1 = q.1 ∧ Rel p.2 K T X q.2 := by
  obtain ⟨np, nf, nx, nl, yr, h⟩ := hR.ld
  have hc := h.cp
  unfold cD_heirs rM_heirs
  rw [cLand_hasPerson_eq h.s0 (by omega), rM_isPerson_eq h.n0 (by omega)]
  simp only [Option.bind_some, found_eq, finds_eq]
  by_cases h1 : inb z0 np
  · obtain ⟨r, hr, rfl⟩ := inb_ex h1
    obtain ⟨v, M', e1, e2, e3, _⟩ := heirs_both h hr
    simp only [decide_eq_true h1, if_true, e1, e2, Option.bind_some]
    refine ⟨_, _, rfl, rfl, rfl, hR.land kS.refl (kM.hf e3) ?_⟩
    dsimp only
    rw [e3 155 (by decide) (by decide) (by decide)]
    exact h.rel
  · simp only [decide_eq_false h1, Bool.false_eq_true, if_false]
    exact ⟨_, _, rfl, rfl, rfl, hR.fnd⟩
theorem sim_share (S : SS) (K : KS) (T : TS) (X : XS) (M : SS) (z0 z1 : Int32) (hR : Rel S K T X M) : ∃ p q, cD_share S z0 z1 = some p ∧ rM_share M z0 z1 = some q ∧ p.1 = q.1 ∧ Rel p.2 K T X q.2 := by
  obtain ⟨np, nf, nx, nl, yr, h⟩ := hR.ld
  have hc := h.cp
  unfold cD_share rM_share cD_share_J22 rM_share_J16
  rw [cLand_hasPerson_eq h.s0 (by omega), rM_isPerson_eq h.n0 (by omega), cLand_hasPerson_eq h.s0 (by omega), rM_isPerson_eq h.n0 (by omega)]
  simp only [Option.bind_some, found_eq, finds_eq]
  by_cases h1 : inb z0 np
  · by_cases h2 : inb z1 np
    · obtain ⟨r, hr, rfl⟩ := inb_ex h1
      obtain ⟨q, hq, rfl⟩ := inb_ex h2
      obtain ⟨M', e1, e2, e3⟩ := findHeirs_m h.n0 hc.1 hr
      have hb := shr_le (N := M 155) hc.1 5 r q
      rw [show (14 : Nat) ^ 5 = 537824 from rfl] at hb
      have hR' : Rel S K T X M' := hR.land kS.refl (kM.hf e2) (by
        rw [e2 155 (by decide) (by decide) (by decide)]
        exact h.rel)
      simp only [decide_eq_true h1, decide_eq_true h2, if_true, shareOf_c h hr hq, e1, Option.bind_some, partOf_m hc.1 hq e2 e3, prt_eq hr hq]
      by_cases z : shr (M 155) np 5 r q = 0
      · rw [z, if_pos (show nI 0 ≤ 0 by decide), if_pos (show nI 0 = 0 from rfl)]
        exact ⟨_, _, rfl, rfl, rfl, hR'.fnd⟩
      · rw [if_neg (nI_nle (by omega) (by omega)), if_neg (nI_ne0 (by omega) (by omega))]
        exact ⟨_, _, rfl, rfl, rfl, hR'⟩
    · simp only [decide_eq_true h1, decide_eq_false h2, Bool.false_eq_true, if_true, if_false]
      exact ⟨_, _, rfl, rfl, rfl, hR.fnd⟩
  · simp only [decide_eq_false h1, Bool.false_eq_true, if_false]
    exact ⟨_, _, rfl, rfl, rfl, hR.fnd⟩
