/-! ===== the reference looks at the next token ===== -/
def LKF (M0 M : SS) : Prop := (∀ x, x ≠ 154 → M x = M0 x) ∧ ∀ j, (j < 15 ∨ 18 < j) → M 154 j = M0 154 j
theorem LKF.refl {M : SS} : LKF M M := ⟨fun _ _ => rfl, fun _ _ => rfl⟩
theorem LKF.up {M0 M : SS} (h : LKF M0 M) {j : Nat} {v : Int32} (hj : 15 ≤ j ∧ j ≤ 18) : LKF M0 (up M 154 j v) :=
  ⟨fun x hx => by rw [up_o hx]; exact h.1 x hx, fun i hi => by rw [up_j (by omega)]; exact h.2 i hi⟩
theorem LKF.trans {M0 M M' : SS} (h : LKF M0 M) (h' : LKF M M') : LKF M0 M' := ⟨fun x hx => (h'.1 x hx).trans (h.1 x hx), fun j hj => (h'.2 j hj).trans (h.2 j hj)⟩
theorem LXc.lk {M0 M : SS} {B : Nat → Int32} {n : Nat} (h : LXc M0 B n) (hf : LKF M0 M) : LXc M B n := by
  obtain ⟨h1, h2, h3, h4, h5⟩ := h
  refine ⟨h1, by rw [hf.2 8 (by omega)]; exact h2, by rw [hf.1 160 (by decide)]; exact h3, h4, ?_⟩
  unfold CN
  rw [hf.1 161 (by decide), hf.1 162 (by decide)]
  exact h5
theorem r_let (b : Int32) : rM_isLetter b = some (isLt b) := within_eq b 97 122
theorem r_dig (b : Int32) : rM_isDigit b = some (isDg b) := within_eq b 48 57
section LexM
variable {M : SS} {B : Nat → Int32} {n : Nat}
theorem byt_in (h : LXc M B n) {p : Nat} (hp : p < n) : rM_byteAt M (nI p) = some (B p) := by
  have := h.1
  unfold rM_byteAt
  rw [h.2.1, if_neg (nle hp (by omega)), if_pos (nI_inb (show p < 200 by omega) (by decide)), nI_ix (by omega), h.2.2.1 p hp]
theorem byt_out (h : LXc M B n) : rM_byteAt M (nI n) = some (-1) := by
  unfold rM_byteAt
  rw [h.2.1, if_pos (Int32.le_refl _)]
theorem m_word1 (h : LXc M B n) {p e w : Nat} (hw : w < 17) (he : e ≤ n) (hl : bg (w + 1) - bg w = e - p) (h15 : M 154 15 = nI p) (h16 : M 154 16 = nI e) (k2 : Int32 → Option Int32) : ∀ d k f, k + d = e - p → p + k + d = e → d < f → rM_wordOf_L46 M k2 f (nI w) (pmt B p e w k) (nI (p + k)) = if pmt B p e w (e - p) = true then some (nI w + 1) else k2 (nI (w + 1)) := by
  have h200 := h.1
  obtain ⟨b1, b2, b3, b4, b5⟩ := bg_all w hw
  intro d
  induction d with
  | zero =>
    intro k f hk hk2 hf
    obtain ⟨f', rfl⟩ : ∃ f', f = f' + 1 := ⟨f - 1, by omega⟩
    rw [rM_wordOf_L46, h16, if_pos (nI_le (by omega) (by omega)), show k = e - p by omega]
    unfold rM_wordOf_J96
    rw [nI_1]
  | succ d ih =>
    intro k f hk hk2 hf
    obtain ⟨f', rfl⟩ : ∃ f', f = f' + 1 := ⟨f - 1, by omega⟩
    obtain ⟨b6, b7⟩ := b5 k (by omega)
    have := ih (k + 1) f' (by omega) (by omega) (by omega)
    have ep : pmt B p e w (k + 1) = (pmt B p e w k && (decide (p + k < e) && decide (B (p + k) = wCh (bg w + w + k)))) := rfl
    rw [ep, decide_eq_true (show p + k < e by omega), Bool.true_and, show p + (k + 1) = p + k + 1 by omega] at this
    rw [rM_wordOf_L46, h16, if_neg (nle (by omega) (by omega))]
    cases hp : pmt B p e w k
    · rw [if_neg (by decide)]
      have hf2 := pmt_f (B := B) (p := p) (e := e) (w := w) (d + 1) k hp
      rw [show k + (d + 1) = e - p by omega] at hf2
      unfold rM_wordOf_J96
      rw [hf2, nI_1]
    · rw [hp, Bool.true_and] at this
      have ia : M 162 (ix (nI w)) + nI (p + k) - M 154 15 = nI (bg w + k) := by
        rw [nI_ix (by omega), h15, h.2.2.2.2.2 w (by omega), b4, nI_add, pk_sub (by omega)]
        congr 1
        omega
      rw [if_pos rfl, byt_in h (show p + k < n by omega), Option.bind_some, if_pos (nI_inb (show w < 18 by omega) (by decide)), ia, if_pos (nI_inb (show bg w + k < 69 by omega) (by decide)), nI_ix (show bg w + k < 2 ^ 31 by omega), h.2.2.2.2.1 _ (by omega), b7]
      unfold rM_wordOf_J89
      rw [nI_1]
      by_cases c : B (p + k) = wCh (bg w + w + k)
      · rw [if_pos c]
        rw [decide_eq_true c] at this
        exact this
      · rw [if_neg c]
        rw [decide_eq_false c] at this
        exact this
theorem bgM (h : LXc M B n) : ∀ w, w < 18 → M 162 w = nI (bg w) := by
  intro w hw
  rw [h.2.2.2.2.2 w hw]
  by_cases e : w = 17
  · subst e
    exact bg_17.1
  · exact (bg_all w (by omega)).2.2.2.1
theorem m_words (h : LXc M B n) {p e : Nat} (hpe : p < e) (he : e ≤ n) (h15 : M 154 15 = nI p) (h16 : M 154 16 = nI e) : ∀ d w f, w + d = 17 → d < f → rM_wordOf_L2 M f (nI w) = some (rmp (wdF B p e d w)) := by
  have h200 := h.1
  intro d
  induction d with
  | zero =>
    intro w f hw hf
    obtain ⟨f', rfl⟩ : ∃ f', f = f' + 1 := ⟨f - 1, by omega⟩
    have e1 : w = 17 := by omega
    subst e1
    rw [rM_wordOf_L2, if_pos (by decide)]
    rfl
  | succ d ih =>
    intro w f hw hf
    obtain ⟨f', rfl⟩ : ∃ f', f = f' + 1 := ⟨f - 1, by omega⟩
    obtain ⟨b1, b2, _⟩ := bg_all w (by omega)
    have nx := ih (w + 1) f' (by omega) (by omega)
    have r1 : nI w + 1 = rmp w := by
      unfold rmp
      rw [if_pos (by omega), nI_1]
    rw [rM_wordOf_L2, if_neg (show ¬ (17 : Int32) ≤ nI w from nle (n := 17) (by omega) (by decide)), nI_1, if_pos (nI_inb (show w + 1 < 18 by omega) (by decide)), if_pos (nI_inb (show w < 18 by omega) (by decide)), nI_ix (by omega), nI_ix (by omega), bgM h _ (by omega), bgM h _ (by omega), h15, h16, pk_sub (by omega), pk_sub (by omega)]
    unfold rM_wordOf_J40
    rw [h15]
    show _ = some (rmp (if mtw B p e w = true then w else wdF B p e d (w + 1)))
    by_cases c : bg (w + 1) - bg w = e - p
    · have m1 := m_word1 h (w := w) (by omega) he c h15 h16 (rM_wordOf_L2 M f') (e - p) 0 FU (by omega) (by omega) (by unfold FU; omega)
      rw [if_pos (by rw [c]), show rM_wordOf_L46 M (rM_wordOf_L2 M f') FU (nI w) true (nI p) = _ from m1]
      unfold mtw
      rw [c, decide_eq_true (show p + (e - p) = e by omega), Bool.and_true]
      by_cases c2 : pmt B p e w (e - p) = true
      · rw [if_pos c2, if_pos c2, r1]
      · rw [if_neg c2, if_neg c2]
        exact nx
    · have mf : mtw B p e w = false := by
        unfold mtw
        rw [decide_eq_false (by omega), Bool.and_false]
      rw [if_neg (fun z => c ((nI_eq (by omega) (by omega)).mp z)), mf, if_neg (show ¬ false = true by decide)]
      unfold FU
      rw [rM_wordOf_L46, h16, if_neg (nle hpe (by omega)), if_neg (by decide)]
      unfold rM_wordOf_J96
      rw [if_neg (by decide), nI_1]
      exact nx
theorem m_l70 : ∀ d p s M f, p + d = n → d < f → LXc M B n → s < rnn isLt B n p → M 154 15 = nI s → M 154 16 = nI p → ∃ M', rM_looks_L70 f M = some M' ∧ LKF M M' ∧ M' 154 15 = nI s ∧ M' 154 16 = nI (rnn isLt B n p) ∧ M' 154 17 = rmp (wdF B s (rnn isLt B n p) 17 0) := by
  intro d
  induction d with
  | zero =>
    intro p s M f hp hf h hs h15 h16
    obtain ⟨f', rfl⟩ : ∃ f', f = f' + 1 := ⟨f - 1, by omega⟩
    have e : p = n := by omega
    subst e
    have h200 := h.1
    rw [rnn_e (Nat.le_refl _)] at hs ⊢
    rw [rM_looks_L70, h16, byt_out h, Option.bind_some, r_let, Option.bind_some, if_neg (by decide)]
    unfold rM_wordOf
    rw [show rM_wordOf_L2 M FU 0 = _ from m_words h hs (Nat.le_refl _) h15 h16 17 0 FU (by omega) (by unfold FU; omega), Option.bind_some]
    exact ⟨_, rfl, LKF.refl.up (by omega), by rw [up_j (by decide)]; exact h15, by rw [up_j (by decide)]; exact h16, up_s⟩
  | succ d ih =>
    intro p s M f hp hf h hs h15 h16
    obtain ⟨f', rfl⟩ : ∃ f', f = f' + 1 := ⟨f - 1, by omega⟩
    have h200 := h.1
    rw [rM_looks_L70, h16, byt_in h (by omega), Option.bind_some, r_let, Option.bind_some, nI_1]
    rw [rnn_s (show p < n by omega)] at hs ⊢
    by_cases c : isLt (B p) = true
    · rw [if_pos c] at hs ⊢
      rw [if_pos c]
      obtain ⟨M', g1, g2, g3⟩ := ih (p + 1) s (up M 154 16 (nI (p + 1))) f' (by omega) (by omega) (h.lk (LKF.refl.up (by omega))) hs (by rw [up_j (by decide)]; exact h15) up_s
      exact ⟨M', g1, (LKF.refl.up (by omega)).trans g2, g3⟩
    · rw [if_neg c] at hs ⊢
      rw [if_neg c]
      unfold rM_wordOf
      rw [show rM_wordOf_L2 M FU 0 = _ from m_words h hs (by omega) h15 h16 17 0 FU (by omega) (by unfold FU; omega), Option.bind_some]
      exact ⟨_, rfl, LKF.refl.up (by omega), by rw [up_j (by decide)]; exact h15, by rw [up_j (by decide)]; exact h16, up_s⟩
theorem m_l120 {s : Nat} : ∀ d p M f, p + d = n → d < f → LXc M B n → s ≤ p → M 154 15 = nI s → M 154 16 = nI p → M 154 18 = nI (dv B s (min (p - s) 4)) → ∃ M', rM_looks_L120 f M = some M' ∧ LKF M M' ∧ M' 154 15 = nI s ∧ M' 154 16 = nI (rnn isDg B n p) ∧ M' 154 17 = (if rnn isDg B n p - s ≤ 4 then 50 else 60) ∧ (rnn isDg B n p - s ≤ 4 → M' 154 18 = nI (dv B s (rnn isDg B n p - s))) := by
  intro d
  induction d with
  | zero =>
    intro p M f hp hf h hs h15 h16 h18
    obtain ⟨f', rfl⟩ : ∃ f', f = f' + 1 := ⟨f - 1, by omega⟩
    have e : p = n := by omega
    subst e
    have h200 := h.1
    rw [rnn_e (Nat.le_refl _), rM_looks_L120, h16, byt_out h, Option.bind_some, r_dig, Option.bind_some, if_neg (by decide), h15, pk_sub hs]
    unfold rM_looks_J211
    by_cases c : p - s ≤ 4
    · rw [if_pos (show nI (p - s) ≤ 4 from nI_le (b := 4) c (by decide)), if_pos c]
      exact ⟨_, rfl, LKF.refl.up (by omega), by rw [up_j (by decide)]; exact h15, by rw [up_j (by decide)]; exact h16, up_s, fun _ => by rw [up_j (by decide), h18, Nat.min_eq_left c]⟩
    · rw [if_neg (show ¬ nI (p - s) ≤ 4 from nle (n := p - s) (i := 4) (by omega) (by omega)), if_neg c]
      exact ⟨_, rfl, LKF.refl.up (by omega), by rw [up_j (by decide)]; exact h15, by rw [up_j (by decide)]; exact h16, up_s, fun z => absurd z c⟩
  | succ d ih =>
    intro p M f hp hf h hs h15 h16 h18
    obtain ⟨f', rfl⟩ : ∃ f', f = f' + 1 := ⟨f - 1, by omega⟩
    have h200 := h.1
    rw [rM_looks_L120, h16, byt_in h (by omega), Option.bind_some, r_dig, Option.bind_some, h15, pk_sub hs, Option.bind_some]
    rw [rnn_s (show p < n by omega)]
    by_cases c : isDg (B p) = true
    · rw [if_pos c, if_pos c]
      have go : ∀ v : Int32, v = nI (dv B s (min (p + 1 - s) 4)) → ∃ M', rM_looks_J174 (rM_looks_L120 f') M v = some M' ∧ LKF M M' ∧ M' 154 15 = nI s ∧ M' 154 16 = nI (rnn isDg B n (p + 1)) ∧ M' 154 17 = (if rnn isDg B n (p + 1) - s ≤ 4 then 50 else 60) ∧ (rnn isDg B n (p + 1) - s ≤ 4 → M' 154 18 = nI (dv B s (rnn isDg B n (p + 1) - s))) := by
        intro v hv
        unfold rM_looks_J174
        rw [up_j (show (16 : Nat) ≠ 18 by decide), h16, nI_1]
        have f1 : LKF M (up (up M 154 18 v) 154 16 (nI (p + 1))) := (LKF.refl.up (by omega)).up (by omega)
        obtain ⟨M', g1, g2, g3⟩ := ih (p + 1) (up (up M 154 18 v) 154 16 (nI (p + 1))) f' (by omega) (by omega) (h.lk f1) (by omega) (by rw [up_j (by decide), up_j (by decide)]; exact h15) up_s (by rw [up_j (by decide), up_s, hv])
        exact ⟨M', g1, f1.trans g2, g3⟩
      by_cases c4 : 4 ≤ p - s
      · rw [if_pos (show (4 : Int32) ≤ nI (p - s) from nI_le (a := 4) c4 (by omega))]
        refine go _ ?_
        rw [h18, show min (p - s) 4 = 4 by omega, show min (p + 1 - s) 4 = 4 by omega]
      · rw [if_neg (show ¬ (4 : Int32) ≤ nI (p - s) from nle (n := 4) (by omega) (by decide))]
        refine go _ ?_
        obtain ⟨b, hb, eb⟩ := inb_ex (h.2.2.2.1 p (by omega))
        have hg := c
        rw [eb] at hg
        have hb2 := dg_all b hb hg
        rw [h18, show min (p - s) 4 = p - s by omega, show min (p + 1 - s) 4 = (p - s) + 1 by omega]
        show _ = nI (10 * dv B s (p - s) + (ix (B (s + (p - s))) - 48))
        rw [show s + (p - s) = p by omega, eb, show (10 : Int32) = nI 10 from rfl, pk_mul, nI_add, show (48 : Int32) = nI 48 from rfl, pk_sub (by omega), nI_ix (by omega)]
        congr 1
        omega
    · rw [if_neg c, if_neg c]
      unfold rM_looks_J211
      by_cases c4 : p - s ≤ 4
      · rw [if_pos (show nI (p - s) ≤ 4 from nI_le (b := 4) c4 (by decide)), if_pos c4]
        exact ⟨_, rfl, LKF.refl.up (by omega), by rw [up_j (by decide)]; exact h15, by rw [up_j (by decide)]; exact h16, up_s, fun _ => by rw [up_j (by decide), h18, Nat.min_eq_left c4]⟩
      · rw [if_neg (show ¬ nI (p - s) ≤ 4 from nle (n := p - s) (i := 4) (by omega) (by omega)), if_neg c4]
        exact ⟨_, rfl, LKF.refl.up (by omega), by rw [up_j (by decide)]; exact h15, by rw [up_j (by decide)]; exact h16, up_s, fun z => absurd z c4⟩
theorem neg_b : ∀ q, q < 256 → 0 ≤ nI q := by decide +kernel
theorem rmp_num {t : Nat} (h : 26 ≤ t) : rmp t = 50 := by
  unfold rmp
  rw [if_neg (by omega)]
  split <;> first | omega | rfl
theorem m_l8 : ∀ d p M f, p + d = n → d < f → LXc M B n → M 154 15 = nI p → ∃ M', rM_looks_L8 f M = some M' ∧ LKF M M' ∧ M' 154 15 = nI (skn B n p) ∧ M' 154 16 = nI (eE B n (skn B n p)) ∧ M' 154 17 = rmp (tkE B n (skn B n p)) ∧ (26 ≤ tkE B n (skn B n p) → M' 154 18 = nI (tkE B n (skn B n p) - 26)) := by
  intro d
  induction d with
  | zero =>
    intro p M f hp hf h h15
    obtain ⟨f', rfl⟩ : ∃ f', f = f' + 1 := ⟨f - 1, by omega⟩
    have e : p = n := by omega
    subst e
    have f1 : LKF M (up M 154 16 (nI p)) := LKF.refl.up (by omega)
    have e15 : up M 154 16 (nI p) 154 15 = nI p := by rw [up_j (by decide)]; exact h15
    rw [show skn B p p = p from rnn_e (Nat.le_refl _), rM_looks_L8, h15, byt_out h, Option.bind_some, if_neg (by decide), e15, byt_out (h.lk f1), Option.bind_some, if_neg (by decide)]
    unfold eE tkE
    rw [if_neg (by omega), if_neg (by omega)]
    exact ⟨_, rfl, f1.up (by omega), by rw [up_j (by decide)]; exact e15, by rw [up_j (by decide), up_s], up_s, fun z => absurd z (by omega)⟩
  | succ d ih =>
    intro p M f hp hf h h15
    obtain ⟨f', rfl⟩ : ∃ f', f = f' + 1 := ⟨f - 1, by omega⟩
    have h200 := h.1
    rw [rM_looks_L8, h15, byt_in h (by omega), Option.bind_some, nI_1]
    have st : skn B n p = if isSp (B p) = true then skn B n (p + 1) else p := rnn_s (by omega)
    rw [st]
    by_cases c : B p = 32
    · rw [if_pos c, if_pos (show isSp (B p) = true from decide_eq_true c)]
      have f1 : LKF M (up M 154 15 (nI (p + 1))) := LKF.refl.up (by omega)
      obtain ⟨M', g1, g2, g3⟩ := ih (p + 1) (up M 154 15 (nI (p + 1))) f' (by omega) (by omega) (h.lk f1) up_s
      exact ⟨M', g1, f1.trans g2, g3⟩
    · have f1 : LKF M (up M 154 16 (nI p)) := LKF.refl.up (by omega)
      have h1 := h.lk f1
      have e15 : up M 154 16 (nI p) 154 15 = nI p := by rw [up_j (by decide)]; exact h15
      obtain ⟨b, hb, eb⟩ := inb_ex (h.2.2.2.1 p (by omega))
      have b0 : 0 ≤ B p := by rw [eb]; exact neg_b b hb
      have hE : eE B n p = eN B n p := by unfold eE; rw [if_pos (by omega)]
      have hT : tkE B n p = tkv B n p := by unfold tkE; rw [if_pos (by omega)]
      rw [if_neg c, if_neg (show ¬ isSp (B p) = true from fun z => c (of_decide_eq_true z)), e15, byt_in h1 (by omega), Option.bind_some, if_pos b0, r_let, Option.bind_some, hE, hT]
      by_cases cl : isLt (B p) = true
      · have eL : eN B n p = rnn isLt B n p := by
          unfold eN
          rw [if_pos cl, rnn_s (show p < n by omega), if_pos cl]
        have he := eN_b (B := B) (n := n) (p := p) (by omega)
        obtain ⟨M', g1, g2, g3, g4, g5⟩ := m_l70 (n - p) p p (up M 154 16 (nI p)) FU (by omega) (by unfold FU; omega) h1 (by rw [← eL]; omega) e15 up_s
        rw [← eL] at g4 g5
        have tv : tkv B n p = wdF B p (eN B n p) 17 0 := by
          unfold tkv
          rw [if_pos cl]
        rw [if_pos cl, tv]
        refine ⟨M', g1, f1.trans g2, g3, g4, g5, fun z => ?_⟩
        rcases wdF_lt (B := B) (p := p) (e := eN B n p) 17 0 rfl with q | q <;> omega
      · rw [if_neg cl, r_dig, Option.bind_some]
        by_cases cd : isDg (B p) = true
        · have eD : eN B n p = rnn isDg B n p := by
            unfold eN
            rw [if_neg cl, if_pos cd, rnn_s (show p < n by omega), if_pos cd]
          have f2 : LKF M (up (up M 154 16 (nI p)) 154 18 0) := f1.up (by omega)
          obtain ⟨M', g1, g2, g3, g4, g5, g6⟩ := m_l120 (s := p) (n - p) p (up (up M 154 16 (nI p)) 154 18 0) FU (by omega) (by unfold FU; omega) (h.lk f2) (Nat.le_refl _) (by rw [up_j (by decide)]; exact e15) (by rw [up_j (by decide), up_s]) (by rw [up_s, Nat.sub_self, Nat.zero_min]; rfl)
          rw [← eD] at g4 g5 g6
          rw [if_pos cd]
          have tv : tkv B n p = if eN B n p - p ≤ 4 then 26 + dv B p (eN B n p - p) else 25 := by
            unfold tkv
            rw [if_neg cl, if_pos cd]
          rw [tv]
          refine ⟨M', g1, f2.trans g2, g3, g4, ?_, ?_⟩
          · rw [g5]
            by_cases c4 : eN B n p - p ≤ 4
            · rw [if_pos c4, if_pos c4, rmp_num (by omega)]
            · rw [if_neg c4, if_neg c4]
              rfl
          · by_cases c4 : eN B n p - p ≤ 4
            · rw [if_pos c4]
              intro _
              rw [g6 c4]
              congr 1
              omega
            · rw [if_neg c4]
              intro z
              omega
        · rw [if_neg cd]
          have tv : tkv B n p = sg (B p) := by
            unfold tkv
            rw [if_neg cl, if_neg cd]
          have ev : eN B n p = p + 1 := by
            unfold eN
            rw [if_neg cl, if_neg cd]
          rw [tv, ev, eb]
          unfold rM_looks_J244
          rw [up_s, nI_1]
          rcases (sg_all b hb).2 with ⟨_, _, s3, s4, s5, s6⟩ | ⟨_, s3, s4⟩
          · rw [s3, Option.bind_some, if_pos rfl, s4]
            exact ⟨_, rfl, (f1.up (by omega)).up (by omega), by rw [up_j (by decide), up_j (by decide)]; exact e15, by rw [up_j (by decide), up_s], up_s, fun z => absurd z (by omega)⟩
          · rw [s4, Option.bind_some, if_neg (by decide), s3]
            exact ⟨_, rfl, (f1.up (by omega)).up (by omega), by rw [up_j (by decide), up_j (by decide)]; exact e15, by rw [up_j (by decide), up_s], up_s, fun z => absurd z (by omega)⟩
theorem looks_ok (h : LXc M B n) {j : Nat} (h16 : M 154 16 = nI (eq_ B n j)) : ∃ M', rM_looks M = some M' ∧ LKF M M' ∧ M' 154 15 = nI (pq B n j) ∧ M' 154 16 = nI (eq_ B n (j + 1)) ∧ M' 154 17 = rmp (tq B n j) ∧ (26 ≤ tq B n j → M' 154 18 = nI (tq B n j - 26)) := by
  have hb := eq_b (B := B) (n := n) j
  have f1 : LKF M (up M 154 15 (nI (eq_ B n j))) := LKF.refl.up (by omega)
  unfold rM_looks
  rw [h16]
  obtain ⟨M', g1, g2, g3⟩ := m_l8 (n - eq_ B n j) (eq_ B n j) (up M 154 15 (nI (eq_ B n j))) FU (by omega) (by have := h.1; unfold FU; omega) (h.lk f1) up_s
  exact ⟨M', g1, f1.trans g2, g3⟩
end LexM
