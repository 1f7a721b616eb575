/-! ===== the reference's moves, a token each ===== -/
theorem rmp_26 : ∀ t, t < 26 → ∀ u, u < 24 → rmp t = rmp u → t = u := by decide +kernel
theorem rmp_50 : ∀ u, u < 26 → ¬ (50 : Int32) = rmp u := by decide +kernel
theorem rmp_u {t u : Nat} (hu : u < 24) (h : rmp t = rmp u) : t = u := by
  by_cases c : t < 26
  · exact rmp_26 t c u hu h
  · rw [rmp_num (by omega)] at h
    exact absurd h (rmp_50 u (by omega))
theorem nm_all : ∀ t, t < 11 → ¬ rmp t = 140 ∧ ¬ rmp t = 17 ∧ ¬ rmp t = 50 ∧ rM_in (rmp t) 1 11 = some true ∧ -(rmp t) = ren t := by decide +kernel
theorem wf_all : ∀ t, t < 26 → 11 ≤ t → t ≠ 17 → ¬ rmp t = 140 ∧ ¬ rmp t = 50 ∧ rM_in (rmp t) 1 11 = some false := by decide +kernel
section Moves
variable {B : Nat → Int32} {n : Nat} {M0 M : SS} {part at_ : Nat} {V e p : List Nat}
theorem mv_one (h : RS B n M0 M part at_ V e) (h0 : LXc M0 B n) (hp : part < 3) (he : e.length < 200) (ht : tq B n at_ ≤ 10 ∨ 26 ≤ tq B n at_) (ht2 : tq B n at_ < 10026) : ∃ M', (∀ f a3, rM_readsE_L20 (f + 1) M (nI part) 1 a3 = rM_readsE_L20 f M' (nI part) 0 a3) ∧ RS B n M0 M' part (at_ + 1) V (e ++ [tq B n at_]) := by
  obtain ⟨M1, g1, g2, g3, g4, g5⟩ := h.look h0
  rcases ht with ht | ht
  · obtain ⟨n1, n2, n3, n4, n5⟩ := nm_all _ (show tq B n at_ < 11 by omega)
    obtain ⟨M', l1, l2, l3⟩ := g2.lay n5 hp he
    refine ⟨M', fun f a3 => ?_, l2⟩
    rw [rM_readsE_L20, g1, Option.bind_some, if_neg (show ¬ (1 : Int32) = 0 by decide), g4, if_neg n1, if_neg n2]
    unfold rM_readsE_J55 rM_readsE_J56 rM_readsE_J109 rM_readsE_J136 rM_readsE_J158 rM_readsE_J168
    rw [if_neg (by decide), if_neg (by decide), g4, if_neg n3, n4, Option.bind_some, if_pos rfl, if_neg n3, l1, Option.bind_some]
  · have r50 := rmp_num ht
    have hv : nI (tq B n at_ - 26) = ren (tq B n at_) := by
      unfold ren
      rw [if_pos ht]
    obtain ⟨M', l1, l2, l3⟩ := g2.lay hv hp he
    refine ⟨M', fun f a3 => ?_, l2⟩
    rw [rM_readsE_L20, g1, Option.bind_some, if_neg (show ¬ (1 : Int32) = 0 by decide), g4, r50, if_neg (by decide), if_neg (by decide)]
    unfold rM_readsE_J55 rM_readsE_J56 rM_readsE_J109 rM_readsE_J136 rM_readsE_J158 rM_readsE_J168
    rw [if_neg (by decide), if_neg (by decide), g4, r50, if_pos rfl, if_pos rfl, g5 ht, l1, Option.bind_some]
theorem open_eq {M1 : SS} (h : RS B n M0 M1 part at_ V e) (hv : ∀ x, x ∈ V → x < 24) (hs : V.length ≤ 200) (k20 : SS → Int32 → Int32 → Int32 → Option (Bool × SS)) (a1 a2 a3 : Int32) : rM_readsE_J51 k20 M1 a1 a2 a3 = if 4 ≤ V.count 17 + V.count 16 then some (false, M1) else (if inb (M1 154 20) 200 then rM_readsE_J168 k20 (up (up M1 164 (ix (M1 154 20)) (M1 154 17)) 154 20 (((up M1 164 (ix (M1 154 20)) (M1 154 17)) 154 20) + (1 : Int32))) a1 a2 (1 : Int32) else none) := by
  have c1 := List.count_le_length (a := 17) (l := V)
  have c2 := List.count_le_length (a := 16) (l := V)
  have w1 : rM_waitsOf M1 140 = some (nI (V.count 17)) := waits_ok h hv hs (t := 17) (by decide)
  have w2 : rM_waitsOf M1 17 = some (nI (V.count 16)) := waits_ok h hv hs (t := 16) (by decide)
  unfold rM_readsE_J51 rM_readsE_J56
  rw [if_pos rfl, w1, w2, Option.bind_some, Option.bind_some, nI_add]
  by_cases c : 4 ≤ V.count 17 + V.count 16
  · rw [if_pos (show (4 : Int32) ≤ nI (V.count 17 + V.count 16) from nI_le (a := 4) c (by omega)), if_pos c]
    unfold rM_readsE_J109
    rw [if_pos rfl]
  · rw [if_neg (show ¬ (4 : Int32) ≤ nI (V.count 17 + V.count 16) from nle (n := 4) (by omega) (by decide)), if_neg c]
theorem mv_open (h : RS B n M0 M part at_ V e) (h0 : LXc M0 B n) (hv : ∀ x, x ∈ V → x < 24) (hs : V.length < 200) {a3 : Int32} (ht : tq B n at_ = 17 ∨ (tq B n at_ = 16 ∧ a3 = 1)) (hc : V.count 17 + V.count 16 < 4) : ∃ M', (∀ f, rM_readsE_L20 (f + 1) M (nI part) 1 a3 = rM_readsE_L20 f M' (nI part) 1 1) ∧ RS B n M0 M' part (at_ + 1) (V ++ [tq B n at_]) e := by
  obtain ⟨M1, g1, g2, g3, g4, g5⟩ := h.look h0
  refine ⟨_, fun f => ?_, g2.push (t := tq B n at_)⟩
  have hin : inb (M1 154 20) 200 := by
    rw [g2.2.2.1]
    exact nI_inb hs (by decide)
  have go : rM_readsE_J51 (rM_readsE_L20 f) M1 (nI part) 1 a3 = rM_readsE_L20 f (up (up M1 164 V.length (rmp (tq B n at_))) 154 20 (nI (V.length + 1))) (nI part) 1 1 := by
    rw [open_eq g2 hv (by omega), if_neg (by omega), if_pos hin, up_x (show (154 : Nat) ≠ 164 by decide), g2.2.2.1, nI_ix (by omega), nI_1, g4]
    rfl
  rw [rM_readsE_L20, g1, Option.bind_some, if_neg (show ¬ (1 : Int32) = 0 by decide), g4]
  rcases ht with ht | ⟨ht, ha⟩
  · rw [if_pos (show rmp (tq B n at_) = 140 by rw [ht]; rfl), go]
  · rw [if_neg (show ¬ rmp (tq B n at_) = 140 by rw [ht]; decide), if_pos (show rmp (tq B n at_) = 17 by rw [ht]; rfl), if_neg (show ¬ a3 = 0 by rw [ha]; decide), go]
theorem mv_openF (h : RS B n M0 M part at_ V e) (h0 : LXc M0 B n) (hv : ∀ x, x ∈ V → x < 24) (hs : V.length ≤ 200) {a3 : Int32} (ht : tq B n at_ = 17 ∨ (tq B n at_ = 16 ∧ a3 = 1)) (hc : 4 ≤ V.count 17 + V.count 16) : ∃ M', (∀ f, rM_readsE_L20 (f + 1) M (nI part) 1 a3 = some (false, M')) ∧ RF B n M0 M' at_ := by
  obtain ⟨M1, g1, g2, g3, g4, g5⟩ := h.look h0
  refine ⟨M1, fun f => ?_, g2.rf g3⟩
  have go : rM_readsE_J51 (rM_readsE_L20 f) M1 (nI part) 1 a3 = some (false, M1) := by
    rw [open_eq g2 hv hs, if_pos hc]
  rw [rM_readsE_L20, g1, Option.bind_some, if_neg (show ¬ (1 : Int32) = 0 by decide), g4]
  rcases ht with ht | ⟨ht, ha⟩
  · rw [if_pos (show rmp (tq B n at_) = 140 by rw [ht]; rfl), go]
  · rw [if_neg (show ¬ rmp (tq B n at_) = 140 by rw [ht]; decide), if_pos (show rmp (tq B n at_) = 17 by rw [ht]; rfl), if_neg (show ¬ a3 = 0 by rw [ha]; decide), go]
theorem mv_wantF (h : RS B n M0 M part at_ V e) (h0 : LXc M0 B n) {a3 : Int32} (h1 : 11 ≤ tq B n at_) (h2 : tq B n at_ < 26) (h3 : tq B n at_ ≠ 17) (h4 : tq B n at_ = 16 → a3 = 0) : ∃ M', (∀ f, rM_readsE_L20 (f + 1) M (nI part) 1 a3 = some (false, M')) ∧ RF B n M0 M' at_ := by
  obtain ⟨M1, g1, g2, g3, g4, g5⟩ := h.look h0
  refine ⟨M1, fun f => ?_, g2.rf g3⟩
  obtain ⟨w1, w2, w3⟩ := wf_all _ h2 h1 h3
  have go : rM_readsE_J55 (rM_readsE_L20 f) M1 (nI part) 1 a3 = some (false, M1) := by
    unfold rM_readsE_J55 rM_readsE_J56 rM_readsE_J109
    rw [if_neg (by decide), if_neg (by decide), g4, if_neg w2, w3, Option.bind_some, if_neg (by decide)]
  rw [rM_readsE_L20, g1, Option.bind_some, if_neg (show ¬ (1 : Int32) = 0 by decide), g4, if_neg w1]
  by_cases c : tq B n at_ = 16
  · rw [if_pos (show rmp (tq B n at_) = 17 by rw [c]; rfl), if_pos (h4 c), go]
  · rw [if_neg (show ¬ rmp (tq B n at_) = 17 from fun z => c (rmp_u (u := 16) (by decide) z)), go]
theorem cnt_pos {a : Nat} {l r : List Nat} : 0 < List.count a (l ++ [a] ++ r) := by
  rw [List.count_append, List.count_append]
  have : List.count a [a] = 1 := by simp
  omega
theorem mv_close (h : RS B n M0 M part at_ (V ++ [17] ++ p.reverse) e) (h0 : LXc M0 B n) (hp : part < 3) (hv : ∀ x, x ∈ V ++ [17] ++ p.reverse → x < 24) (hs : V.length + 1 + p.length + e.length ≤ 200) (hk : ∀ t, t ∈ p → 1 ≤ rk t) (ht : tq B n at_ = 18) : ∃ M', (∀ f a3, rM_readsE_L20 (f + 1) M (nI part) 0 a3 = rM_readsE_L20 f M' (nI part) 0 a3) ∧ RS B n M0 M' part (at_ + 1) V (e ++ p) := by
  obtain ⟨M1, g1, g2, g3, g4, g5⟩ := h.look h0
  have hln : (V ++ [17] ++ p.reverse).length ≤ 200 := by rw [lnr, ln1]; omega
  have w1 : rM_waitsOf M1 140 = some (nI ((V ++ [17] ++ p.reverse).count 17)) := waits_ok g2 hv hln (t := 17) (by decide)
  have cp := cnt_pos (a := 17) (l := V) (r := p.reverse)
  have cl := List.count_le_length (a := 17) (l := V ++ [17] ++ p.reverse)
  obtain ⟨M2, s1, s2, s3⟩ := settle_ok hp (r := 1) (by decide) (by decide) (low_p (V := V) (t := 17) (by decide)) g2 hk (by rw [ln1]; omega)
  refine ⟨_, fun f a3 => ?_, s2.pop⟩
  have e20 := s2.2.2.1
  rw [ln1] at e20
  rw [rM_readsE_L20, g1, Option.bind_some, if_pos rfl, g4, if_pos (show rmp (tq B n at_) = 141 by rw [ht]; rfl), w1, Option.bind_some, if_neg (nI_nle cp (by omega)), show rM_settles M1 1 = _ from s1, Option.bind_some, e20, nI_pred]
theorem mv_op (h : RS B n M0 M part at_ (V ++ p.reverse) e) (h0 : LXc M0 B n) (hp : part < 3) (hs : V.length + p.length + e.length < 200) (ht : 1 ≤ rk (tq B n at_)) (ht2 : tq B n at_ ≠ 16) (hk : ∀ t, t ∈ p → rk (tq B n at_) ≤ rk t) (hl : low V (rk (tq B n at_))) (h4 : rk (tq B n at_) = 4 → ∀ t, t ∈ p → 4 < rk t) : ∃ M', (∀ f a3, rM_readsE_L20 (f + 1) M (nI part) 0 a3 = rM_readsE_L20 f M' (nI part) 1 (b2i (decide (rk (tq B n at_) < 3)))) ∧ RS B n M0 M' part (at_ + 1) (V ++ [tq B n at_]) (e ++ p) := by
  obtain ⟨M1, g1, g2, g3, g4, g5⟩ := h.look h0
  have r5 := rk_le (tq B n at_)
  obtain ⟨M2, s1, s2, s3⟩ := settle_ok hp ht r5 hl g2 hk (by omega)
  refine ⟨_, fun f a3 => ?_, s2.push (t := tq B n at_)⟩
  have n18 : ¬ rmp (tq B n at_) = 141 := fun z => by
    have := rmp_u (u := 18) (by decide) z
    rw [this] at ht
    exact absurd ht (by decide)
  have n19 : ¬ rmp (tq B n at_) = 159 := fun z => by
    have := rmp_u (u := 19) (by decide) z
    rw [this] at ht
    exact absurd ht (by decide)
  have n16 : ¬ rmp (tq B n at_) = 17 := fun z => ht2 (rmp_u (u := 16) (by decide) z)
  have e17 : M2 154 17 = rmp (tq B n at_) := by rw [s3 17 (by decide) (by decide)]; exact g4
  have hin : inb (M2 154 20) 200 := by
    rw [s2.2.2.1]
    exact nI_inb (by omega) (by decide)
  have go : rM_readsE_J300 (rM_readsE_L20 f) M1 (nI part) (nI (rk (tq B n at_))) = rM_readsE_L20 f (up (up M2 164 V.length (rmp (tq B n at_))) 154 20 (nI (V.length + 1))) (nI part) 1 (b2i (decide (rk (tq B n at_) < 3))) := by
    unfold rM_readsE_J300 rM_readsE_J342
    rw [s1, Option.bind_some, if_pos hin, up_x (show (154 : Nat) ≠ 164 by decide), s2.2.2.1, nI_ix (by omega), nI_1, e17]
    by_cases c : 3 ≤ rk (tq B n at_)
    · rw [if_pos (show (3 : Int32) ≤ nI (rk (tq B n at_)) from nI_le (a := 3) c (by omega)), decide_eq_false (by omega)]
    · rw [if_neg (show ¬ (3 : Int32) ≤ nI (rk (tq B n at_)) from nle (n := 3) (by omega) (by decide)), decide_eq_true (by omega)]
  rw [rM_readsE_L20, g1, Option.bind_some, if_pos rfl, g4, if_neg n18]
  unfold rM_readsE_J209
  rw [g4, if_neg n19]
  unfold rM_readsE_J258
  rw [g4, if_neg n16, rk_eq, Option.bind_some]
  unfold rM_readsE_J278
  rw [if_neg (nI_ne0 (by omega) (by omega))]
  by_cases c : rk (tq B n at_) = 4
  · have e20 := g2.2.2.1
    rw [lnr] at e20
    have tn : rM_isTested M1 = some false := by
      unfold rM_isTested
      rw [e20]
      exact tested_n (by rw [c] at hl; exact hl) p FU (by omega) g2.2.2.2.1 (h4 c) (by unfold FU; omega)
    rw [if_pos (show nI (rk (tq B n at_)) = 4 by rw [c]; rfl), tn, Option.bind_some, if_neg (by decide), go]
  · rw [if_neg (show ¬ nI (rk (tq B n at_)) = 4 from fun z => c ((nI_eq (a := rk (tq B n at_)) (b := 4) (by omega) (by decide)).mp z)), go]
theorem mv_end (h : RS B n M0 M part at_ p.reverse e) (h0 : LXc M0 B n) (hp : part < 3) (hs : p.length + e.length ≤ 200) (hk : ∀ t, t ∈ p → 1 ≤ rk t) (ht : tq B n at_ = 19) : ∃ M', (∀ f a3, rM_readsE_L20 (f + 1) M (nI part) 0 a3 = some (true, up M' 163 (203 * part) (nI (e ++ p).length))) ∧ RS B n M0 M' part (at_ + 1) [] (e ++ p) := by
  obtain ⟨M1, g1, g2, g3, g4, g5⟩ := h.look h0
  have c0 : List.count 17 p.reverse = 0 := by
    rw [List.count_eq_zero]
    intro z
    have := hk 17 (List.mem_reverse.mp z)
    exact absurd this (by decide)
  have w1 : rM_waitsOf M1 140 = some (nI (p.reverse.count 17)) := waits_ok g2 (fun x hx => rk_lt (hk x (List.mem_reverse.mp hx))) (by rw [List.length_reverse]; omega) (t := 17) (by decide)
  rw [c0] at w1
  have g2' : RS B n M0 M1 part (at_ + 1) ([] ++ p.reverse) e := g2
  obtain ⟨M2, s1, s2, s3⟩ := settle_ok hp (r := 1) (by decide) (by decide) (Or.inl rfl) g2' hk (by rw [List.length_nil]; omega)
  refine ⟨M2, fun f a3 => ?_, s2⟩
  have e19 := s2.2.1
  have a1 : (203 : Int32) * nI part = nI (203 * part) := pk_mul 203 part
  rw [rM_readsE_L20, g1, Option.bind_some, if_pos rfl, g4, if_neg (show ¬ rmp (tq B n at_) = 141 by rw [ht]; decide)]
  unfold rM_readsE_J209
  rw [g4, if_pos (show rmp (tq B n at_) = 159 by rw [ht]; rfl), w1, Option.bind_some, if_pos nI_0, show rM_settles M1 1 = _ from s1, Option.bind_some, a1, if_pos (nI_inb (show 203 * part < 609 by omega) (by decide)), nI_ix (by omega), e19, pk_sub (by omega), show 203 * part + 1 + (e ++ p).length - 203 * part = (e ++ p).length + 1 by omega, nI_pred]
theorem mv_0F (h : RS B n M0 M part at_ (V ++ p.reverse) e) (h0 : LXc M0 B n) (hv : ∀ x, x ∈ V ++ p.reverse → x < 24) (hs : V.length + p.length ≤ 200) (h18 : tq B n at_ = 18 → (V ++ p.reverse).count 17 = 0) (h19 : tq B n at_ = 19 → 0 < (V ++ p.reverse).count 17) (hr : rk (tq B n at_) = 0 ∨ tq B n at_ = 16 ∨ (rk (tq B n at_) = 4 ∧ tst p = true)) : ∃ M', (∀ f a3, rM_readsE_L20 (f + 1) M (nI part) 0 a3 = some (false, M')) ∧ RF B n M0 M' at_ := by
  obtain ⟨M1, g1, g2, g3, g4, g5⟩ := h.look h0
  refine ⟨M1, fun f a3 => ?_, g2.rf g3⟩
  have hln : (V ++ p.reverse).length ≤ 200 := by rw [lnr]; omega
  have w1 : rM_waitsOf M1 140 = some (nI ((V ++ p.reverse).count 17)) := waits_ok g2 hv hln (t := 17) (by decide)
  have cl := List.count_le_length (a := 17) (l := V ++ p.reverse)
  have r5 := rk_le (tq B n at_)
  have f258 : rM_readsE_J258 (rM_readsE_L20 f) M1 (nI part) = some (false, M1) := by
    unfold rM_readsE_J258
    rw [g4]
    by_cases c : tq B n at_ = 16
    · rw [if_pos (show rmp (tq B n at_) = 17 by rw [c]; rfl)]
      unfold rM_readsE_J278
      rw [if_pos rfl]
    · rw [if_neg (show ¬ rmp (tq B n at_) = 17 from fun z => c (rmp_u (u := 16) (by decide) z)), rk_eq, Option.bind_some]
      unfold rM_readsE_J278
      rcases hr with hr | hr | ⟨hr, ht⟩
      · rw [hr, if_pos nI_0]
      · exact absurd hr c
      · have e20 := g2.2.2.1
        rw [lnr] at e20
        have ty : rM_isTested M1 = some true := by
          unfold rM_isTested
          rw [e20]
          exact tested_y p FU (by omega) g2.2.2.2.1 ht (by unfold FU; omega)
        rw [hr, if_neg (by decide), if_pos (by decide), ty, Option.bind_some, if_pos rfl]
  have f209 : rM_readsE_J209 (rM_readsE_L20 f) M1 (nI part) = some (false, M1) := by
    unfold rM_readsE_J209
    rw [g4]
    by_cases c : tq B n at_ = 19
    · rw [if_pos (show rmp (tq B n at_) = 159 by rw [c]; rfl), w1, Option.bind_some, if_neg (nI_ne0 (h19 c) (by omega)), f258]
    · rw [if_neg (show ¬ rmp (tq B n at_) = 159 from fun z => c (rmp_u (u := 19) (by decide) z)), f258]
  rw [rM_readsE_L20, g1, Option.bind_some, if_pos rfl, g4]
  by_cases c : tq B n at_ = 18
  · rw [if_pos (show rmp (tq B n at_) = 141 by rw [c]; rfl), w1, h18 c, Option.bind_some, if_pos (by decide), f209]
  · rw [if_neg (show ¬ rmp (tq B n at_) = 141 from fun z => c (rmp_u (u := 18) (by decide) z)), f209]
end Moves
