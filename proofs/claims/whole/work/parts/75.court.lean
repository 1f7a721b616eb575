/-! ===== a clause: both reckon alike ===== -/
theorem LD.fr {S A : SS} {T : TS} {X : XS} {N : Nat → Int32} {np nf nx nl yr : Nat} (h : LD S T X N np nf nx nl yr) (hS : ∀ x, (9 ≤ x ∧ x < 71) ∨ 172 ≤ x → A x = S x) : LD A T X N np nf nx nl yr :=
  ⟨h.1, h.2.1.frame h.1.1 (fun x g1 g2 => hS x (Or.inl ⟨g1, by omega⟩)), h.2.2.frame (fun x g1 _ => hS x (Or.inr g1)) (fun _ _ => rfl)⟩
theorem wk_or (a b : Int32) : cCourt_work 20014 a b = rM_done 15 a b := by
  unfold cCourt_work rM_done cCourt_work_J68 cCourt_work_J73 rM_done_J60
  rw [if_pos (by decide), if_pos rfl]
  by_cases h1 : a = 0
  · rw [if_pos h1, if_pos h1]
    by_cases h2 : b = 0
    · rw [if_pos h2, if_pos h2]
      rfl
    · rw [if_neg h2, if_neg h2]
      rfl
  · rw [if_neg h1, if_neg h1]
    rfl
theorem wk_and (a b : Int32) : cCourt_work 20015 a b = rM_done 16 a b := by
  have e1 : cCourt_work 20015 a b = if a = 0 then cCourt_work_J89 else if b = 0 then cCourt_work_J89 else cCourt_work_J90 true := by
    unfold cCourt_work
    rw [if_neg (by decide), if_pos (by decide)]
  have e2 : rM_done 16 a b = if a = 0 then some 0 else if b = 0 then some 0 else some 1 := by
    unfold rM_done
    rw [if_neg (by decide), if_pos rfl]
  rw [e1, e2]
  rfl
theorem wk_plus (a b : Int32) : cCourt_work 20020 a b = rM_done 143 a b := by
  unfold cCourt_work rM_done
  rw [if_neg (by decide), if_neg (by decide), if_neg (by decide), if_neg (by decide), if_neg (by decide), if_neg (by decide), if_pos (by decide), if_neg (by decide), if_neg (by decide), if_pos rfl]
theorem wk_minus (a b : Int32) : cCourt_work 20021 a b = rM_done 145 a b := by
  unfold cCourt_work rM_done
  rw [if_neg (by decide), if_neg (by decide), if_neg (by decide), if_neg (by decide), if_neg (by decide), if_neg (by decide), if_neg (by decide), if_pos (by decide), if_neg (by decide), if_neg (by decide), if_neg (by decide), if_neg (by decide), if_neg (by decide)]
theorem wk_less (a b : Int32) : cCourt_work 20022 a b = rM_done 160 a b := by
  have e1 : cCourt_work 20022 a b = if b ≤ a then cCourt_work_J104 false else cCourt_work_J104 true := by
    unfold cCourt_work
    rw [if_neg (by decide), if_neg (by decide), if_neg (by decide), if_neg (by decide), if_neg (by decide), if_neg (by decide), if_neg (by decide), if_neg (by decide), if_pos (by decide)]
  have e2 : rM_done 160 a b = if b ≤ a then some 0 else some 1 := by
    unfold rM_done
    rw [if_neg (by decide), if_neg (by decide), if_neg (by decide), if_pos rfl]
  rw [e1, e2]
  rfl
theorem wk_same (a b : Int32) : cCourt_work 20023 a b = rM_done 161 a b := by
  have e1 : cCourt_work 20023 a b = if a = b then cCourt_work_J118 true else cCourt_work_J118 false := by
    unfold cCourt_work
    rw [if_neg (by decide), if_neg (by decide), if_neg (by decide), if_neg (by decide), if_neg (by decide), if_neg (by decide), if_neg (by decide), if_neg (by decide), if_neg (by decide), if_pos (by decide)]
  have e2 : rM_done 161 a b = if a = b then some 1 else some 0 := by
    unfold rM_done
    rw [if_neg (by decide), if_neg (by decide), if_neg (by decide), if_neg (by decide), if_pos rfl]
  rw [e1, e2]
  rfl
theorem wk_ex (a b : Int32) (op : Int32) : ∃ v, rM_done op a b = some v := by
  unfold rM_done rM_done_J60
  repeat' split
  all_goals exact ⟨_, rfl⟩
theorem enc_w {c v : Int32} (h : (c, v) ∈ encT) (hv : ¬ v = -117) (a b : Int32) : 20000 ≤ c ∧ ¬ c = 20016 ∧ v ≤ -100 ∧ cCourt_work c a b = rM_done (-100 - v) a b := by
  unfold encT at h
  simp only [List.mem_cons, Prod.mk.injEq, List.mem_nil_iff, or_false] at h
  rcases h with ⟨rfl, rfl⟩ | ⟨rfl, rfl⟩ | ⟨rfl, rfl⟩ | ⟨rfl, rfl⟩ | ⟨rfl, rfl⟩ | ⟨rfl, rfl⟩ | ⟨rfl, rfl⟩
  · exact ⟨by decide, by decide, by decide, wk_or a b⟩
  · exact ⟨by decide, by decide, by decide, wk_and a b⟩
  · exact absurd rfl hv
  · exact ⟨by decide, by decide, by decide, wk_plus a b⟩
  · exact ⟨by decide, by decide, by decide, wk_minus a b⟩
  · exact ⟨by decide, by decide, by decide, wk_less a b⟩
  · exact ⟨by decide, by decide, by decide, wk_same a b⟩
theorem enc_n {c v : Int32} (h : (c, v) ∈ encT) (hv : v = -117) : c = 20016 := by
  unfold encT at h
  simp only [List.mem_cons, Prod.mk.injEq, List.mem_nil_iff, or_false] at h
  rcases h with ⟨rfl, rfl⟩ | ⟨rfl, rfl⟩ | ⟨rfl, rfl⟩ | ⟨rfl, rfl⟩ | ⟨rfl, rfl⟩ | ⟨rfl, rfl⟩ | ⟨rfl, rfl⟩
  all_goals first | rfl | exact absurd hv (by decide)
theorem neg_nI {k : Nat} (hk : k < 11) : -nI (k + 1) < 0 ∧ ¬ -nI (k + 1) ≤ -100 ∧ (-1 : Int32) - -nI (k + 1) = nI k ∧ nI (10000 + k) - 10000 = nI k := by
  have : ∀ k, k < 11 → -nI (k + 1) < 0 ∧ ¬ -nI (k + 1) ≤ -100 ∧ (-1 : Int32) - -nI (k + 1) = nI k ∧ nI (10000 + k) - 10000 = nI k := by decide +kernel
  exact this k hk
theorem val_num {S : SS} {k : Nat} (hk : k < 10000) : cCourt_valueOf S (nI k) = some (nI k) := by
  unfold cCourt_valueOf
  rw [within_eq]
  have : ¬ (0 ≤ nI k - 10000 ∧ nI k - 10000 ≤ 10) := by
    intro z
    have h := z.1
    rw [Int32.le_iff_toInt_le, show (10000 : Int32) = nI 10000 from rfl, pk_sub_toInt (by omega) (by omega)] at h
    have : (0 : Int32).toInt = 0 := rfl
    omega
  rw [decide_eq_false this]
  rfl
theorem val_name {S : SS} {k : Nat} (hk : k < 11) : cCourt_valueOf S (nI (10000 + k)) = some (S 134 k) := by
  unfold cCourt_valueOf
  rw [within_eq, (neg_nI hk).2.2.2]
  have : (0 : Int32) ≤ nI k ∧ nI k ≤ 10 := ⟨nI_pos' (by omega), nI_le (b := 10) (by omega) (by decide)⟩
  rw [decide_eq_true this, Option.bind_some, if_pos rfl, if_pos (nI_inb hk (by decide)), nI_ix (by omega)]
section So
variable {S M : SS} {T : TS} {X : XS}
theorem so_go {t base off n : Nat} (ht : tok X t) (hb : base + 1 + n < 10759) (ho : off + n ≤ X.1 (t + 1)) (hx : TXC S (M 155) t base off n) (hn : ∀ k, k < 11 → S 134 k = M 166 k) : ∀ m j h A B f g, j + m = n → m < f → m < g → h ≤ j → wfc (fun j => M 155 (base + 1 + j)) m j h → (∀ x, x ≠ 135 → A x = S x) → (∀ x, x ≠ 165 → B x = M x) → (∀ i, i < h → A 135 i = B 165 i) → ∃ r A' B', cCourt_comes_L70 T X f A t (nI h) (nI (off + n)) (nI (off + j)) = some (r, A') ∧ rM_isSo_L26 g B (nI base) (nI h) (nI (base + 1 + j)) = some (r, B') ∧ (∀ x, x ≠ 135 → A' x = S x) ∧ (∀ x, x ≠ 165 → B' x = M x) := by
  obtain ⟨hn1, hnb, henc, _⟩ := hx
  have htk := ht
  unfold tok at htk
  intro m
  induction m with
  | zero =>
    intro j h A B f g hj hf hg hh hw hA hB hs
    obtain ⟨f', rfl⟩ : ∃ f', f = f' + 1 := ⟨f - 1, by omega⟩
    obtain ⟨g', rfl⟩ : ∃ g', g = g' + 1 := ⟨g - 1, by omega⟩
    have h1 : h = 1 := hw
    subst h1
    have hj' : j = n := by omega
    subst hj'
    refine ⟨!decide (A 135 0 = 0), A, B, ?_, ?_, hA, hB⟩
    · rw [cCourt_comes_L70, if_pos (Int32.le_refl _), if_neg (by decide)]
      by_cases z : A 135 0 = 0
      · rw [if_pos z, decide_eq_true z]
        rfl
      · rw [if_neg z, decide_eq_false z]
        rfl
    · rw [rM_isSo_L26, if_pos (nI_inb (by omega) (by decide)), nI_ix (by omega), hB 155 (by decide), hnb, nI_add, if_pos (nI_lt (by omega) (by omega)), ← hs 0 (by omega)]
      by_cases z : A 135 0 = 0
      · rw [if_pos z, decide_eq_true z]
        rfl
      · rw [if_neg z, decide_eq_false z]
        rfl
  | succ m ih =>
    intro j h A B f g hj hf hg hh hw hA hB hs
    obtain ⟨f', rfl⟩ : ∃ f', f = f' + 1 := ⟨f - 1, by omega⟩
    obtain ⟨g', rfl⟩ : ∃ g', g = g' + 1 := ⟨g - 1, by omega⟩
    have hjn : j < n := by omega
    have he := henc j hjn
    unfold wfc at hw
    rw [cCourt_comes_L70, if_neg (nle (by omega) (by omega)), if_pos ht, if_pos (nI_inb (by omega) (by omega)), nI_ix (by omega), hA (t + 1) (by omega)]
    rw [rM_isSo_L26, if_pos (nI_inb (by omega) (by decide)), nI_ix (show base < 2 ^ 31 by omega), hB 155 (by decide), hnb, nI_add, if_neg (nI_nlt (by omega) (by omega)), if_pos (nI_inb (by omega) (by decide)), nI_ix (show base + 1 + j < 2 ^ 31 by omega)]
    have e1 : nI (off + j) + 1 = nI (off + (j + 1)) := nI_1 _
    have e2 : nI (base + 1 + j) + 1 = nI (base + 1 + (j + 1)) := nI_1 _
    unfold cCourt_comes_J208 rM_isSo_J159 cCourt_comes_J162 rM_isSo_J119 rM_isSo_J80 cCourt_comes_J208 rM_isSo_J159
    rw [e1, e2]
    have push : ∀ w : Int32, -100 < M 155 (base + 1 + j) → ∃ r A' B', cCourt_comes_L70 T X f' (up A 135 h w) t (nI (h + 1)) (nI (off + n)) (nI (off + (j + 1))) = some (r, A') ∧ rM_isSo_L26 g' (up B 165 h w) (nI base) (nI (h + 1)) (nI (base + 1 + (j + 1))) = some (r, B') ∧ (∀ x, x ≠ 135 → A' x = S x) ∧ (∀ x, x ≠ 165 → B' x = M x) := by
      intro w hv
      rw [if_pos hv] at hw
      refine ih (j + 1) (h + 1) _ _ f' g' (by omega) (by omega) (by omega) (by omega) hw (fun x hx => by rw [up_o hx]; exact hA x hx) (fun x hx => by rw [up_o hx]; exact hB x hx) (fun i hi => ?_)
      by_cases e : i = h
      · subst e
        rw [up_s, up_s]
      · rw [up_j e, up_j e]
        exact hs i (by omega)
    have h200 : inb (nI h) 200 := nI_inb (by omega) (by decide)
    rcases he with ⟨k, hk, ec, ev⟩ | ⟨k, hk, ec, ev⟩ | he
    · have hv : ¬ nI k ≤ -100 := by
        rw [Int32.le_iff_toInt_le, nI_int (by omega)]
        have : (-100 : Int32).toInt = -100 := by decide
        omega
      have hv2 : -100 < nI k := by
        rw [Int32.lt_iff_toInt_lt, nI_int (by omega)]
        have : (-100 : Int32).toInt = -100 := by decide
        omega
      rw [ec, ev, if_neg (show ¬ (20000 : Int32) ≤ nI k from nle (n := 20000) (by omega) (by decide)), if_neg (show ¬ (200 : Int32) ≤ nI h from nle (n := 200) (by omega) (by decide)), val_num hk, Option.bind_some, if_pos h200, if_neg hv, if_pos (nI_pos' (by omega)), if_pos h200, nI_ix (show h < 2 ^ 31 by omega), nI_1]
      exact push (nI k) (by rw [ev]; exact hv2)
    · obtain ⟨q1, q2, q3, q4⟩ := neg_nI hk
      rw [ec, ev, if_neg (show ¬ (20000 : Int32) ≤ nI (10000 + k) from nle (n := 20000) (by omega) (by decide)), if_neg (show ¬ (200 : Int32) ≤ nI h from nle (n := 200) (by omega) (by decide)), val_name hk, Option.bind_some, if_pos h200, if_neg q2, if_neg (fun z => Int32.not_lt.mpr z q1), q3, if_pos (nI_inb hk (by decide)), if_pos h200, nI_ix (show h < 2 ^ 31 by omega), nI_ix (show k < 2 ^ 31 by omega), nI_1, hA 134 (by decide), hB 166 (by decide), hn k hk]
      exact push _ (by rw [ev]; exact Int32.not_le.mp q2)
    · by_cases hv : M 155 (base + 1 + j) = -117
      · have hc := enc_n he hv
        rw [hv, if_neg (by decide), if_pos rfl] at hw
        have hi : h - 1 < 200 := by omega
        have e3 : nI h - 1 = nI (h - 1) := pk_sub (b := 1) hw.1
        have e4 : A 135 (h - 1) = B 165 (h - 1) := hs _ (by omega)
        rw [hc, hv, if_pos (by decide), if_pos rfl, if_neg (nI_nle (by omega) (by omega)), if_pos (show (-117 : Int32) ≤ -100 by decide), if_pos (show (-117 : Int32) = -117 from rfl), e3, if_pos (nI_inb hi (by decide)), nI_ix (show h - 1 < 2 ^ 31 by omega), if_pos (nI_inb hi (by decide)), ← e4]
        simp only [bit_eq, Option.bind_some, if_pos (nI_inb hi (show 200 < 2 ^ 31 by decide))]
        have go : ∀ w : Int32, ∃ r A' B', cCourt_comes_L70 T X f' (up A 135 (h - 1) w) t (nI h) (nI (off + n)) (nI (off + (j + 1))) = some (r, A') ∧ rM_isSo_L26 g' (up B 165 (h - 1) w) (nI base) (nI h) (nI (base + 1 + (j + 1))) = some (r, B') ∧ (∀ x, x ≠ 135 → A' x = S x) ∧ (∀ x, x ≠ 165 → B' x = M x) := by
          intro w
          refine ih (j + 1) h _ _ f' g' (by omega) (by omega) (by omega) (by omega) hw.2 (fun x hx => by rw [up_o hx]; exact hA x hx) (fun x hx => by rw [up_o hx]; exact hB x hx) (fun i hi => ?_)
          by_cases e : i = h - 1
          · subst e
            rw [up_s, up_s]
          · rw [up_j e, up_j e]
            exact hs i (by omega)
        by_cases z : A 135 (h - 1) = 0
        · rw [if_pos z, if_pos z]
          exact go _
        · rw [if_neg z, if_neg z]
          exact go _
      · have q := fun a b => enc_w he hv a b
        have q0 := q 0 0
        rw [if_neg (Int32.not_lt.mpr q0.2.2.1), if_neg hv] at hw
        have e3 : nI h + (-1) = nI (h - 1) := by
          rw [← Int32.sub_eq_add_neg]
          exact pk_sub (b := 1) (by omega)
        have e4 : nI (h - 1) - 1 = nI (h - 2) := pk_sub (b := 1) (a := h - 1) (by omega)
        rw [if_pos q0.1, if_neg q0.2.1, if_neg (show ¬ nI h ≤ 1 from nle (i := 1) (by omega) (by omega)), if_pos q0.2.2.1, if_neg hv, e3, e4, if_pos (nI_inb (show h - 2 < 200 by omega) (by decide)), if_pos (nI_inb (show h - 1 < 200 by omega) (by decide)), if_pos (nI_inb (show h - 2 < 200 by omega) (by decide)), if_pos (nI_inb (show h - 1 < 200 by omega) (by decide)), nI_ix (show h - 1 < 2 ^ 31 by omega), nI_ix (show h - 2 < 2 ^ 31 by omega), (q _ _).2.2.2, hs (h - 1) (by omega), hs (h - 2) (by omega)]
        obtain ⟨v, ev⟩ := wk_ex (B 165 (h - 2)) (B 165 (h - 1)) (-100 - M 155 (base + 1 + j))
        rw [ev, Option.bind_some, Option.bind_some]
        refine ih (j + 1) (h - 1) _ _ f' g' (by omega) (by omega) (by omega) (by omega) hw.2 (fun x hx => by rw [up_o hx]; exact hA x hx) (fun x hx => by rw [up_o hx]; exact hB x hx) (fun i hi => ?_)
        by_cases e : i = h - 2
        · subst e
          rw [up_s, up_s]
        · rw [up_j e, up_j e]
          exact hs i (by omega)
theorem so_both {np nf nx nl yr : Nat} (h : LD S T X (M 155) np nf nx nl yr) {q part : Nat} (hq : q < nl) (hp : part < 3) (hn : ∀ k, k < 11 → S 134 k = M 166 k) : ∃ r A' B', cCourt_comes_J33 T X S (nI part) (T (59 + q) 0) = some (r, A') ∧ rM_isSo M (nI q) (nI part) = some (r, B') ∧ (∀ x, x ≠ 135 → A' x = S x) ∧ (∀ x, x ≠ 165 → B' x = M x) := by
  have hc := h.cp
  have hx := h.2.2.2 q hq
  rw [show 9 + (50 + q) = 59 + q by omega] at hx
  obtain ⟨ht, n0, n1, n2, e1, e2, e3, x0, x1, x2⟩ := hx
  have htk := ht
  unfold tok at htk
  have hbase : (((406 : Int32) + ((609 : Int32) * ((5 : Int32) + nI q))) + ((203 : Int32) * nI part)) = nI (406 + 609 * (5 + q) + 203 * part) := by
    rw [show (5 : Int32) + nI q = nI (5 + q) from nI_add 5 q, show (609 : Int32) * nI (5 + q) = nI (609 * (5 + q)) from pk_mul 609 (5 + q), show (406 : Int32) + nI (609 * (5 + q)) = nI (406 + 609 * (5 + q)) from nI_add 406 _, show (203 : Int32) * nI part = nI (203 * part) from pk_mul 203 part, nI_add]
  have key : ∀ off n, off + n ≤ X.1 (T (59 + q) 0 + 1) → TXC S (M 155) (T (59 + q) 0) (406 + 609 * (5 + q) + 203 * part) off n → cText_to S X (T (59 + q) 0) (nI part) = some (nI (off + n)) → cText_from S (T (59 + q) 0) (nI part) = some (nI off) → ∃ r A' B', cCourt_comes_J33 T X S (nI part) (T (59 + q) 0) = some (r, A') ∧ rM_isSo M (nI q) (nI part) = some (r, B') ∧ (∀ x, x ≠ 135 → A' x = S x) ∧ (∀ x, x ≠ 165 → B' x = M x) := by
    intro off n ho hx f1 f2
    unfold cCourt_comes_J33 rM_isSo
    rw [if_neg (by omega), if_pos ht, f1, f2, Option.bind_some, Option.bind_some, if_neg (nI_nlt ho (by omega)), hbase, nI_1]
    exact so_go (T := T) ht (by omega) ho hx hn n 0 0 S M FU FU (by omega) (by unfold FU; omega) (by unfold FU; omega) (by omega) hx.2.2.2 (fun _ _ => rfl) (fun _ _ => rfl) (fun i hi => absurd hi (by omega))
  have hp3 : part = 0 ∨ part = 1 ∨ part = 2 := by omega
  rcases hp3 with rfl | rfl | rfl
  · refine key 0 n0 (by omega) x0 ?_ rfl
    unfold cText_to
    rw [if_pos (show nI 0 = 0 from rfl), e2, Nat.zero_add]
  · refine key n0 n1 (by omega) x1 ?_ ?_
    · unfold cText_to
      rw [if_neg (by decide), if_pos (show nI 1 = 1 from rfl), e3]
    · unfold cText_from
      rw [if_neg (by decide), if_pos (show nI 1 = 1 from rfl), e2]
  · refine key (n0 + n1) n2 (by omega) x2 ?_ ?_
    · unfold cText_to
      rw [if_neg (by decide), if_neg (by decide), e1]
    · unfold cText_from
      rw [if_neg (by decide), if_neg (by decide), e3]
end So
