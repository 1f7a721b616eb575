/-! ===== three clauses ===== -/
def QC (B : Nat → Int32) (n N : Nat) (Sb S : SS) (at_ : Nat) (c : List Nat) : Prop := (∀ x, x ≠ 137 → x ≠ 139 → x ≠ 140 → x ≠ 141 → x ≠ 142 → S x = Sb x) ∧ (∀ i, i ≠ 4 → i ≠ 5 → i ≠ 7 → S 137 i = Sb 137 i) ∧ S 137 4 = nI N ∧ (∀ i, i ≤ N → S 139 i = nI (tq B n i) ∧ S 140 i = nI (pq B n i)) ∧ S 137 5 = nI at_ ∧ S 137 7 = nI c.length ∧ ∀ j, j < c.length → S 141 j = cen (c.getD j 0)
def QM (B : Nat → Int32) (n : Nat) (Mb M : SS) (at_ : Nat) : Prop := M 154 16 = nI (eq_ B n at_) ∧ (∀ x, x ≠ 154 → x ≠ 163 → x ≠ 164 → M x = Mb x) ∧ ∀ j, (j < 15 ∨ 20 < j) → M 154 j = Mb 154 j
/-- both end at a token -/
def QF (B : Nat → Int32) (n : Nat) (Sb Mb : SS) (o : Option (Int32 × SS)) (r : Option (Bool × SS)) : Prop := ∃ at_ S' M', o = some (nI (pq B n at_), S') ∧ r = some (false, M') ∧ M' 154 15 = nI (pq B n at_) ∧ (∀ x, x ≠ 137 → x ≠ 139 → x ≠ 140 → x ≠ 141 → x ≠ 142 → S' x = Sb x) ∧ (∀ x, x ≠ 154 → x ≠ 163 → x ≠ 164 → M' x = Mb x) ∧ ∀ j, (j < 15 ∨ 20 < j) → M' 154 j = Mb 154 j
section Reads
variable {B : Nat → Int32} {n N : Nat} {Sb Mb S M : SS} {at_ : Nat} {c : List Nat}
theorem QM.lx (h : QM B n Mb M at_) (h0 : LXc Mb B n) : LXc M B n := by
  obtain ⟨h1, h2, h3, h4, h5⟩ := h0
  obtain ⟨_, g1, g2⟩ := h
  refine ⟨h1, by rw [g2 8 (by omega)]; exact h2, by rw [g1 160 (by decide) (by decide) (by decide)]; exact h3, h4, ?_⟩
  unfold CN
  rw [g1 161 (by decide) (by decide) (by decide), g1 162 (by decide) (by decide) (by decide)]
  exact h5
theorem key_all : ∀ q, q < 3 → (12 : Int32) + nI q = rmp (11 + q) ∧ (11 : Int32) + nI q = nI (11 + q) := by decide +kernel
theorem part_ok (hN : N ≤ 200) (hE : tq B n N = 24) (hL : ∀ i, i < N → tq B n i ≠ 24 ∧ tq B n i < 10026) (h0 : LXc Mb B n) {q : Nat} (hq : q < 3) (hS : QC B n N Sb S at_ c) (hM : QM B n Mb M at_) (ha : at_ ≤ N) (hc : c.length + 2 * q ≤ at_) : (∀ f g, QF B n Sb Mb (cScribe_reads_L16 (f + 1) S (nI q)) (rM_reads_L7 (g + 1) M (nI q))) ∨ ∃ at' D S' M', (∀ f, cScribe_reads_L16 (f + 1) S (nI q) = cScribe_reads_L16 f S' (nI (q + 1))) ∧ (∀ g, rM_reads_L7 (g + 1) M (nI q) = rM_reads_L7 g M' (nI (q + 1))) ∧ QC B n N Sb S' at' (c ++ D) ∧ QM B n Mb M' at' ∧ at' ≤ N ∧ (c ++ D).length + 2 * (q + 1) ≤ at' ∧ EX D ∧ S' 142 q = nI c.length ∧ (∀ i, i ≠ q → S' 142 i = S 142 i) ∧ M' 163 (203 * q) = nI D.length ∧ (∀ j, j < D.length → M' 163 (203 * q + 1 + j) = ren (D.getD j 0)) ∧ ∀ j, j < 203 * q → M' 163 j = M 163 j := by
  obtain ⟨s1, s2, s3, s4, s5, s6, s7⟩ := hS
  obtain ⟨k1, k2⟩ := key_all q hq
  -- the class's ground for this clause
  have hT : TK (up S 142 q (S 137 7)) B n N := ⟨hN, by rw [up_x (by decide)]; exact s3, fun i hi => by rw [up_x (by decide)]; exact (s4 i hi).1, hE, hL⟩
  have hC : CS (up S 142 q (S 137 7)) (up S 142 q (S 137 7)) at_ c := ⟨⟨by rw [up_x (by decide)]; exact s5, ⟨c.length, by omega, by rw [up_x (by decide)]; exact s6⟩, fun _ _ _ => rfl, fun _ _ _ => rfl⟩, by rw [up_x (by decide)]; exact s6, fun j hj => by rw [up_x (by decide)]; exact s7 j hj⟩
  have hb : ∀ {A : SS}, (∀ x, x ≠ 137 → x ≠ 141 → A x = up S 142 q (S 137 7) x) → ∀ x, x ≠ 137 → x ≠ 139 → x ≠ 140 → x ≠ 141 → x ≠ 142 → A x = Sb x := fun hA x g1 g2 g3 g4 g5 => by rw [hA x g1 g4, up_o g5]; exact s1 x g1 g2 g3 g4 g5
  have pl : ∀ {A : SS} {a : Nat}, CF (up S 142 q (S 137 7)) A a → a ≤ N → cScribe_reads_J59 A = some (nI (pq B n a), A) := fun hA haN => by
    have hi := hA.inb hT haN
    unfold cScribe_reads_J59
    rw [if_pos hi.1, hi.2, hA.2.2.1 140 (by decide) (by decide), up_x (by decide), (s4 _ haN).2]
  obtain ⟨M1, l1, l2, l3, l4, l5, l6⟩ := looks_ok (hM.lx h0) hM.1
  have q1M : ∀ x, x ≠ 154 → x ≠ 163 → x ≠ 164 → M1 x = Mb x := fun x g1 g2 g3 => by rw [l2.1 x g1]; exact hM.2.1 x g1 g2 g3
  have q2M : ∀ j, (j < 15 ∨ 20 < j) → M1 154 j = Mb 154 j := fun j hj => by rw [l2.2 j (by omega)]; exact hM.2.2 j hj
  have n3 : ¬ (3 : Int32) ≤ nI q := nle (n := 3) hq (by decide)
  have i3 : inb (nI q) 3 := nI_inb hq (by decide)
  have ixq : ix (nI q) = q := nI_ix (by omega)
  by_cases ck : tq B n at_ = 11 + q
  · have haN : at_ < N := hT.in_ ha (by omega)
    obtain ⟨S1, p1, p2⟩ := pass_y hT hC haN ck
    -- the reference's ground
    have hM1 : RS B n (up (up M1 154 19 (nI (203 * q + 1))) 154 20 0) (up (up M1 154 19 (nI (203 * q + 1))) 154 20 0) q (at_ + 1) [] [] := ⟨by rw [up_j (by decide), up_j (by decide)]; exact l4, by rw [up_j (by decide), up_s]; rfl, up_s, fun j hj => absurd hj (Nat.not_lt_zero _), fun j hj => absurd hj (Nat.not_lt_zero _), fun _ _ => rfl, fun _ _ _ _ => rfl, fun _ _ => rfl⟩
    have hX : LXc (up (up M1 154 19 (nI (203 * q + 1))) 154 20 0) B n := by
      have := (hM.lx h0).lk l2
      obtain ⟨x1, x2, x3, x4, x5⟩ := this
      refine ⟨x1, by rw [up_j (by decide), up_j (by decide)]; exact x2, by rw [up_o (by decide), up_o (by decide)]; exact x3, x4, ?_⟩
      unfold CN
      rw [up_o (by decide), up_o (by decide), up_o (by decide), up_o (by decide)]
      exact x5
    have fM : ∀ {A : SS}, (∀ x, x ≠ 154 → x ≠ 163 → x ≠ 164 → A x = up (up M1 154 19 (nI (203 * q + 1))) 154 20 0 x) → ∀ x, x ≠ 154 → x ≠ 163 → x ≠ 164 → A x = Mb x := fun hA x g1 g2 g3 => by rw [hA x g1 g2 g3, up_o g1, up_o g1]; exact q1M x g1 g2 g3
    have fM2 : ∀ {A : SS}, (∀ j, (j < 15 ∨ 20 < j) → A 154 j = up (up M1 154 19 (nI (203 * q + 1))) 154 20 0 154 j) → ∀ j, (j < 15 ∨ 20 < j) → A 154 j = Mb 154 j := fun hA j hj => by rw [hA j hj, up_j (by omega), up_j (by omega)]; exact q2M j hj
    have eR : rM_readsE M1 (nI q) = rM_readsE_L20 FU (up (up M1 154 19 (nI (203 * q + 1))) 154 20 0) (nI q) 1 1 := by
      unfold rM_readsE
      rw [show (203 : Int32) * nI q + 1 = nI (203 * q + 1) by rw [show (203 : Int32) = nI 203 from rfl, pk_mul, nI_1]]
    have eC : ∀ f, cScribe_reads_L16 (f + 1) S (nI q) = (cScribe_either_r S1 0).bind fun p9 => if p9.1 = true then (cScribe_passes p9.2 19).bind fun p11 => if p11.1 = true then cScribe_reads_L16 f p11.2 (nI (q + 1)) else cScribe_reads_J59 p11.2 else cScribe_reads_J59 p9.2 := by
      intro f
      rw [cScribe_reads_L16, if_neg n3, if_pos i3, ixq, k2, p1, Option.bind_some, if_pos rfl, nI_1]
    have eM : ∀ g, rM_reads_L7 (g + 1) M (nI q) = (rM_readsE_L20 FU (up (up M1 154 19 (nI (203 * q + 1))) 154 20 0) (nI q) 1 1).bind fun p6 => if p6.1 = true then rM_reads_L7 g p6.2 (nI (q + 1)) else some (false, p6.2) := by
      intro g
      rw [rM_reads_L7, if_neg n3, l1, Option.bind_some, l5, k1, if_pos (by rw [ck]), eR, nI_1]
    have r := eitherR_ok hT hX hq S1 (at_ + 1) c _ [] [] ⟨p2, hM1, by omega, by omega, Nat.zero_le _, fun x hx => absurd hx List.not_mem_nil, rfl⟩ (Or.inl rfl)
    rcases r with ⟨S2, k, d, p, M2, a, h1, h2, h3, h4, h5, h6, h7, h8, h9⟩ | ⟨S2, k, M2, h1, h2, h3, h4, h5⟩
    · have hfu : ∃ f1, FU = f1 + 1 + k := ⟨FU - 1 - k, by unfold FU; omega⟩
      obtain ⟨f1, hf1⟩ := hfu
      rw [List.nil_append] at h7
      by_cases c19 : tq B n (at_ + 1 + k) = 19
      · have hN2 := hT.in_ h3 (by omega)
        obtain ⟨S3, q3, q4⟩ := pass_y hT h4 hN2 c19
        obtain ⟨M3, m3, m4⟩ := mv_end h7 hX hq (by rw [List.nil_append]; omega) h9.1 c19
        rw [List.nil_append] at m3 m4
        have hdl : (d ++ p).length = d.length + p.length := List.length_append
        right
        refine ⟨at_ + 1 + k + 1, d ++ p, S3, up M3 163 (203 * q) (nI (d ++ p).length), fun f => ?_, fun g => ?_, ⟨hb q4.1.2.2.1, fun i g1 g2 g3 => ?_, ?_, fun i hi => ?_, q4.1.1, q4.2.1, q4.2.2⟩, ⟨?_, fun x g1 g2 g3 => ?_, fun j hj => ?_⟩, by omega, by rw [List.length_append, hdl]; omega, h8, ?_, fun i hi => ?_, up_s, fun j hj => ?_, fun j hj => ?_⟩
        · rw [eC, show cScribe_either_r S1 0 = _ from h1, Option.bind_some, if_pos rfl]
          dsimp only
          rw [show cScribe_passes S2 19 = _ from q3, Option.bind_some, if_pos rfl]
        · rw [eM, hf1, h6, m3, Option.bind_some, if_pos rfl]
        · rw [q4.1.2.2.2 i g2 g3, up_x (by decide)]
          exact s2 i g1 g2 g3
        · rw [q4.1.2.2.2 4 (by decide) (by decide), up_x (by decide)]
          exact s3
        · rw [q4.1.2.2.1 139 (by decide) (by decide), q4.1.2.2.1 140 (by decide) (by decide), up_x (by decide), up_x (by decide)]
          exact s4 i hi
        · rw [up_x (by decide)]
          exact m4.1
        · rw [up_o g2]
          exact fM m4.2.2.2.2.2.2.1 x g1 g2 g3
        · rw [up_x (by decide)]
          exact fM2 m4.2.2.2.2.2.2.2 j hj
        · rw [q4.1.2.2.1 142 (by decide) (by decide), up_s]
          exact s6
        · rw [q4.1.2.2.1 142 (by decide) (by decide), up_j hi]
        · rw [up_j (by omega)]
          exact m4.2.2.2.2.1 j hj
        · rw [up_j (by omega), m4.2.2.2.2.2.1 j (by omega), up_x (by decide), up_x (by decide), l2.1 163 (by decide)]
      · left
        intro f g
        obtain ⟨M3, m3, m4⟩ := mv_0F (V := []) h7 hX (mem_p (fun x hx => absurd hx List.not_mem_nil) h9.1) (by rw [List.length_nil]; omega) (fun _ => by
          rw [List.nil_append, List.count_eq_zero]
          intro z
          have := h9.1 17 (List.mem_reverse.mp z)
          exact absurd this (by decide)) (fun z => absurd z c19) (by
          obtain ⟨_, f1, f2, f3, f4, f5⟩ := h9
          rcases rk_cs (tq B n (at_ + 1 + k)) with z | z | z | z | z | z | z | z
          · exact Or.inl z
          · exact absurd z (f5 (by decide))
          · exact absurd z (f4 (by decide))
          · exact Or.inr (Or.inl z)
          · exact absurd z f1
          · exact absurd z f2
          · exact Or.inr (Or.inr ⟨by rw [z]; rfl, f3 (by decide) (Or.inl z)⟩)
          · exact Or.inr (Or.inr ⟨by rw [z]; rfl, f3 (by decide) (Or.inr z)⟩))
        refine ⟨at_ + 1 + k, S2, M3, ?_, ?_, m4.1, hb h4.1.2.2.1, fM m4.2.1, fM2 m4.2.2⟩
        · rw [eC, show cScribe_either_r S1 0 = _ from h1, Option.bind_some, if_pos rfl]
          dsimp only
          rw [show cScribe_passes S2 19 = _ from pass_n hT h4.1 h3 c19 (by decide), Option.bind_some, if_neg Bool.false_ne_true]
          exact pl h4.1 h3
        · rw [eM, hf1, h6, m3, Option.bind_some, if_neg Bool.false_ne_true]
    · left
      intro f g
      have hfu : ∃ f1, FU = f1 + k + 1 := ⟨FU - 1 - k, by unfold FU; omega⟩
      obtain ⟨f1, hf1⟩ := hfu
      refine ⟨at_ + 1 + k, S2, M2, ?_, ?_, h5.1, hb h3.2.2.1, fM h5.2.1, fM2 h5.2.2⟩
      · rw [eC, show cScribe_either_r S1 0 = _ from h1, Option.bind_some, if_neg Bool.false_ne_true]
        exact pl h3 h2
      · rw [eM, hf1, h4, Option.bind_some, if_neg Bool.false_ne_true]
  · left
    intro f g
    refine ⟨at_, up S 142 q (S 137 7), M1, ?_, ?_, l3, hb (fun _ _ _ => rfl), q1M, q2M⟩
    · rw [cScribe_reads_L16, if_neg n3, if_pos i3, ixq, k2, pass_n hT hC.1 ha ck (by omega), Option.bind_some, if_neg Bool.false_ne_true]
      exact pl hC.1 ha
    · rw [rM_reads_L7, if_neg n3, l1, Option.bind_some, l5, k1, if_neg (fun z => ck (rmp_u (by omega) z))]
theorem rmp_0a : ∀ t, t < 26 → rmp t = 0 → t = 24 := by decide +kernel
theorem rmp_0 {t : Nat} : rmp t = 0 ↔ t = 24 := by
  constructor
  · intro h
    by_cases c : t < 26
    · exact rmp_0a t c h
    · rw [rmp_num (by omega)] at h
      exact absurd h (by decide)
  · intro h
    rw [h]
    rfl
theorem last_ok (hN : N ≤ 200) (hL : ∀ i, i ≤ N → tq B n i < 10026) (h0 : LXc Mb B n) (hS : QC B n N Sb S at_ c) (hM : QM B n Mb M at_) (ha : at_ ≤ N) : (∀ f g, QF B n Sb Mb (cScribe_reads_L16 (f + 1) S (nI 3)) (rM_reads_L7 (g + 1) M (nI 3))) ∨ ∃ M', (∀ f, cScribe_reads_L16 (f + 1) S (nI 3) = some (-1, S)) ∧ (∀ g, rM_reads_L7 (g + 1) M (nI 3) = some (true, M')) ∧ LKF M M' ∧ (∀ j, (j < 15 ∨ 20 < j) → M' 154 j = Mb 154 j) := by
  obtain ⟨s1, s2, s3, s4, s5, s6, s7⟩ := hS
  obtain ⟨M1, l1, l2, l3, l4, l5, l6⟩ := looks_ok (hM.lx h0) hM.1
  have q1M : ∀ x, x ≠ 154 → x ≠ 163 → x ≠ 164 → M1 x = Mb x := fun x g1 g2 g3 => by rw [l2.1 x g1]; exact hM.2.1 x g1 g2 g3
  have q2M : ∀ j, (j < 15 ∨ 20 < j) → M1 154 j = Mb 154 j := fun j hj => by rw [l2.2 j (by omega)]; exact hM.2.2 j hj
  have hi : inb (S 137 5) 201 := by rw [s5]; exact nI_inb (by omega) (by decide)
  have hx : ix (S 137 5) = at_ := by rw [s5]; exact nI_ix (by omega)
  have e3 : (3 : Int32) ≤ nI 3 := by decide
  have hl := hL at_ ha
  by_cases c24 : tq B n at_ = 24
  · right
    refine ⟨M1, fun f => ?_, fun g => ?_, l2, q2M⟩
    · rw [cScribe_reads_L16, if_pos e3, if_pos hi, hx, (s4 at_ ha).1, c24, if_pos (by rfl)]
    · rw [rM_reads_L7, if_pos e3, l1, Option.bind_some, l5, if_pos (rmp_0.mpr c24)]
  · left
    intro f g
    refine ⟨at_, S, M1, ?_, ?_, l3, s1, q1M, q2M⟩
    · rw [cScribe_reads_L16, if_pos e3, if_pos hi, hx, (s4 at_ ha).1, if_neg (show ¬ nI (tq B n at_) = 24 from fun z => c24 ((nI_eq (b := 24) (by omega) (by decide)).mp z)), (s4 at_ ha).2]
    · rw [rM_reads_L7, if_pos e3, l1, Option.bind_some, l5, if_neg (fun z => c24 (rmp_0.mp z))]
/-- a text as both hold it -/
def TXT (S M : SS) : Prop := ∃ D0 D1 D2 : List Nat, EX D0 ∧ EX D1 ∧ EX D2 ∧ D0.length + D1.length + D2.length < 195 ∧ S 137 7 = nI (D0.length + D1.length + D2.length) ∧ S 142 1 = nI D0.length ∧ S 142 2 = nI (D0.length + D1.length) ∧ (∀ j, j < D0.length → S 141 j = cen (D0.getD j 0)) ∧ (∀ j, j < D1.length → S 141 (D0.length + j) = cen (D1.getD j 0)) ∧ (∀ j, j < D2.length → S 141 (D0.length + D1.length + j) = cen (D2.getD j 0)) ∧ M 163 0 = nI D0.length ∧ M 163 203 = nI D1.length ∧ M 163 406 = nI D2.length ∧ (∀ j, j < D0.length → M 163 (1 + j) = ren (D0.getD j 0)) ∧ (∀ j, j < D1.length → M 163 (204 + j) = ren (D1.getD j 0)) ∧ (∀ j, j < D2.length → M 163 (407 + j) = ren (D2.getD j 0))
theorem gd_r {c d : List Nat} {j : Nat} : (c ++ d).getD (c.length + j) 0 = d.getD j 0 := by
  rw [List.getD_eq_getElem?_getD, List.getD_eq_getElem?_getD, List.getElem?_append_right (by omega), Nat.add_sub_cancel_left]
theorem reads_ok (hc : CLc S B n) (h0 : LXc M B n) : QF B n S M (cScribe_reads S) (rM_reads M) ∨ ∃ S' M', cScribe_reads S = some (-1, S') ∧ rM_reads M = some (true, M') ∧ (∀ x, x ≠ 137 → x ≠ 139 → x ≠ 140 → x ≠ 141 → x ≠ 142 → S' x = S x) ∧ (∀ x, x ≠ 154 → x ≠ 163 → x ≠ 164 → M' x = M x) ∧ (∀ j, (j < 15 ∨ 20 < j) → M' 154 j = M 154 j) ∧ TXT S' M' := by
  have h200 := hc.1
  obtain ⟨N, S1, c1, c2, c3, c4, c5, c6, c7, c8⟩ := cut_ok hc
  have hL : ∀ i, i < N → tq B n i ≠ 24 ∧ tq B n i < 10026 := fun i hi => by
    have hp := (c5.2 i hi).2.2
    unfold tq tkE
    rw [if_pos hp]
    exact tkv_b hc.2.2.2 hp
  have hL2 : ∀ i, i ≤ N → tq B n i < 10026 := fun i hi => by
    by_cases e : i = N
    · rw [e, c8]; decide
    · exact (hL i (by omega)).2
  have q0 : QC B n N S (up (up S1 137 5 0) 137 7 0) 0 [] := by
    refine ⟨fun x g1 g2 g3 _ _ => by rw [up_o g1, up_o g1]; exact c3 x g1 g2 g3, fun i g1 g2 g3 => by rw [up_j g3, up_j g2]; exact c4 i g1, by rw [up_j (by decide), up_j (by decide)]; exact c5.1, fun i hi => ?_, by rw [up_j (by decide), up_s]; rfl, up_s, fun j hj => absurd hj (Nat.not_lt_zero _)⟩
    rw [up_x (by decide), up_x (by decide), up_x (by decide), up_x (by decide)]
    by_cases e : i = N
    · rw [e]; exact ⟨c6, c7⟩
    · have := c5.2 i (by omega)
      exact ⟨this.1, this.2.1⟩
  have m0 : QM B n M (up M 154 16 0) 0 := ⟨up_s, fun x g1 _ _ => up_o g1, fun j hj => up_j (by omega)⟩
  have eC : cScribe_reads S = cScribe_reads_L16 (19999 + 1) (up (up S1 137 5 0) 137 7 0) (nI 0) := by
    unfold cScribe_reads
    rw [c1, Option.bind_some]
    rfl
  have eM : rM_reads M = rM_reads_L7 (19999 + 1) (up M 154 16 0) (nI 0) := rfl
  rw [eC, eM]
  have hN : N ≤ 200 := by omega
  rcases part_ok hN c8 hL h0 (q := 0) (by decide) q0 m0 (Nat.zero_le _) (Nat.zero_le _) with r | ⟨a1, D0, A1, B1, r1, r2, r3, r4, r5, r6, r7, r8, r9, r10, r11, r12⟩
  · exact Or.inl (r 19999 19999)
  rw [r1, r2]
  rcases part_ok hN c8 hL h0 (q := 1) (by decide) r3 r4 r5 r6 with r | ⟨a2, D1, A2, B2, u1, u2, u3, u4, u5, u6, u7, u8, u9, u10, u11, u12⟩
  · exact Or.inl (r 19998 19998)
  rw [show (19999 : Nat) = 19998 + 1 from rfl, show nI (0 + 1) = nI 1 from rfl, u1, u2]
  rcases part_ok hN c8 hL h0 (q := 2) (by decide) u3 u4 u5 u6 with r | ⟨a3, D2, A3, B3, v1, v2, v3, v4, v5, v6, v7, v8, v9, v10, v11, v12⟩
  · exact Or.inl (r 19997 19997)
  rw [show (19998 : Nat) = 19997 + 1 from rfl, show nI (1 + 1) = nI 2 from rfl, v1, v2]
  rcases last_ok hN hL2 h0 v3 v4 v5 with r | ⟨M', w1, w2, w3, w4⟩
  · exact Or.inl (r 19996 19996)
  rw [show (19997 : Nat) = 19996 + 1 from rfl, show nI (2 + 1) = nI 3 from rfl, w1, w2]
  right
  have e163 : M' 163 = B3 163 := w3.1 163 (by decide)
  rw [List.nil_append] at *
  have l1 : (D0 ++ D1).length = D0.length + D1.length := List.length_append
  have l2 : (D0 ++ D1 ++ D2).length = D0.length + D1.length + D2.length := by rw [List.length_append, l1]
  refine ⟨A3, M', rfl, rfl, v3.1, fun x g1 g2 g3 => by rw [w3.1 x g1]; exact v4.2.1 x g1 g2 g3, w4, D0, D1, D2, r7, u7, v7, by omega, by rw [v3.2.2.2.2.2.1, l2], ?_, by rw [v8, l1], fun j hj => ?_, fun j hj => ?_, fun j hj => ?_, ?_, ?_, ?_, fun j hj => ?_, fun j hj => ?_, fun j hj => ?_⟩
  · rw [v9 1 (by decide), u8]
  · rw [v3.2.2.2.2.2.2 j (by omega), List.append_assoc, gd_l hj]
  · rw [v3.2.2.2.2.2.2 _ (by omega), List.append_assoc, gd_r, gd_l hj]
  · rw [v3.2.2.2.2.2.2 _ (by omega), ← l1, gd_r]
  · rw [e163, v12 0 (by omega), u12 0 (by omega)]
    exact r10
  · rw [e163, v12 203 (by omega)]
    exact u10
  · rw [e163]
    exact v10
  · rw [e163, v12 (1 + j) (by omega), u12 (1 + j) (by omega)]
    exact r11 j hj
  · rw [e163, v12 (204 + j) (by omega)]
    exact u11 j hj
  · rw [e163]
    exact v11 j hj
end Reads
